section
-- ===== PART A: goes FIRST, ahead of the names: the tables' words, and 'selects' of the private methods out of them =====
/-- a private method of a class that the tables say can be made, by its rows of tables_1 -/
def lw_okq (q : MethodName × Nat) : Prop := (q.1.cls ≠ "java/lang/invoke/MethodHandle" ∧ q.1.cls ≠ "java/lang/invoke/VarHandle") ∧ Cond.instantiable q.1.cls q.2 ∈ tables_1 ∧ Cond.privateMethod q.1 ∈ tables_1 ∧ Cond.instanceMethod q.1 ∈ tables_1
theorem lw_p0 : lw_okq (⟨"LastTrain$Town", "anyTieFades", "()Z"⟩, 9) := ⟨⟨by decide +kernel, by decide +kernel⟩, List.mem_of_getElem? (i := 19) (by decide +kernel), List.mem_of_getElem? (i := 299) (by decide +kernel), List.mem_of_getElem? (i := 300) (by decide +kernel)⟩
theorem lw_p1 : lw_okq (⟨"LastTrain$Town", "fades", "(II)Z"⟩, 9) := ⟨⟨by decide +kernel, by decide +kernel⟩, List.mem_of_getElem? (i := 19) (by decide +kernel), List.mem_of_getElem? (i := 303) (by decide +kernel), List.mem_of_getElem? (i := 304) (by decide +kernel)⟩
theorem lw_p2 : lw_okq (⟨"LastTrain$Town", "tieForbids", "(III)Z"⟩, 9) := ⟨⟨by decide +kernel, by decide +kernel⟩, List.mem_of_getElem? (i := 19) (by decide +kernel), List.mem_of_getElem? (i := 316) (by decide +kernel), List.mem_of_getElem? (i := 317) (by decide +kernel)⟩
theorem lw_p3 : lw_okq (⟨"LastTrain$Course", "runTrain", "()V"⟩, 7) := ⟨⟨by decide +kernel, by decide +kernel⟩, List.mem_of_getElem? (i := 76) (by decide +kernel), List.mem_of_getElem? (i := 320) (by decide +kernel), List.mem_of_getElem? (i := 321) (by decide +kernel)⟩
theorem lw_p4 : lw_okq (⟨"LastTrain$Town", "fadeAll", "()V"⟩, 9) := ⟨⟨by decide +kernel, by decide +kernel⟩, List.mem_of_getElem? (i := 19) (by decide +kernel), List.mem_of_getElem? (i := 365) (by decide +kernel), List.mem_of_getElem? (i := 366) (by decide +kernel)⟩
theorem lw_p5 : lw_okq (⟨"LastTrain$Platform", "afterNight", "(II)I"⟩, 4) := ⟨⟨by decide +kernel, by decide +kernel⟩, List.mem_of_getElem? (i := 113) (by decide +kernel), List.mem_of_getElem? (i := 414) (by decide +kernel), List.mem_of_getElem? (i := 415) (by decide +kernel)⟩
theorem lw_p6 : lw_okq (⟨"LastTrain$Platform", "areStrangers", "(I)Z"⟩, 4) := ⟨⟨by decide +kernel, by decide +kernel⟩, List.mem_of_getElem? (i := 113) (by decide +kernel), List.mem_of_getElem? (i := 454) (by decide +kernel), List.mem_of_getElem? (i := 455) (by decide +kernel)⟩
theorem lw_p7 : lw_okq (⟨"LastTrain$Answers", "startChances", "()V"⟩, 4) := ⟨⟨by decide +kernel, by decide +kernel⟩, List.mem_of_getElem? (i := 132) (by decide +kernel), List.mem_of_getElem? (i := 525) (by decide +kernel), List.mem_of_getElem? (i := 526) (by decide +kernel)⟩
theorem lw_p8 : lw_okq (⟨"LastTrain$Answers", "tooFew", "(I)J"⟩, 4) := ⟨⟨by decide +kernel, by decide +kernel⟩, List.mem_of_getElem? (i := 132) (by decide +kernel), List.mem_of_getElem? (i := 529) (by decide +kernel), List.mem_of_getElem? (i := 530) (by decide +kernel)⟩
theorem lw_p9 : lw_okq (⟨"LastTrain$Answers", "ringOne", "(I)V"⟩, 4) := ⟨⟨by decide +kernel, by decide +kernel⟩, List.mem_of_getElem? (i := 132) (by decide +kernel), List.mem_of_getElem? (i := 534) (by decide +kernel), List.mem_of_getElem? (i := 535) (by decide +kernel)⟩
theorem lw_p10 : lw_okq (⟨"LastTrain", "imageOf", "(I)LLastTrain$Town;"⟩, 8) := ⟨⟨by decide +kernel, by decide +kernel⟩, List.mem_of_getElem? (i := 11) (by decide +kernel), List.mem_of_getElem? (i := 562) (by decide +kernel), List.mem_of_getElem? (i := 563) (by decide +kernel)⟩
theorem lw_p11 : lw_okq (⟨"LastTrainModel", "setTie", "(IIII)V"⟩, 32) := ⟨⟨by decide +kernel, by decide +kernel⟩, List.mem_of_getElem? (i := 575) (by decide +kernel), List.mem_of_getElem? (i := 691) (by decide +kernel), List.mem_of_getElem? (i := 692) (by decide +kernel)⟩
theorem lw_p12 : lw_okq (⟨"LastTrainModel", "readOn", "(II)I"⟩, 32) := ⟨⟨by decide +kernel, by decide +kernel⟩, List.mem_of_getElem? (i := 575) (by decide +kernel), List.mem_of_getElem? (i := 723) (by decide +kernel), List.mem_of_getElem? (i := 724) (by decide +kernel)⟩
theorem lw_p13 : lw_okq (⟨"LastTrainModel", "begin", "(I)I"⟩, 32) := ⟨⟨by decide +kernel, by decide +kernel⟩, List.mem_of_getElem? (i := 575) (by decide +kernel), List.mem_of_getElem? (i := 727) (by decide +kernel), List.mem_of_getElem? (i := 728) (by decide +kernel)⟩
theorem lw_p14 : lw_okq (⟨"LastTrainModel", "close", "(I)I"⟩, 32) := ⟨⟨by decide +kernel, by decide +kernel⟩, List.mem_of_getElem? (i := 575) (by decide +kernel), List.mem_of_getElem? (i := 736) (by decide +kernel), List.mem_of_getElem? (i := 737) (by decide +kernel)⟩
theorem lw_p15 : lw_okq (⟨"LastTrainModel", "deed", "(I)I"⟩, 32) := ⟨⟨by decide +kernel, by decide +kernel⟩, List.mem_of_getElem? (i := 575) (by decide +kernel), List.mem_of_getElem? (i := 740) (by decide +kernel), List.mem_of_getElem? (i := 741) (by decide +kernel)⟩
def lw_privs_1 : List (MethodName × Nat) := [(⟨"LastTrain$Town", "anyTieFades", "()Z"⟩, 9), (⟨"LastTrain$Town", "fades", "(II)Z"⟩, 9), (⟨"LastTrain$Town", "tieForbids", "(III)Z"⟩, 9), (⟨"LastTrain$Course", "runTrain", "()V"⟩, 7), (⟨"LastTrain$Town", "fadeAll", "()V"⟩, 9), (⟨"LastTrain$Platform", "afterNight", "(II)I"⟩, 4), (⟨"LastTrain$Platform", "areStrangers", "(I)Z"⟩, 4), (⟨"LastTrain$Answers", "startChances", "()V"⟩, 4), (⟨"LastTrain$Answers", "tooFew", "(I)J"⟩, 4), (⟨"LastTrain$Answers", "ringOne", "(I)V"⟩, 4), (⟨"LastTrain", "imageOf", "(I)LLastTrain$Town;"⟩, 8), (⟨"LastTrainModel", "setTie", "(IIII)V"⟩, 32), (⟨"LastTrainModel", "readOn", "(II)I"⟩, 32), (⟨"LastTrainModel", "begin", "(I)I"⟩, 32), (⟨"LastTrainModel", "close", "(I)I"⟩, 32), (⟨"LastTrainModel", "deed", "(I)I"⟩, 32)]
theorem lw_r1 : ∀ q ∈ lw_privs_1, lw_okq q := List.forall_mem_cons.mpr ⟨lw_p0, List.forall_mem_cons.mpr ⟨lw_p1, List.forall_mem_cons.mpr ⟨lw_p2, List.forall_mem_cons.mpr ⟨lw_p3, List.forall_mem_cons.mpr ⟨lw_p4, List.forall_mem_cons.mpr ⟨lw_p5, List.forall_mem_cons.mpr ⟨lw_p6, List.forall_mem_cons.mpr ⟨lw_p7, List.forall_mem_cons.mpr ⟨lw_p8, List.forall_mem_cons.mpr ⟨lw_p9, List.forall_mem_cons.mpr ⟨lw_p10, List.forall_mem_cons.mpr ⟨lw_p11, List.forall_mem_cons.mpr ⟨lw_p12, List.forall_mem_cons.mpr ⟨lw_p13, List.forall_mem_cons.mpr ⟨lw_p14, List.forall_mem_cons.mpr ⟨lw_p15, fun _ h => absurd h List.not_mem_nil⟩⟩⟩⟩⟩⟩⟩⟩⟩⟩⟩⟩⟩⟩⟩⟩
theorem lw_p16 : lw_okq (⟨"LastTrainModel", "refusal", "()I"⟩, 32) := ⟨⟨by decide +kernel, by decide +kernel⟩, List.mem_of_getElem? (i := 575) (by decide +kernel), List.mem_of_getElem? (i := 749) (by decide +kernel), List.mem_of_getElem? (i := 750) (by decide +kernel)⟩
theorem lw_p17 : lw_okq (⟨"LastTrainModel", "keepNow", "()V"⟩, 32) := ⟨⟨by decide +kernel, by decide +kernel⟩, List.mem_of_getElem? (i := 575) (by decide +kernel), List.mem_of_getElem? (i := 753) (by decide +kernel), List.mem_of_getElem? (i := 754) (by decide +kernel)⟩
theorem lw_p18 : lw_okq (⟨"LastTrainModel", "goMonths", "()V"⟩, 32) := ⟨⟨by decide +kernel, by decide +kernel⟩, List.mem_of_getElem? (i := 575) (by decide +kernel), List.mem_of_getElem? (i := 758) (by decide +kernel), List.mem_of_getElem? (i := 759) (by decide +kernel)⟩
theorem lw_p19 : lw_okq (⟨"LastTrainModel", "whyNot", "(III)I"⟩, 32) := ⟨⟨by decide +kernel, by decide +kernel⟩, List.mem_of_getElem? (i := 575) (by decide +kernel), List.mem_of_getElem? (i := 762) (by decide +kernel), List.mem_of_getElem? (i := 763) (by decide +kernel)⟩
theorem lw_p20 : lw_okq (⟨"LastTrainModel", "canAnyFade", "()Z"⟩, 32) := ⟨⟨by decide +kernel, by decide +kernel⟩, List.mem_of_getElem? (i := 575) (by decide +kernel), List.mem_of_getElem? (i := 766) (by decide +kernel), List.mem_of_getElem? (i := 767) (by decide +kernel)⟩
theorem lw_p21 : lw_okq (⟨"LastTrainModel", "canFade", "(II)Z"⟩, 32) := ⟨⟨by decide +kernel, by decide +kernel⟩, List.mem_of_getElem? (i := 575) (by decide +kernel), List.mem_of_getElem? (i := 770) (by decide +kernel), List.mem_of_getElem? (i := 771) (by decide +kernel)⟩
theorem lw_p22 : lw_okq (⟨"LastTrainModel", "whyNoTie", "(III)I"⟩, 32) := ⟨⟨by decide +kernel, by decide +kernel⟩, List.mem_of_getElem? (i := 575) (by decide +kernel), List.mem_of_getElem? (i := 777) (by decide +kernel), List.mem_of_getElem? (i := 778) (by decide +kernel)⟩
theorem lw_p23 : lw_okq (⟨"LastTrainModel", "goOne", "(I)V"⟩, 32) := ⟨⟨by decide +kernel, by decide +kernel⟩, List.mem_of_getElem? (i := 575) (by decide +kernel), List.mem_of_getElem? (i := 781) (by decide +kernel), List.mem_of_getElem? (i := 782) (by decide +kernel)⟩
theorem lw_p24 : lw_okq (⟨"LastTrainModel", "happen", "(III)V"⟩, 32) := ⟨⟨by decide +kernel, by decide +kernel⟩, List.mem_of_getElem? (i := 575) (by decide +kernel), List.mem_of_getElem? (i := 785) (by decide +kernel), List.mem_of_getElem? (i := 786) (by decide +kernel)⟩
theorem lw_p25 : lw_okq (⟨"LastTrainModel", "meet", "(II)V"⟩, 32) := ⟨⟨by decide +kernel, by decide +kernel⟩, List.mem_of_getElem? (i := 575) (by decide +kernel), List.mem_of_getElem? (i := 789) (by decide +kernel), List.mem_of_getElem? (i := 790) (by decide +kernel)⟩
theorem lw_p26 : lw_okq (⟨"LastTrainModel", "quarrel", "(II)V"⟩, 32) := ⟨⟨by decide +kernel, by decide +kernel⟩, List.mem_of_getElem? (i := 575) (by decide +kernel), List.mem_of_getElem? (i := 793) (by decide +kernel), List.mem_of_getElem? (i := 794) (by decide +kernel)⟩
theorem lw_p27 : lw_okq (⟨"LastTrainModel", "night", "()V"⟩, 32) := ⟨⟨by decide +kernel, by decide +kernel⟩, List.mem_of_getElem? (i := 575) (by decide +kernel), List.mem_of_getElem? (i := 797) (by decide +kernel), List.mem_of_getElem? (i := 798) (by decide +kernel)⟩
theorem lw_p28 : lw_okq (⟨"LastTrainModel", "missedIn", "(I)I"⟩, 32) := ⟨⟨by decide +kernel, by decide +kernel⟩, List.mem_of_getElem? (i := 575) (by decide +kernel), List.mem_of_getElem? (i := 801) (by decide +kernel), List.mem_of_getElem? (i := 802) (by decide +kernel)⟩
theorem lw_p29 : lw_okq (⟨"LastTrainModel", "isMissedIn", "(II)Z"⟩, 32) := ⟨⟨by decide +kernel, by decide +kernel⟩, List.mem_of_getElem? (i := 575) (by decide +kernel), List.mem_of_getElem? (i := 805) (by decide +kernel), List.mem_of_getElem? (i := 806) (by decide +kernel)⟩
theorem lw_p30 : lw_okq (⟨"LastTrainModel", "tiesThatCount", "(II)I"⟩, 32) := ⟨⟨by decide +kernel, by decide +kernel⟩, List.mem_of_getElem? (i := 575) (by decide +kernel), List.mem_of_getElem? (i := 809) (by decide +kernel), List.mem_of_getElem? (i := 810) (by decide +kernel)⟩
theorem lw_p31 : lw_okq (⟨"LastTrainModel", "counts", "(II)Z"⟩, 32) := ⟨⟨by decide +kernel, by decide +kernel⟩, List.mem_of_getElem? (i := 575) (by decide +kernel), List.mem_of_getElem? (i := 813) (by decide +kernel), List.mem_of_getElem? (i := 814) (by decide +kernel)⟩
def lw_privs_2 : List (MethodName × Nat) := [(⟨"LastTrainModel", "refusal", "()I"⟩, 32), (⟨"LastTrainModel", "keepNow", "()V"⟩, 32), (⟨"LastTrainModel", "goMonths", "()V"⟩, 32), (⟨"LastTrainModel", "whyNot", "(III)I"⟩, 32), (⟨"LastTrainModel", "canAnyFade", "()Z"⟩, 32), (⟨"LastTrainModel", "canFade", "(II)Z"⟩, 32), (⟨"LastTrainModel", "whyNoTie", "(III)I"⟩, 32), (⟨"LastTrainModel", "goOne", "(I)V"⟩, 32), (⟨"LastTrainModel", "happen", "(III)V"⟩, 32), (⟨"LastTrainModel", "meet", "(II)V"⟩, 32), (⟨"LastTrainModel", "quarrel", "(II)V"⟩, 32), (⟨"LastTrainModel", "night", "()V"⟩, 32), (⟨"LastTrainModel", "missedIn", "(I)I"⟩, 32), (⟨"LastTrainModel", "isMissedIn", "(II)Z"⟩, 32), (⟨"LastTrainModel", "tiesThatCount", "(II)I"⟩, 32), (⟨"LastTrainModel", "counts", "(II)Z"⟩, 32)]
theorem lw_r2 : ∀ q ∈ lw_privs_2, lw_okq q := List.forall_mem_cons.mpr ⟨lw_p16, List.forall_mem_cons.mpr ⟨lw_p17, List.forall_mem_cons.mpr ⟨lw_p18, List.forall_mem_cons.mpr ⟨lw_p19, List.forall_mem_cons.mpr ⟨lw_p20, List.forall_mem_cons.mpr ⟨lw_p21, List.forall_mem_cons.mpr ⟨lw_p22, List.forall_mem_cons.mpr ⟨lw_p23, List.forall_mem_cons.mpr ⟨lw_p24, List.forall_mem_cons.mpr ⟨lw_p25, List.forall_mem_cons.mpr ⟨lw_p26, List.forall_mem_cons.mpr ⟨lw_p27, List.forall_mem_cons.mpr ⟨lw_p28, List.forall_mem_cons.mpr ⟨lw_p29, List.forall_mem_cons.mpr ⟨lw_p30, List.forall_mem_cons.mpr ⟨lw_p31, fun _ h => absurd h List.not_mem_nil⟩⟩⟩⟩⟩⟩⟩⟩⟩⟩⟩⟩⟩⟩⟩⟩
theorem lw_p32 : lw_okq (⟨"LastTrainModel", "dogOf", "(I)I"⟩, 32) := ⟨⟨by decide +kernel, by decide +kernel⟩, List.mem_of_getElem? (i := 575) (by decide +kernel), List.mem_of_getElem? (i := 817) (by decide +kernel), List.mem_of_getElem? (i := 818) (by decide +kernel)⟩
theorem lw_p33 : lw_okq (⟨"LastTrainModel", "tiesBetween", "(II)I"⟩, 32) := ⟨⟨by decide +kernel, by decide +kernel⟩, List.mem_of_getElem? (i := 575) (by decide +kernel), List.mem_of_getElem? (i := 821) (by decide +kernel), List.mem_of_getElem? (i := 822) (by decide +kernel)⟩
theorem lw_p34 : lw_okq (⟨"LastTrainModel", "month", "()V"⟩, 32) := ⟨⟨by decide +kernel, by decide +kernel⟩, List.mem_of_getElem? (i := 575) (by decide +kernel), List.mem_of_getElem? (i := 825) (by decide +kernel), List.mem_of_getElem? (i := 826) (by decide +kernel)⟩
theorem lw_p35 : lw_okq (⟨"LastTrainModel", "back", "(I)I"⟩, 32) := ⟨⟨by decide +kernel, by decide +kernel⟩, List.mem_of_getElem? (i := 575) (by decide +kernel), List.mem_of_getElem? (i := 832) (by decide +kernel), List.mem_of_getElem? (i := 833) (by decide +kernel)⟩
theorem lw_p36 : lw_okq (⟨"LastTrainModel", "ofOne", "(II)I"⟩, 32) := ⟨⟨by decide +kernel, by decide +kernel⟩, List.mem_of_getElem? (i := 575) (by decide +kernel), List.mem_of_getElem? (i := 841) (by decide +kernel), List.mem_of_getElem? (i := 842) (by decide +kernel)⟩
theorem lw_p37 : lw_okq (⟨"LastTrainModel", "staysBy", "(I)I"⟩, 32) := ⟨⟨by decide +kernel, by decide +kernel⟩, List.mem_of_getElem? (i := 575) (by decide +kernel), List.mem_of_getElem? (i := 861) (by decide +kernel), List.mem_of_getElem? (i := 862) (by decide +kernel)⟩
theorem lw_p38 : lw_okq (⟨"LastTrainModel", "isHere", "(I)Z"⟩, 32) := ⟨⟨by decide +kernel, by decide +kernel⟩, List.mem_of_getElem? (i := 575) (by decide +kernel), List.mem_of_getElem? (i := 869) (by decide +kernel), List.mem_of_getElem? (i := 870) (by decide +kernel)⟩
theorem lw_p39 : lw_okq (⟨"LastTrainModel", "areApart", "(I)Z"⟩, 32) := ⟨⟨by decide +kernel, by decide +kernel⟩, List.mem_of_getElem? (i := 575) (by decide +kernel), List.mem_of_getElem? (i := 881) (by decide +kernel), List.mem_of_getElem? (i := 882) (by decide +kernel)⟩
theorem lw_p40 : lw_okq (⟨"LastTrainModel", "readOdds", "(I)V"⟩, 32) := ⟨⟨by decide +kernel, by decide +kernel⟩, List.mem_of_getElem? (i := 575) (by decide +kernel), List.mem_of_getElem? (i := 891) (by decide +kernel), List.mem_of_getElem? (i := 892) (by decide +kernel)⟩
theorem lw_p41 : lw_okq (⟨"LastTrainModel", "yesBy", "(I)I"⟩, 32) := ⟨⟨by decide +kernel, by decide +kernel⟩, List.mem_of_getElem? (i := 575) (by decide +kernel), List.mem_of_getElem? (i := 915) (by decide +kernel), List.mem_of_getElem? (i := 916) (by decide +kernel)⟩
theorem lw_p42 : lw_okq (⟨"LastTrainModel", "bestTake", "(I)I"⟩, 32) := ⟨⟨by decide +kernel, by decide +kernel⟩, List.mem_of_getElem? (i := 575) (by decide +kernel), List.mem_of_getElem? (i := 936) (by decide +kernel), List.mem_of_getElem? (i := 937) (by decide +kernel)⟩
theorem lw_p43 : lw_okq (⟨"LastTrainModel", "passAll", "()V"⟩, 32) := ⟨⟨by decide +kernel, by decide +kernel⟩, List.mem_of_getElem? (i := 575) (by decide +kernel), List.mem_of_getElem? (i := 955) (by decide +kernel), List.mem_of_getElem? (i := 956) (by decide +kernel)⟩
theorem lw_p44 : lw_okq (⟨"LastTrainModel", "pass", "(I)I"⟩, 32) := ⟨⟨by decide +kernel, by decide +kernel⟩, List.mem_of_getElem? (i := 575) (by decide +kernel), List.mem_of_getElem? (i := 959) (by decide +kernel), List.mem_of_getElem? (i := 960) (by decide +kernel)⟩
theorem lw_p45 : lw_okq (⟨"LastTrainModel", "passRow", "([II)V"⟩, 32) := ⟨⟨by decide +kernel, by decide +kernel⟩, List.mem_of_getElem? (i := 575) (by decide +kernel), List.mem_of_getElem? (i := 963) (by decide +kernel), List.mem_of_getElem? (i := 964) (by decide +kernel)⟩
theorem lw_p46 : lw_okq (⟨"LastTrainModel", "toldOfAll", "(I)I"⟩, 32) := ⟨⟨by decide +kernel, by decide +kernel⟩, List.mem_of_getElem? (i := 575) (by decide +kernel), List.mem_of_getElem? (i := 980) (by decide +kernel), List.mem_of_getElem? (i := 981) (by decide +kernel)⟩
def lw_privs_3 : List (MethodName × Nat) := [(⟨"LastTrainModel", "dogOf", "(I)I"⟩, 32), (⟨"LastTrainModel", "tiesBetween", "(II)I"⟩, 32), (⟨"LastTrainModel", "month", "()V"⟩, 32), (⟨"LastTrainModel", "back", "(I)I"⟩, 32), (⟨"LastTrainModel", "ofOne", "(II)I"⟩, 32), (⟨"LastTrainModel", "staysBy", "(I)I"⟩, 32), (⟨"LastTrainModel", "isHere", "(I)Z"⟩, 32), (⟨"LastTrainModel", "areApart", "(I)Z"⟩, 32), (⟨"LastTrainModel", "readOdds", "(I)V"⟩, 32), (⟨"LastTrainModel", "yesBy", "(I)I"⟩, 32), (⟨"LastTrainModel", "bestTake", "(I)I"⟩, 32), (⟨"LastTrainModel", "passAll", "()V"⟩, 32), (⟨"LastTrainModel", "pass", "(I)I"⟩, 32), (⟨"LastTrainModel", "passRow", "([II)V"⟩, 32), (⟨"LastTrainModel", "toldOfAll", "(I)I"⟩, 32)]
theorem lw_r3 : ∀ q ∈ lw_privs_3, lw_okq q := List.forall_mem_cons.mpr ⟨lw_p32, List.forall_mem_cons.mpr ⟨lw_p33, List.forall_mem_cons.mpr ⟨lw_p34, List.forall_mem_cons.mpr ⟨lw_p35, List.forall_mem_cons.mpr ⟨lw_p36, List.forall_mem_cons.mpr ⟨lw_p37, List.forall_mem_cons.mpr ⟨lw_p38, List.forall_mem_cons.mpr ⟨lw_p39, List.forall_mem_cons.mpr ⟨lw_p40, List.forall_mem_cons.mpr ⟨lw_p41, List.forall_mem_cons.mpr ⟨lw_p42, List.forall_mem_cons.mpr ⟨lw_p43, List.forall_mem_cons.mpr ⟨lw_p44, List.forall_mem_cons.mpr ⟨lw_p45, List.forall_mem_cons.mpr ⟨lw_p46, fun _ h => absurd h List.not_mem_nil⟩⟩⟩⟩⟩⟩⟩⟩⟩⟩⟩⟩⟩⟩⟩
def lw_privs : List (MethodName × Nat) := lw_privs_1 ++ (lw_privs_2 ++ (lw_privs_3))
def lw_tbl : List Cond := k2_sels lw_privs ++ tables_1
theorem lw_privs_ok : ∀ q ∈ lw_privs, lw_okq q := by
  show ∀ q ∈ lw_privs_1 ++ (lw_privs_2 ++ (lw_privs_3)), lw_okq q
  exact List.forall_mem_append.mpr ⟨lw_r1, List.forall_mem_append.mpr ⟨lw_r2, lw_r3⟩⟩
end
section
theorem goodIn_r {big : List Cond} (ws : List Cond) (ps : List Nat) (hp : ws = ps.filterMap (fun i => big[i]?)) (h : ws.all goodWord = true) : GoodIn big ws := by
  intro w hw
  have h1 := List.all_eq_true.mp h w hw
  rw [hp] at hw
  obtain ⟨i, -, hi⟩ := List.mem_filterMap.mp hw
  have hm : w ∈ big := by first | exact List.mem_of_getElem? hi | exact List.getElem?_mem hi
  exact ⟨hm, good_of_word h1⟩
theorem goodIn_app {big a b : List Cond} (ha : GoodIn big a) (hb : GoodIn big b) : GoodIn big (a ++ b) := fun w h => (List.mem_append.mp h).elim (ha w) (hb w)
theorem goodIn_ca {big a b : List Cond} {c : Cond} (ha : GoodIn big (c :: a)) (hb : GoodIn big b) : GoodIn big (c :: (a ++ b)) := fun w h => (List.mem_cons.mp h).elim (fun e => ha w (List.mem_cons.mpr (Or.inl e))) (fun h => (List.mem_append.mp h).elim (fun h => ha w (List.mem_cons.mpr (Or.inr h))) (hb w))
theorem goodIn_sub {big ws : List Cond} (hm : ∀ w ∈ ws, w ∈ big) (h : ws.all goodWord = true) : GoodIn big ws := fun w hw => ⟨hm w hw, good_of_word (List.all_eq_true.mp h w hw)⟩
def RX0 : String := "LastTrain$Answers"
def TX0 : u_T := fun k => match k with
  | 0 => ("LastTrain$Answers", "chances", "[J", true)
  | 1 => ("LastTrain$Answers", "enoughSaidIt", "J", false)
  | 2 => ("LastTrain$Answers", "callsMade", "J", false)
  | _ => ("LastTrain$Answers", "lower", "J", false)
def tyX0 : Nat → FieldType := fun k => match k with
  | 0 => .array .long
  | 1 => .long
  | 2 => .long
  | _ => .long
abbrev wsX00 : List Cond := u_ws RX0 TX0 4
theorem nmX0 : ∀ a, a < 4 → ∀ b, b < 4 → a ≠ b → (TX0 a).2.1 ≠ (TX0 b).2.1 := by decide +kernel
theorem tyX0_ok : ∀ k, k < 4 → parseFieldDescriptor (TX0 k).2.2.1 = some (tyX0 k) := by decide +kernel
abbrev cX0_init : ByteArray := prog_2_method_1_code
def yX0_init : MethodName := ⟨RX0, "<init>", "()V"⟩
abbrev cX0_ringAll : ByteArray := prog_2_method_2_code
def yX0_ringAll : MethodName := ⟨RX0, "ringAll", "(III)V"⟩
abbrev cX0_startChances : ByteArray := prog_2_method_3_code
def yX0_startChances : MethodName := ⟨RX0, "startChances", "()V"⟩
abbrev cX0_ringOne : ByteArray := prog_2_method_4_code
def yX0_ringOne : MethodName := ⟨RX0, "ringOne", "(I)V"⟩
abbrev cX0_tooFew : ByteArray := prog_2_method_5_code
def yX0_tooFew : MethodName := ⟨RX0, "tooFew", "(I)J"⟩
def RX1 : String := "LastTrain$Course"
def TX1 : u_T := fun k => match k with
  | 0 => ("LastTrain$Course", "town", "LLastTrain$Town;", true)
  | 1 => ("LastTrain$Course", "acts", "I", false)
  | 2 => ("LastTrain$Course", "stuckReason", "I", false)
  | 3 => ("LastTrain$Course", "wentCount", "I", false)
  | 4 => ("LastTrain$Course", "cut", "I", false)
  | 5 => ("LastTrain$Course", "takenAct", "I", false)
  | _ => ("LastTrain$Course", "takenOne", "I", false)
def tyX1 : Nat → FieldType := fun k => match k with
  | 0 => .object "LastTrain$Town"
  | 1 => .int
  | 2 => .int
  | 3 => .int
  | 4 => .int
  | 5 => .int
  | _ => .int
abbrev wsX10 : List Cond := u_ws RX1 TX1 7
theorem nmX1 : ∀ a, a < 7 → ∀ b, b < 7 → a ≠ b → (TX1 a).2.1 ≠ (TX1 b).2.1 := by decide +kernel
theorem tyX1_ok : ∀ k, k < 7 → parseFieldDescriptor (TX1 k).2.2.1 = some (tyX1 k) := by decide +kernel
abbrev cX1_init : ByteArray := prog_3_method_1_code
def yX1_init : MethodName := ⟨RX1, "<init>", "()V"⟩
abbrev cX1_startFrom : ByteArray := prog_3_method_2_code
def yX1_startFrom : MethodName := ⟨RX1, "startFrom", "(LLastTrain$Town;)V"⟩
abbrev cX1_play : ByteArray := prog_3_method_3_code
def yX1_play : MethodName := ⟨RX1, "play", "(LLastTrain$Pad;LLastTrain$Town;)I"⟩
abbrev cX1_attempt : ByteArray := prog_3_method_4_code
def yX1_attempt : MethodName := ⟨RX1, "attempt", "(III)I"⟩
abbrev cX1_runTrain : ByteArray := prog_3_method_5_code
def yX1_runTrain : MethodName := ⟨RX1, "runTrain", "()V"⟩
def RX2 : String := "LastTrain$Pad"
def TX2 : u_T := fun k => match k with
  | 0 => ("LastTrain$Pad", "signs", "[I", true)
  | _ => ("LastTrain$Pad", "length", "I", false)
def tyX2 : Nat → FieldType := fun k => match k with
  | 0 => .array .int
  | _ => .int
abbrev wsX20 : List Cond := u_ws RX2 TX2 2
theorem nmX2 : ∀ a, a < 2 → ∀ b, b < 2 → a ≠ b → (TX2 a).2.1 ≠ (TX2 b).2.1 := by decide +kernel
theorem tyX2_ok : ∀ k, k < 2 → parseFieldDescriptor (TX2 k).2.2.1 = some (tyX2 k) := by decide +kernel
abbrev cX2_init : ByteArray := prog_4_method_1_code
def yX2_init : MethodName := ⟨RX2, "<init>", "()V"⟩
abbrev cX2_add : ByteArray := prog_4_method_2_code
def yX2_add : MethodName := ⟨RX2, "add", "(I)Z"⟩
abbrev cX2_signAt : ByteArray := prog_4_method_3_code
def yX2_signAt : MethodName := ⟨RX2, "signAt", "(I)I"⟩
abbrev cX2_firstFault : ByteArray := prog_4_method_4_code
def yX2_firstFault : MethodName := ⟨RX2, "firstFault", "()I"⟩
abbrev cX2_dueAfter : ByteArray := prog_4_method_5_code
def yX2_dueAfter : MethodName := ⟨RX2, "dueAfter", "(II)I"⟩
abbrev cX2_isOfTwo : ByteArray := prog_4_method_6_code
def yX2_isOfTwo : MethodName := ⟨RX2, "isOfTwo", "(I)Z"⟩
abbrev cX2_isOfNobody : ByteArray := prog_4_method_7_code
def yX2_isOfNobody : MethodName := ⟨RX2, "isOfNobody", "(I)Z"⟩
abbrev cX2_deedFrom : ByteArray := prog_4_method_8_code
def yX2_deedFrom : MethodName := ⟨RX2, "deedFrom", "(I)I"⟩
abbrev cX2_lengthOf : ByteArray := prog_4_method_9_code
def yX2_lengthOf : MethodName := ⟨RX2, "lengthOf", "(I)I"⟩
def RX3 : String := "LastTrain$Platform"
def TX3 : u_T := fun k => match k with
  | 0 => ("LastTrain$Platform", "missing", "[I", true)
  | 1 => ("LastTrain$Platform", "needed", "[I", true)
  | 2 => ("LastTrain$Platform", "tied", "[I", true)
  | _ => ("LastTrain$Platform", "here", "I", false)
def tyX3 : Nat → FieldType := fun k => match k with
  | 0 => .array .int
  | 1 => .array .int
  | 2 => .array .int
  | _ => .int
abbrev wsX30 : List Cond := u_ws RX3 TX3 4
theorem nmX3 : ∀ a, a < 4 → ∀ b, b < 4 → a ≠ b → (TX3 a).2.1 ≠ (TX3 b).2.1 := by decide +kernel
theorem tyX3_ok : ∀ k, k < 4 → parseFieldDescriptor (TX3 k).2.2.1 = some (tyX3 k) := by decide +kernel
abbrev cX3_init : ByteArray := prog_5_method_1_code
def yX3_init : MethodName := ⟨RX3, "<init>", "()V"⟩
abbrev cX3_lookAt : ByteArray := prog_5_method_2_code
def yX3_lookAt : MethodName := ⟨RX3, "lookAt", "(LLastTrain$Town;)V"⟩
abbrev cX3_afterNight : ByteArray := prog_5_method_3_code
def yX3_afterNight : MethodName := ⟨RX3, "afterNight", "(II)I"⟩
abbrev cX3_remaining : ByteArray := prog_5_method_4_code
def yX3_remaining : MethodName := ⟨RX3, "remaining", "(I)I"⟩
abbrev cX3_nightsOfLeaving : ByteArray := prog_5_method_5_code
def yX3_nightsOfLeaving : MethodName := ⟨RX3, "nightsOfLeaving", "()I"⟩
abbrev cX3_fewestToKeep : ByteArray := prog_5_method_6_code
def yX3_fewestToKeep : MethodName := ⟨RX3, "fewestToKeep", "(I)I"⟩
abbrev cX3_mostStrangers : ByteArray := prog_5_method_7_code
def yX3_mostStrangers : MethodName := ⟨RX3, "mostStrangers", "(LLastTrain$Town;I)I"⟩
abbrev cX3_areStrangers : ByteArray := prog_5_method_8_code
def yX3_areStrangers : MethodName := ⟨RX3, "areStrangers", "(I)Z"⟩
def RX4 : String := "LastTrain$Town"
def TX4 : u_T := fun k => match k with
  | 0 => ("LastTrain$Town", "here", "I", false)
  | 1 => ("LastTrain$Town", "dogs", "I", false)
  | 2 => ("LastTrain$Town", "waiting", "I", false)
  | 3 => ("LastTrain$Town", "sights", "I", false)
  | 4 => ("LastTrain$Town", "yeses", "I", false)
  | 5 => ("LastTrain$Town", "strengths", "[I", true)
  | 6 => ("LastTrain$Town", "kinds", "[I", true)
  | 7 => ("LastTrain$Town", "rules", "[I", true)
  | _ => ("LastTrain$Town", "rungOnes", "[I", true)
def tyX4 : Nat → FieldType := fun k => match k with
  | 0 => .int
  | 1 => .int
  | 2 => .int
  | 3 => .int
  | 4 => .int
  | 5 => .array .int
  | 6 => .array .int
  | 7 => .array .int
  | _ => .array .int
abbrev wsX40 : List Cond := u_ws RX4 TX4 9
theorem nmX4 : ∀ a, a < 9 → ∀ b, b < 9 → a ≠ b → (TX4 a).2.1 ≠ (TX4 b).2.1 := by decide +kernel
theorem tyX4_ok : ∀ k, k < 9 → parseFieldDescriptor (TX4 k).2.2.1 = some (tyX4 k) := by decide +kernel
abbrev cX4_init : ByteArray := prog_6_method_1_code
def yX4_init : MethodName := ⟨RX4, "<init>", "()V"⟩
abbrev cX4_copyFrom : ByteArray := prog_6_method_2_code
def yX4_copyFrom : MethodName := ⟨RX4, "copyFrom", "(LLastTrain$Town;)V"⟩
abbrev cX4_copyRow : ByteArray := prog_6_method_3_code
def yX4_copyRow : MethodName := ⟨RX4, "copyRow", "([I[I)V"⟩
abbrev cX4_strength : ByteArray := prog_6_method_4_code
def yX4_strength : MethodName := ⟨RX4, "strength", "(II)I"⟩
abbrev cX4_kind : ByteArray := prog_6_method_5_code
def yX4_kind : MethodName := ⟨RX4, "kind", "(II)I"⟩
abbrev cX4_bind : ByteArray := prog_6_method_6_code
def yX4_bind : MethodName := ⟨RX4, "bind", "(IIII)V"⟩
abbrev cX4_rule : ByteArray := prog_6_method_7_code
def yX4_rule : MethodName := ⟨RX4, "rule", "(I)I"⟩
abbrev cX4_setRule : ByteArray := prog_6_method_8_code
def yX4_setRule : MethodName := ⟨RX4, "setRule", "(II)V"⟩
abbrev cX4_isHere : ByteArray := prog_6_method_9_code
def yX4_isHere : MethodName := ⟨RX4, "isHere", "(I)Z"⟩
abbrev cX4_place : ByteArray := prog_6_method_10_code
def yX4_place : MethodName := ⟨RX4, "place", "(IZZ)V"⟩
abbrev cX4_tiedTo : ByteArray := prog_6_method_11_code
def yX4_tiedTo : MethodName := ⟨RX4, "tiedTo", "(II)I"⟩
abbrev cX4_missingIt : ByteArray := prog_6_method_12_code
def yX4_missingIt : MethodName := ⟨RX4, "missingIt", "(I)I"⟩
abbrev cX4_tiesNeeded : ByteArray := prog_6_method_13_code
def yX4_tiesNeeded : MethodName := ⟨RX4, "tiesNeeded", "(I)I"⟩
abbrev cX4_missed : ByteArray := prog_6_method_14_code
def yX4_missed : MethodName := ⟨RX4, "missed", "()I"⟩
abbrev cX4_strengthBetween : ByteArray := prog_6_method_15_code
def yX4_strengthBetween : MethodName := ⟨RX4, "strengthBetween", "(II)I"⟩
abbrev cX4_strengthOfAll : ByteArray := prog_6_method_16_code
def yX4_strengthOfAll : MethodName := ⟨RX4, "strengthOfAll", "()I"⟩
abbrev cX4_toldOf : ByteArray := prog_6_method_17_code
def yX4_toldOf : MethodName := ⟨RX4, "toldOf", "(II)I"⟩
abbrev cX4_reasonAgainst : ByteArray := prog_6_method_18_code
def yX4_reasonAgainst : MethodName := ⟨RX4, "reasonAgainst", "(III)I"⟩
abbrev cX4_tieForbids : ByteArray := prog_6_method_19_code
def yX4_tieForbids : MethodName := ⟨RX4, "tieForbids", "(III)Z"⟩
abbrev cX4_fades : ByteArray := prog_6_method_20_code
def yX4_fades : MethodName := ⟨RX4, "fades", "(II)Z"⟩
abbrev cX4_anyTieFades : ByteArray := prog_6_method_21_code
def yX4_anyTieFades : MethodName := ⟨RX4, "anyTieFades", "()Z"⟩
abbrev cX4_fadeAll : ByteArray := prog_6_method_22_code
def yX4_fadeAll : MethodName := ⟨RX4, "fadeAll", "()V"⟩
abbrev cX4_perform : ByteArray := prog_6_method_23_code
def yX4_perform : MethodName := ⟨RX4, "perform", "(III)V"⟩
abbrev cX4_endNight : ByteArray := prog_6_method_24_code
def yX4_endNight : MethodName := ⟨RX4, "endNight", "(I)V"⟩
abbrev cX4_addSight : ByteArray := prog_6_method_25_code
def yX4_addSight : MethodName := ⟨RX4, "addSight", "(IZ)Z"⟩
abbrev cX4_dropSights : ByteArray := prog_6_method_26_code
def yX4_dropSights : MethodName := ⟨RX4, "dropSights", "()V"⟩
abbrev cX4_fitting : ByteArray := prog_6_method_27_code
def yX4_fitting : MethodName := ⟨RX4, "fitting", "()I"⟩
abbrev cX4_leftAtMost : ByteArray := prog_6_method_28_code
def yX4_leftAtMost : MethodName := ⟨RX4, "leftAtMost", "(II)I"⟩
def RX5 : String := "LastTrain"
def TX5 : u_T := fun k => match k with
  | 0 => ("LastTrain", "town", "LLastTrain$Town;", true)
  | 1 => ("LastTrain", "firstImage", "LLastTrain$Town;", true)
  | 2 => ("LastTrain", "secondImage", "LLastTrain$Town;", true)
  | 3 => ("LastTrain", "imagesKept", "I", false)
  | 4 => ("LastTrain", "pad", "LLastTrain$Pad;", true)
  | 5 => ("LastTrain", "course", "LLastTrain$Course;", true)
  | 6 => ("LastTrain", "platform", "LLastTrain$Platform;", true)
  | _ => ("LastTrain", "round", "LLastTrain$Answers;", true)
def tyX5 : Nat → FieldType := fun k => match k with
  | 0 => .object "LastTrain$Town"
  | 1 => .object "LastTrain$Town"
  | 2 => .object "LastTrain$Town"
  | 3 => .int
  | 4 => .object "LastTrain$Pad"
  | 5 => .object "LastTrain$Course"
  | 6 => .object "LastTrain$Platform"
  | _ => .object "LastTrain$Answers"
abbrev wsX50 : List Cond := u_ws RX5 TX5 8
theorem nmX5 : ∀ a, a < 8 → ∀ b, b < 8 → a ≠ b → (TX5 a).2.1 ≠ (TX5 b).2.1 := by decide +kernel
theorem tyX5_ok : ∀ k, k < 8 → parseFieldDescriptor (TX5 k).2.2.1 = some (tyX5 k) := by decide +kernel
abbrev cX5_init : ByteArray := prog_1_method_1_code
def yX5_init : MethodName := ⟨RX5, "<init>", "()V"⟩
abbrev cX5_tie : ByteArray := prog_1_method_2_code
def yX5_tie : MethodName := ⟨RX5, "tie", "(IIII)I"⟩
abbrev cX5_one : ByteArray := prog_1_method_3_code
def yX5_one : MethodName := ⟨RX5, "one", "(III)I"⟩
abbrev cX5_law : ByteArray := prog_1_method_4_code
def yX5_law : MethodName := ⟨RX5, "law", "(II)I"⟩
abbrev cX5_say : ByteArray := prog_1_method_5_code
def yX5_say : MethodName := ⟨RX5, "say", "(I)I"⟩
abbrev cX5_wipe : ByteArray := prog_1_method_6_code
def yX5_wipe : MethodName := ⟨RX5, "wipe", "()I"⟩
abbrev cX5_fault : ByteArray := prog_1_method_7_code
def yX5_fault : MethodName := ⟨RX5, "fault", "()I"⟩
abbrev cX5_judge : ByteArray := prog_1_method_8_code
def yX5_judge : MethodName := ⟨RX5, "judge", "(I)I"⟩
abbrev cX5_behind : ByteArray := prog_1_method_9_code
def yX5_behind : MethodName := ⟨RX5, "behind", "(II)I"⟩
abbrev cX5_city : ByteArray := prog_1_method_10_code
def yX5_city : MethodName := ⟨RX5, "city", "(I)I"⟩
abbrev cX5_taken : ByteArray := prog_1_method_11_code
def yX5_taken : MethodName := ⟨RX5, "taken", "(I)I"⟩
abbrev cX5_done : ByteArray := prog_1_method_12_code
def yX5_done : MethodName := ⟨RX5, "done", "()I"⟩
abbrev cX5_stays : ByteArray := prog_1_method_13_code
def yX5_stays : MethodName := ⟨RX5, "stays", "(I)I"⟩
abbrev cX5_keep : ByteArray := prog_1_method_14_code
def yX5_keep : MethodName := ⟨RX5, "keep", "(II)I"⟩
abbrev cX5_loose : ByteArray := prog_1_method_15_code
def yX5_loose : MethodName := ⟨RX5, "loose", "(II)I"⟩
abbrev cX5_seats : ByteArray := prog_1_method_16_code
def yX5_seats : MethodName := ⟨RX5, "seats", "(II)I"⟩
abbrev cX5_calls : ByteArray := prog_1_method_17_code
def yX5_calls : MethodName := ⟨RX5, "calls", "(II)J"⟩
abbrev cX5_order : ByteArray := prog_1_method_18_code
def yX5_order : MethodName := ⟨RX5, "order", "(I)I"⟩
abbrev cX5_rung : ByteArray := prog_1_method_19_code
def yX5_rung : MethodName := ⟨RX5, "rung", "(IZ)I"⟩
abbrev cX5_forget : ByteArray := prog_1_method_20_code
def yX5_forget : MethodName := ⟨RX5, "forget", "()I"⟩
abbrev cX5_who : ByteArray := prog_1_method_21_code
def yX5_who : MethodName := ⟨RX5, "who", "()I"⟩
abbrev cX5_ring : ByteArray := prog_1_method_22_code
def yX5_ring : MethodName := ⟨RX5, "ring", "(I)I"⟩
abbrev cX5_answers : ByteArray := prog_1_method_23_code
def yX5_answers : MethodName := ⟨RX5, "answers", "(IIII)J"⟩
abbrev cX5_number : ByteArray := prog_1_method_24_code
def yX5_number : MethodName := ⟨RX5, "number", "(II)I"⟩
abbrev cX5_year : ByteArray := prog_1_method_25_code
def yX5_year : MethodName := ⟨RX5, "year", "(III)I"⟩
abbrev cX5_image : ByteArray := prog_1_method_26_code
def yX5_image : MethodName := ⟨RX5, "image", "(I)I"⟩
abbrev cX5_restore : ByteArray := prog_1_method_27_code
def yX5_restore : MethodName := ⟨RX5, "restore", "(I)I"⟩
abbrev cX5_told : ByteArray := prog_1_method_28_code
def yX5_told : MethodName := ⟨RX5, "told", "(I)I"⟩
abbrev cX5_imageOf : ByteArray := prog_1_method_29_code
def yX5_imageOf : MethodName := ⟨RX5, "imageOf", "(I)LLastTrain$Town;"⟩
abbrev cX5_isWithin : ByteArray := prog_1_method_30_code
def yX5_isWithin : MethodName := ⟨RX5, "isWithin", "(III)Z"⟩
abbrev cX5_isFlag : ByteArray := prog_1_method_31_code
def yX5_isFlag : MethodName := ⟨RX5, "isFlag", "(I)Z"⟩
abbrev cX5_isOne : ByteArray := prog_1_method_32_code
def yX5_isOne : MethodName := ⟨RX5, "isOne", "(I)Z"⟩
abbrev cX5_isLetter : ByteArray := prog_1_method_33_code
def yX5_isLetter : MethodName := ⟨RX5, "isLetter", "(I)Z"⟩
abbrev cX5_isLawful : ByteArray := prog_1_method_34_code
def yX5_isLawful : MethodName := ⟨RX5, "isLawful", "(II)Z"⟩
abbrev cX5_holds : ByteArray := prog_1_method_35_code
def yX5_holds : MethodName := ⟨RX5, "holds", "(II)Z"⟩
abbrev cX5_leastOf : ByteArray := prog_1_method_36_code
def yX5_leastOf : MethodName := ⟨RX5, "leastOf", "(II)I"⟩
abbrev cX5_leastOne : ByteArray := prog_1_method_37_code
def yX5_leastOne : MethodName := ⟨RX5, "leastOne", "(I)I"⟩
abbrev cX5_digit : ByteArray := prog_1_method_38_code
def yX5_digit : MethodName := ⟨RX5, "digit", "(II)I"⟩
abbrev cX5_likeliest : ByteArray := prog_1_method_39_code
def yX5_likeliest : MethodName := ⟨RX5, "likeliest", "(II)I"⟩
abbrev cX5_drawnDeed : ByteArray := prog_1_method_40_code
def yX5_drawnDeed : MethodName := ⟨RX5, "drawnDeed", "(I)I"⟩
abbrev cX5_partOf : ByteArray := prog_1_method_41_code
def yX5_partOf : MethodName := ⟨RX5, "partOf", "(JJI)J"⟩
abbrev cX5_commonDivisor : ByteArray := prog_1_method_42_code
def yX5_commonDivisor : MethodName := ⟨RX5, "commonDivisor", "(JJ)J"⟩
def RX6 : String := "LastTrainModel"
def TX6 : u_T := fun k => match k with
  | 0 => ("LastTrainModel", "here", "I", false)
  | 1 => ("LastTrainModel", "dogs", "I", false)
  | 2 => ("LastTrainModel", "waiting", "I", false)
  | 3 => ("LastTrainModel", "strong", "[I", true)
  | 4 => ("LastTrainModel", "kind", "[I", true)
  | 5 => ("LastTrainModel", "laws", "[I", true)
  | 6 => ("LastTrainModel", "sightOne", "[I", true)
  | 7 => ("LastTrainModel", "sightYes", "[I", true)
  | 8 => ("LastTrainModel", "sights", "I", false)
  | 9 => ("LastTrainModel", "pad", "[I", true)
  | 10 => ("LastTrainModel", "padMany", "I", false)
  | 11 => ("LastTrainModel", "act", "[I", true)
  | 12 => ("LastTrainModel", "who", "[I", true)
  | 13 => ("LastTrainModel", "whom", "[I", true)
  | 14 => ("LastTrainModel", "acts", "I", false)
  | 15 => ("LastTrainModel", "wentMany", "I", false)
  | 16 => ("LastTrainModel", "cut", "I", false)
  | 17 => ("LastTrainModel", "nightWent", "I", false)
  | 18 => ("LastTrainModel", "had", "[I", true)
  | 19 => ("LastTrainModel", "badAct", "I", false)
  | 20 => ("LastTrainModel", "badWhy", "I", false)
  | 21 => ("LastTrainModel", "takenAct", "I", false)
  | 22 => ("LastTrainModel", "takenWho", "I", false)
  | 23 => ("LastTrainModel", "nights", "I", false)
  | 24 => ("LastTrainModel", "odds", "[I", true)
  | 25 => ("LastTrainModel", "row", "[I", true)
  | 26 => ("LastTrainModel", "parts", "[J", true)
  | 27 => ("LastTrainModel", "takes", "[I", true)
  | 28 => ("LastTrainModel", "kept", "[I", true)
  | 29 => ("LastTrainModel", "isKept", "[Z", true)
  | 30 => ("LastTrainModel", "keptAt", "I", false)
  | _ => ("LastTrainModel", "isWriting", "Z", false)
def tyX6 : Nat → FieldType := fun k => match k with
  | 0 => .int
  | 1 => .int
  | 2 => .int
  | 3 => .array .int
  | 4 => .array .int
  | 5 => .array .int
  | 6 => .array .int
  | 7 => .array .int
  | 8 => .int
  | 9 => .array .int
  | 10 => .int
  | 11 => .array .int
  | 12 => .array .int
  | 13 => .array .int
  | 14 => .int
  | 15 => .int
  | 16 => .int
  | 17 => .int
  | 18 => .array .int
  | 19 => .int
  | 20 => .int
  | 21 => .int
  | 22 => .int
  | 23 => .int
  | 24 => .array .int
  | 25 => .array .int
  | 26 => .array .long
  | 27 => .array .int
  | 28 => .array .int
  | 29 => .array .boolean
  | 30 => .int
  | _ => .boolean
abbrev wsX60 : List Cond := u_ws RX6 TX6 32
theorem nmX6 : ∀ a, a < 32 → ∀ b, b < 32 → a ≠ b → (TX6 a).2.1 ≠ (TX6 b).2.1 := by decide +kernel
theorem tyX6_ok : ∀ k, k < 32 → parseFieldDescriptor (TX6 k).2.2.1 = some (tyX6 k) := by decide +kernel
abbrev cX6_init : ByteArray := prog_8_method_1_code
def yX6_init : MethodName := ⟨RX6, "<init>", "()V"⟩
abbrev cX6_in : ByteArray := prog_8_method_3_code
def yX6_in : MethodName := ⟨RX6, "in", "(JJJ)Z"⟩
abbrev cX6_ones : ByteArray := prog_8_method_4_code
def yX6_ones : MethodName := ⟨RX6, "ones", "(I)I"⟩
abbrev cX6_isOne : ByteArray := prog_8_method_5_code
def yX6_isOne : MethodName := ⟨RX6, "isOne", "(I)Z"⟩
abbrev cX6_has : ByteArray := prog_8_method_6_code
def yX6_has : MethodName := ⟨RX6, "has", "(II)Z"⟩
abbrev cX6_setTie : ByteArray := prog_8_method_7_code
def yX6_setTie : MethodName := ⟨RX6, "setTie", "(IIII)V"⟩
abbrev cX6_tie : ByteArray := prog_8_method_8_code
def yX6_tie : MethodName := ⟨RX6, "tie", "(IIII)I"⟩
abbrev cX6_with : ByteArray := prog_8_method_9_code
def yX6_with : MethodName := ⟨RX6, "with", "(III)I"⟩
abbrev cX6_one : ByteArray := prog_8_method_10_code
def yX6_one : MethodName := ⟨RX6, "one", "(III)I"⟩
abbrev cX6_law : ByteArray := prog_8_method_11_code
def yX6_law : MethodName := ⟨RX6, "law", "(II)I"⟩
abbrev cX6_say : ByteArray := prog_8_method_12_code
def yX6_say : MethodName := ⟨RX6, "say", "(I)I"⟩
abbrev cX6_wipe : ByteArray := prog_8_method_13_code
def yX6_wipe : MethodName := ⟨RX6, "wipe", "()I"⟩
abbrev cX6_close : ByteArray := prog_8_method_14_code
def yX6_close : MethodName := ⟨RX6, "close", "(I)I"⟩
abbrev cX6_isLetter : ByteArray := prog_8_method_15_code
def yX6_isLetter : MethodName := ⟨RX6, "isLetter", "(I)Z"⟩
abbrev cX6_begin : ByteArray := prog_8_method_16_code
def yX6_begin : MethodName := ⟨RX6, "begin", "(I)I"⟩
abbrev cX6_deed : ByteArray := prog_8_method_17_code
def yX6_deed : MethodName := ⟨RX6, "deed", "(I)I"⟩
abbrev cX6_readOn : ByteArray := prog_8_method_18_code
def yX6_readOn : MethodName := ⟨RX6, "readOn", "(II)I"⟩
abbrev cX6_fault : ByteArray := prog_8_method_19_code
def yX6_fault : MethodName := ⟨RX6, "fault", "()I"⟩
abbrev cX6_counts : ByteArray := prog_8_method_20_code
def yX6_counts : MethodName := ⟨RX6, "counts", "(II)Z"⟩
abbrev cX6_tiesThatCount : ByteArray := prog_8_method_21_code
def yX6_tiesThatCount : MethodName := ⟨RX6, "tiesThatCount", "(II)I"⟩
abbrev cX6_dogOf : ByteArray := prog_8_method_22_code
def yX6_dogOf : MethodName := ⟨RX6, "dogOf", "(I)I"⟩
abbrev cX6_isMissedIn : ByteArray := prog_8_method_23_code
def yX6_isMissedIn : MethodName := ⟨RX6, "isMissedIn", "(II)Z"⟩
abbrev cX6_missedIn : ByteArray := prog_8_method_24_code
def yX6_missedIn : MethodName := ⟨RX6, "missedIn", "(I)I"⟩
abbrev cX6_canFade : ByteArray := prog_8_method_25_code
def yX6_canFade : MethodName := ⟨RX6, "canFade", "(II)Z"⟩
abbrev cX6_canAnyFade : ByteArray := prog_8_method_26_code
def yX6_canAnyFade : MethodName := ⟨RX6, "canAnyFade", "()Z"⟩
abbrev cX6_whyNoTie : ByteArray := prog_8_method_27_code
def yX6_whyNoTie : MethodName := ⟨RX6, "whyNoTie", "(III)I"⟩
abbrev cX6_whyNot : ByteArray := prog_8_method_28_code
def yX6_whyNot : MethodName := ⟨RX6, "whyNot", "(III)I"⟩
abbrev cX6_tiesBetween : ByteArray := prog_8_method_29_code
def yX6_tiesBetween : MethodName := ⟨RX6, "tiesBetween", "(II)I"⟩
abbrev cX6_night : ByteArray := prog_8_method_30_code
def yX6_night : MethodName := ⟨RX6, "night", "()V"⟩
abbrev cX6_month : ByteArray := prog_8_method_31_code
def yX6_month : MethodName := ⟨RX6, "month", "()V"⟩
abbrev cX6_meet : ByteArray := prog_8_method_32_code
def yX6_meet : MethodName := ⟨RX6, "meet", "(II)V"⟩
abbrev cX6_quarrel : ByteArray := prog_8_method_33_code
def yX6_quarrel : MethodName := ⟨RX6, "quarrel", "(II)V"⟩
abbrev cX6_happen : ByteArray := prog_8_method_34_code
def yX6_happen : MethodName := ⟨RX6, "happen", "(III)V"⟩
abbrev cX6_keepNow : ByteArray := prog_8_method_35_code
def yX6_keepNow : MethodName := ⟨RX6, "keepNow", "()V"⟩
abbrev cX6_back : ByteArray := prog_8_method_36_code
def yX6_back : MethodName := ⟨RX6, "back", "(I)I"⟩
abbrev cX6_leastOf : ByteArray := prog_8_method_37_code
def yX6_leastOf : MethodName := ⟨RX6, "leastOf", "(I)I"⟩
abbrev cX6_goOne : ByteArray := prog_8_method_38_code
def yX6_goOne : MethodName := ⟨RX6, "goOne", "(I)V"⟩
abbrev cX6_goMonths : ByteArray := prog_8_method_39_code
def yX6_goMonths : MethodName := ⟨RX6, "goMonths", "()V"⟩
abbrev cX6_refusal : ByteArray := prog_8_method_40_code
def yX6_refusal : MethodName := ⟨RX6, "refusal", "()I"⟩
abbrev cX6_judge : ByteArray := prog_8_method_41_code
def yX6_judge : MethodName := ⟨RX6, "judge", "(I)I"⟩
abbrev cX6_ofOne : ByteArray := prog_8_method_42_code
def yX6_ofOne : MethodName := ⟨RX6, "ofOne", "(II)I"⟩
abbrev cX6_behind : ByteArray := prog_8_method_43_code
def yX6_behind : MethodName := ⟨RX6, "behind", "(II)I"⟩
abbrev cX6_city : ByteArray := prog_8_method_44_code
def yX6_city : MethodName := ⟨RX6, "city", "(I)I"⟩
abbrev cX6_taken : ByteArray := prog_8_method_45_code
def yX6_taken : MethodName := ⟨RX6, "taken", "(I)I"⟩
abbrev cX6_done : ByteArray := prog_8_method_46_code
def yX6_done : MethodName := ⟨RX6, "done", "()I"⟩
abbrev cX6_staysBy : ByteArray := prog_8_method_47_code
def yX6_staysBy : MethodName := ⟨RX6, "staysBy", "(I)I"⟩
abbrev cX6_stays : ByteArray := prog_8_method_48_code
def yX6_stays : MethodName := ⟨RX6, "stays", "(I)I"⟩
abbrev cX6_isHere : ByteArray := prog_8_method_49_code
def yX6_isHere : MethodName := ⟨RX6, "isHere", "(I)Z"⟩
abbrev cX6_keep : ByteArray := prog_8_method_50_code
def yX6_keep : MethodName := ⟨RX6, "keep", "(II)I"⟩
abbrev cX6_loose : ByteArray := prog_8_method_51_code
def yX6_loose : MethodName := ⟨RX6, "loose", "(II)I"⟩
abbrev cX6_areApart : ByteArray := prog_8_method_52_code
def yX6_areApart : MethodName := ⟨RX6, "areApart", "(I)Z"⟩
abbrev cX6_seats : ByteArray := prog_8_method_53_code
def yX6_seats : MethodName := ⟨RX6, "seats", "(II)I"⟩
abbrev cX6_readOdds : ByteArray := prog_8_method_54_code
def yX6_readOdds : MethodName := ⟨RX6, "readOdds", "(I)V"⟩
abbrev cX6_lowest : ByteArray := prog_8_method_55_code
def yX6_lowest : MethodName := ⟨RX6, "lowest", "(JJI)J"⟩
abbrev cX6_calls : ByteArray := prog_8_method_56_code
def yX6_calls : MethodName := ⟨RX6, "calls", "(II)J"⟩
abbrev cX6_order : ByteArray := prog_8_method_57_code
def yX6_order : MethodName := ⟨RX6, "order", "(I)I"⟩
abbrev cX6_rung : ByteArray := prog_8_method_58_code
def yX6_rung : MethodName := ⟨RX6, "rung", "(IZ)I"⟩
abbrev cX6_forget : ByteArray := prog_8_method_59_code
def yX6_forget : MethodName := ⟨RX6, "forget", "()I"⟩
abbrev cX6_yesBy : ByteArray := prog_8_method_60_code
def yX6_yesBy : MethodName := ⟨RX6, "yesBy", "(I)I"⟩
abbrev cX6_who : ByteArray := prog_8_method_61_code
def yX6_who : MethodName := ⟨RX6, "who", "()I"⟩
abbrev cX6_more : ByteArray := prog_8_method_62_code
def yX6_more : MethodName := ⟨RX6, "more", "(II)I"⟩
abbrev cX6_ring : ByteArray := prog_8_method_63_code
def yX6_ring : MethodName := ⟨RX6, "ring", "(I)I"⟩
abbrev cX6_answers : ByteArray := prog_8_method_64_code
def yX6_answers : MethodName := ⟨RX6, "answers", "(IIII)J"⟩
abbrev cX6_bestTake : ByteArray := prog_8_method_65_code
def yX6_bestTake : MethodName := ⟨RX6, "bestTake", "(I)I"⟩
abbrev cX6_number : ByteArray := prog_8_method_66_code
def yX6_number : MethodName := ⟨RX6, "number", "(II)I"⟩
abbrev cX6_actBy : ByteArray := prog_8_method_67_code
def yX6_actBy : MethodName := ⟨RX6, "actBy", "(I)I"⟩
abbrev cX6_year : ByteArray := prog_8_method_68_code
def yX6_year : MethodName := ⟨RX6, "year", "(III)I"⟩
abbrev cX6_pass : ByteArray := prog_8_method_69_code
def yX6_pass : MethodName := ⟨RX6, "pass", "(I)I"⟩
abbrev cX6_passRow : ByteArray := prog_8_method_70_code
def yX6_passRow : MethodName := ⟨RX6, "passRow", "([II)V"⟩
abbrev cX6_passAll : ByteArray := prog_8_method_71_code
def yX6_passAll : MethodName := ⟨RX6, "passAll", "()V"⟩
abbrev cX6_image : ByteArray := prog_8_method_72_code
def yX6_image : MethodName := ⟨RX6, "image", "(I)I"⟩
abbrev cX6_restore : ByteArray := prog_8_method_73_code
def yX6_restore : MethodName := ⟨RX6, "restore", "(I)I"⟩
abbrev cX6_toldOfAll : ByteArray := prog_8_method_74_code
def yX6_toldOfAll : MethodName := ⟨RX6, "toldOfAll", "(I)I"⟩
abbrev cX6_told : ByteArray := prog_8_method_75_code
def yX6_told : MethodName := ⟨RX6, "told", "(I)I"⟩
def RJ6 : String := "java/lang/Integer"
def TJ6 : u_T := fun k => match k with
  | _ => ("", "", "", false)
def tyJ6 : Nat → FieldType := fun k => match k with
  | _ => .int
abbrev wsJ60 : List Cond := u_ws RJ6 TJ6 0
theorem nmJ6 : ∀ a, a < 0 → ∀ b, b < 0 → a ≠ b → (TJ6 a).2.1 ≠ (TJ6 b).2.1 := by decide +kernel
theorem tyJ6_ok : ∀ k, k < 0 → parseFieldDescriptor (TJ6 k).2.2.1 = some (tyJ6 k) := by decide +kernel
abbrev cJ6_bitCount_0f7a4 : ByteArray := prog_9_method_49_code
def yJ6_bitCount_0f7a4 : MethodName := ⟨RJ6, "bitCount", "(I)I"⟩
def RJ9 : String := "java/lang/Math"
def TJ9 : u_T := fun k => match k with
  | _ => ("", "", "", false)
def tyJ9 : Nat → FieldType := fun k => match k with
  | _ => .int
abbrev wsJ90 : List Cond := u_ws RJ9 TJ9 0
theorem nmJ9 : ∀ a, a < 0 → ∀ b, b < 0 → a ≠ b → (TJ9 a).2.1 ≠ (TJ9 b).2.1 := by decide +kernel
theorem tyJ9_ok : ∀ k, k < 0 → parseFieldDescriptor (TJ9 k).2.2.1 = some (tyJ9 k) := by decide +kernel
abbrev cJ9_max_7cf53 : ByteArray := prog_10_method_65_code
def yJ9_max_7cf53 : MethodName := ⟨RJ9, "max", "(II)I"⟩
abbrev cJ9_min_7cf53 : ByteArray := prog_10_method_69_code
def yJ9_min_7cf53 : MethodName := ⟨RJ9, "min", "(II)I"⟩
def RL : String := "LastTrainLaw"
abbrev cL_law : ByteArray := code
def yL_law : MethodName := ⟨RL, "law", "([I)Z"⟩
def wsL_law_r1 : List Cond := [Cond.classLink RL 7 RX5, Cond.instantiable RX5 8, Cond.initialized RX5, Cond.classLink RL 10 RX6, Cond.instantiable RX6 32, Cond.initialized RX6, Cond.methodLink RL 9 yX5_init, Cond.instanceMethod yX5_init, Cond.code yX5_init cX5_init 1 none, Cond.methodLink RX5 3 objectInit, Cond.instanceMethod objectInit, Cond.code objectInit ⟨#[0xb1]⟩ 1 none, Cond.classLink RX5 9 RX4, Cond.instantiable RX4 9, Cond.initialized RX4, Cond.fieldLink RX5 12 "LastTrain" "town" "LLastTrain$Town;", Cond.fieldLink RX5 16 "LastTrain" "firstImage" "LLastTrain$Town;", Cond.fieldLink RX5 19 "LastTrain" "secondImage" "LLastTrain$Town;", Cond.fieldLink RX5 22 "LastTrain" "imagesKept" "I", Cond.classLink RX5 26 RX2, Cond.instantiable RX2 2, Cond.initialized RX2, Cond.fieldLink RX5 29 "LastTrain" "pad" "LLastTrain$Pad;", Cond.classLink RX5 33 RX1]
def wsL_law_r2 : List Cond := [Cond.instantiable RX1 7, Cond.initialized RX1, Cond.fieldLink RX5 36 "LastTrain" "course" "LLastTrain$Course;", Cond.classLink RX5 40 RX3, Cond.instantiable RX3 4, Cond.initialized RX3, Cond.fieldLink RX5 43 "LastTrain" "platform" "LLastTrain$Platform;", Cond.classLink RX5 47 RX0, Cond.instantiable RX0 4, Cond.initialized RX0, Cond.fieldLink RX5 50 "LastTrain" "round" "LLastTrain$Answers;", Cond.methodLink RX5 11 yX4_init, Cond.instanceMethod yX4_init, Cond.code yX4_init cX4_init 2 none, Cond.methodLink RX4 3 objectInit, Cond.fieldLink RX4 9 "LastTrain$Town" "here" "I", Cond.fieldLink RX4 15 "LastTrain$Town" "dogs" "I", Cond.fieldLink RX4 18 "LastTrain$Town" "waiting" "I", Cond.fieldLink RX4 21 "LastTrain$Town" "sights" "I", Cond.fieldLink RX4 24 "LastTrain$Town" "yeses" "I", Cond.arrayClass .int, Cond.fieldLink RX4 27 "LastTrain$Town" "strengths" "[I", Cond.fieldLink RX4 31 "LastTrain$Town" "kinds" "[I", Cond.fieldLink RX4 34 "LastTrain$Town" "rules" "[I"]
def wsL_law_r3 : List Cond := [Cond.fieldLink RX4 37 "LastTrain$Town" "rungOnes" "[I", Cond.instanceMethod yX2_init, Cond.code yX2_init cX2_init 1 none, Cond.methodLink RX2 3 objectInit, Cond.fieldLink RX2 9 "LastTrain$Pad" "signs" "[I", Cond.fieldLink RX2 15 "LastTrain$Pad" "length" "I", Cond.instanceMethod yX1_init, Cond.code yX1_init cX1_init 1 none, Cond.methodLink RX1 3 objectInit, Cond.classLink RX1 9 RX4, Cond.fieldLink RX1 12 "LastTrain$Course" "town" "LLastTrain$Town;", Cond.fieldLink RX1 18 "LastTrain$Course" "acts" "I", Cond.fieldLink RX1 22 "LastTrain$Course" "stuckReason" "I", Cond.fieldLink RX1 25 "LastTrain$Course" "wentCount" "I", Cond.fieldLink RX1 28 "LastTrain$Course" "cut" "I", Cond.fieldLink RX1 31 "LastTrain$Course" "takenAct" "I", Cond.fieldLink RX1 34 "LastTrain$Course" "takenOne" "I", Cond.methodLink RX1 11 yX4_init, Cond.instanceMethod yX3_init, Cond.code yX3_init cX3_init 1 none, Cond.methodLink RX3 3 objectInit, Cond.fieldLink RX3 9 "LastTrain$Platform" "missing" "[I", Cond.fieldLink RX3 15 "LastTrain$Platform" "needed" "[I", Cond.fieldLink RX3 18 "LastTrain$Platform" "tied" "[I"]
def wsL_law_r4 : List Cond := [Cond.fieldLink RX3 21 "LastTrain$Platform" "here" "I", Cond.instanceMethod yX0_init, Cond.code yX0_init cX0_init 1 none, Cond.methodLink RX0 3 objectInit, Cond.arrayClass .long, Cond.fieldLink RX0 9 "LastTrain$Answers" "chances" "[J", Cond.fieldLink RX0 15 "LastTrain$Answers" "enoughSaidIt" "J", Cond.fieldLink RX0 19 "LastTrain$Answers" "callsMade" "J", Cond.fieldLink RX0 22 "LastTrain$Answers" "lower" "J", Cond.methodLink RL 12 yX6_init, Cond.instanceMethod yX6_init, Cond.code yX6_init cX6_init 2 none, Cond.methodLink RX6 1 objectInit, Cond.fieldLink RX6 7 "LastTrainModel" "strong" "[I", Cond.fieldLink RX6 13 "LastTrainModel" "kind" "[I", Cond.fieldLink RX6 16 "LastTrainModel" "laws" "[I", Cond.fieldLink RX6 19 "LastTrainModel" "sightOne" "[I", Cond.fieldLink RX6 22 "LastTrainModel" "sightYes" "[I", Cond.fieldLink RX6 25 "LastTrainModel" "pad" "[I", Cond.fieldLink RX6 28 "LastTrainModel" "act" "[I", Cond.fieldLink RX6 31 "LastTrainModel" "who" "[I", Cond.fieldLink RX6 34 "LastTrainModel" "whom" "[I", Cond.fieldLink RX6 37 "LastTrainModel" "had" "[I", Cond.fieldLink RX6 40 "LastTrainModel" "odds" "[I"]
def wsL_law_r5 : List Cond := [Cond.fieldLink RX6 43 "LastTrainModel" "row" "[I", Cond.fieldLink RX6 46 "LastTrainModel" "parts" "[J", Cond.fieldLink RX6 50 "LastTrainModel" "takes" "[I", Cond.fieldLink RX6 53 "LastTrainModel" "kept" "[I", Cond.arrayClass .boolean, Cond.fieldLink RX6 56 "LastTrainModel" "isKept" "[Z", Cond.fieldLink RX6 60 "LastTrainModel" "here" "I", Cond.methodLink RL 13 yX5_tie, Cond.instanceMethod yX5_tie, Cond.selects RX5 yX5_tie yX5_tie, Cond.code yX5_tie cX5_tie 6 (some .int), Cond.methodLink RX5 54 yX5_isOne, Cond.static yX5_isOne, Cond.code yX5_isOne cX5_isOne 1 (some .boolean), Cond.methodLink RX5 58 yX5_isWithin, Cond.static yX5_isWithin, Cond.code yX5_isWithin cX5_isWithin 3 (some .boolean), Cond.methodLink RX5 62 yX4_strength, Cond.instanceMethod yX4_strength, Cond.selects RX4 yX4_strength yX4_strength, Cond.code yX4_strength cX4_strength 3 (some .int), Cond.methodLink RX5 66 yX4_bind, Cond.instanceMethod yX4_bind, Cond.selects RX4 yX4_bind yX4_bind]
def wsL_law_r6 : List Cond := [Cond.code yX4_bind cX4_bind 5 none, Cond.methodLink RL 17 yX6_tie, Cond.instanceMethod yX6_tie, Cond.selects RX6 yX6_tie yX6_tie, Cond.code yX6_tie cX6_tie 6 (some .int), Cond.constantLong RX6 74 (3), Cond.constantLong RX6 64 (9), Cond.methodLink RX6 70 yX6_isOne, Cond.static yX6_isOne, Cond.code yX6_isOne cX6_isOne 1 (some .boolean), Cond.methodLink RX6 66 yX6_in, Cond.static yX6_in, Cond.code yX6_in cX6_in 6 (some .boolean), Cond.methodLink RX6 76 yX6_setTie, Cond.instanceMethod yX6_setTie, Cond.selects RX6 yX6_setTie yX6_setTie, Cond.code yX6_setTie cX6_setTie 5 none, Cond.methodLink RL 18 yX5_one, Cond.instanceMethod yX5_one, Cond.selects RX5 yX5_one yX5_one, Cond.code yX5_one cX5_one 4 (some .int), Cond.fieldLink RX5 77 "LastTrain$Town" "here" "I", Cond.methodLink RX5 70 yX5_isFlag, Cond.static yX5_isFlag]
def wsL_law_r7 : List Cond := [Cond.code yX5_isFlag cX5_isFlag 1 (some .boolean), Cond.methodLink RX5 73 yX4_place, Cond.instanceMethod yX4_place, Cond.selects RX4 yX4_place yX4_place, Cond.code yX4_place cX4_place 5 none, Cond.methodLink RX5 80 yJ6_bitCount_0f7a4, Cond.static yJ6_bitCount_0f7a4, Cond.initialized RJ6, Cond.code yJ6_bitCount_0f7a4 cJ6_bitCount_0f7a4 1 (some .int), Cond.constant RJ6 265 (1431655765), Cond.constant RJ6 266 (858993459), Cond.constant RJ6 267 (252645135), Cond.methodLink RL 22 yX6_one, Cond.instanceMethod yX6_one, Cond.selects RX6 yX6_one yX6_one, Cond.code yX6_one cX6_one 4 (some .int), Cond.fieldLink RX6 84 "LastTrainModel" "dogs" "I", Cond.fieldLink RX6 87 "LastTrainModel" "waiting" "I", Cond.methodLink RX6 80 yX6_with, Cond.static yX6_with, Cond.code yX6_with cX6_with 3 (some .int), Cond.methodLink RX6 90 yX6_ones, Cond.static yX6_ones, Cond.code yX6_ones cX6_ones 3 (some .int)]
def wsL_law_r8 : List Cond := [Cond.methodLink RL 23 yX5_law, Cond.instanceMethod yX5_law, Cond.selects RX5 yX5_law yX5_law, Cond.code yX5_law cX5_law 4 (some .int), Cond.methodLink RX5 86 yX5_isLawful, Cond.static yX5_isLawful, Cond.code yX5_isLawful cX5_isLawful 2 (some .boolean), Cond.methodLink RX5 90 yX4_rule, Cond.instanceMethod yX4_rule, Cond.selects RX4 yX4_rule yX4_rule, Cond.code yX4_rule cX4_rule 2 (some .int), Cond.methodLink RX5 93 yX4_setRule, Cond.instanceMethod yX4_setRule, Cond.selects RX4 yX4_setRule yX4_setRule, Cond.code yX4_setRule cX4_setRule 3 none, Cond.methodLink RL 27 yX6_law, Cond.instanceMethod yX6_law, Cond.selects RX6 yX6_law yX6_law, Cond.code yX6_law cX6_law 4 (some .int), Cond.methodLink RL 28 yX5_say, Cond.instanceMethod yX5_say, Cond.selects RX5 yX5_say yX5_say, Cond.code yX5_say cX5_say 2 (some .int), Cond.fieldLink RX5 100 "LastTrain$Pad" "length" "I"]
def wsL_law_r9 : List Cond := [Cond.methodLink RX5 97 yX2_add, Cond.instanceMethod yX2_add, Cond.selects RX2 yX2_add yX2_add, Cond.code yX2_add cX2_add 2 (some .boolean), Cond.methodLink RL 32 yX6_say, Cond.instanceMethod yX6_say, Cond.selects RX6 yX6_say yX6_say, Cond.code yX6_say cX6_say 2 (some .int), Cond.constantLong RX6 94 (33), Cond.constantLong RX6 96 (126), Cond.fieldLink RX6 98 "LastTrainModel" "padMany" "I", Cond.methodLink RL 33 yX5_wipe, Cond.instanceMethod yX5_wipe, Cond.selects RX5 yX5_wipe yX5_wipe, Cond.code yX5_wipe cX5_wipe 2 (some .int), Cond.methodLink RL 37 yX6_wipe, Cond.instanceMethod yX6_wipe, Cond.selects RX6 yX6_wipe yX6_wipe, Cond.code yX6_wipe cX6_wipe 2 (some .int), Cond.methodLink RL 38 yX5_fault, Cond.instanceMethod yX5_fault, Cond.selects RX5 yX5_fault yX5_fault, Cond.code yX5_fault cX5_fault 1 (some .int), Cond.methodLink RX5 103 yX2_firstFault]
def wsL_law_r10 : List Cond := [Cond.instanceMethod yX2_firstFault, Cond.selects RX2 yX2_firstFault yX2_firstFault, Cond.code yX2_firstFault cX2_firstFault 3 (some .int), Cond.methodLink RX2 19 yX2_signAt, Cond.instanceMethod yX2_signAt, Cond.selects RX2 yX2_signAt yX2_signAt, Cond.code yX2_signAt cX2_signAt 2 (some .int), Cond.methodLink RX2 23 yX2_dueAfter, Cond.static yX2_dueAfter, Cond.code yX2_dueAfter cX2_dueAfter 2 (some .int), Cond.methodLink RX2 27 yX2_isOfTwo, Cond.static yX2_isOfTwo, Cond.code yX2_isOfTwo cX2_isOfTwo 1 (some .boolean), Cond.methodLink RX2 31 yX2_isOfNobody, Cond.static yX2_isOfNobody, Cond.code yX2_isOfNobody cX2_isOfNobody 1 (some .boolean), Cond.static yX5_isLetter, Cond.code yX5_isLetter cX5_isLetter 1 (some .boolean), Cond.methodLink RL 41 yX6_fault, Cond.instanceMethod yX6_fault, Cond.selects RX6 yX6_fault yX6_fault, Cond.code yX6_fault cX6_fault 3 (some .int), Cond.fieldLink RX6 101 "LastTrainModel" "acts" "I", Cond.methodLink RX6 120 yX6_readOn]
def wsL_law_r11 : List Cond := [Cond.instanceMethod yX6_readOn, Cond.selects RX6 yX6_readOn yX6_readOn, Cond.code yX6_readOn cX6_readOn 3 (some .int), Cond.methodLink RX6 114 yX6_begin, Cond.instanceMethod yX6_begin, Cond.selects RX6 yX6_begin yX6_begin, Cond.code yX6_begin cX6_begin 2 (some .int), Cond.methodLink RX6 108 yX6_isLetter, Cond.static yX6_isLetter, Cond.code yX6_isLetter cX6_isLetter 1 (some .boolean), Cond.constantLong RX6 104 (65), Cond.constantLong RX6 106 (74), Cond.methodLink RX6 111 yX6_close, Cond.instanceMethod yX6_close, Cond.selects RX6 yX6_close yX6_close, Cond.code yX6_close cX6_close 2 (some .int), Cond.methodLink RX6 117 yX6_deed, Cond.instanceMethod yX6_deed, Cond.selects RX6 yX6_deed yX6_deed, Cond.code yX6_deed cX6_deed 2 (some .int), Cond.methodLink RL 42 yX5_judge, Cond.instanceMethod yX5_judge, Cond.selects RX5 yX5_judge yX5_judge, Cond.code yX5_judge cX5_judge 3 (some .int)]
def wsL_law_r12 : List Cond := [Cond.fieldLink RX5 111 "LastTrain$Course" "wentCount" "I", Cond.fieldLink RX5 114 "LastTrain$Course" "acts" "I", Cond.fieldLink RX5 117 "LastTrain$Course" "stuckReason" "I", Cond.methodLink RX5 107 yX1_play, Cond.instanceMethod yX1_play, Cond.selects RX1 yX1_play yX1_play, Cond.code yX1_play cX1_play 6 (some .int), Cond.fieldLink RX1 50 "LastTrain$Pad" "length" "I", Cond.methodLink RX1 41 yX2_firstFault, Cond.methodLink RX1 47 yX1_startFrom, Cond.instanceMethod yX1_startFrom, Cond.selects RX1 yX1_startFrom yX1_startFrom, Cond.code yX1_startFrom cX1_startFrom 2 none, Cond.methodLink RX1 37 yX4_copyFrom, Cond.instanceMethod yX4_copyFrom, Cond.selects RX4 yX4_copyFrom yX4_copyFrom, Cond.code yX4_copyFrom cX4_copyFrom 2 none, Cond.methodLink RX4 40 yX4_copyRow, Cond.static yX4_copyRow, Cond.code yX4_copyRow cX4_copyRow 3 none, Cond.methodLink RX1 53 yX2_deedFrom, Cond.instanceMethod yX2_deedFrom, Cond.selects RX2 yX2_deedFrom yX2_deedFrom, Cond.code yX2_deedFrom cX2_deedFrom 3 (some .int)]
def wsL_law_r13 : List Cond := [Cond.methodLink RX1 57 yX2_signAt, Cond.methodLink RX1 60 yX1_attempt, Cond.instanceMethod yX1_attempt, Cond.selects RX1 yX1_attempt yX1_attempt, Cond.code yX1_attempt cX1_attempt 5 (some .int), Cond.methodLink RX1 67 yX4_reasonAgainst, Cond.instanceMethod yX4_reasonAgainst, Cond.selects RX4 yX4_reasonAgainst yX4_reasonAgainst, Cond.code yX4_reasonAgainst cX4_reasonAgainst 4 (some .int), Cond.methodLink RX4 81 yX4_anyTieFades, Cond.instanceMethod yX4_anyTieFades, Cond.selects RX4 yX4_anyTieFades yX4_anyTieFades, Cond.code yX4_anyTieFades cX4_anyTieFades 3 (some .boolean), Cond.methodLink RX4 89 yX4_fades, Cond.instanceMethod yX4_fades, Cond.selects RX4 yX4_fades yX4_fades, Cond.code yX4_fades cX4_fades 3 (some .boolean), Cond.methodLink RX4 59 yX4_isHere, Cond.instanceMethod yX4_isHere, Cond.selects RX4 yX4_isHere yX4_isHere, Cond.code yX4_isHere cX4_isHere 2 (some .boolean), Cond.methodLink RX4 52 yX4_kind, Cond.instanceMethod yX4_kind, Cond.selects RX4 yX4_kind yX4_kind]
def wsL_law_r14 : List Cond := [Cond.code yX4_kind cX4_kind 3 (some .int), Cond.methodLink RX4 44 yX4_strength, Cond.methodLink RX4 85 yX4_tieForbids, Cond.instanceMethod yX4_tieForbids, Cond.selects RX4 yX4_tieForbids yX4_tieForbids, Cond.code yX4_tieForbids cX4_tieForbids 5 (some .boolean), Cond.methodLink RX1 70 yX1_runTrain, Cond.instanceMethod yX1_runTrain, Cond.selects RX1 yX1_runTrain yX1_runTrain, Cond.code yX1_runTrain cX1_runTrain 2 none, Cond.fieldLink RX1 77 "LastTrain$Town" "waiting" "I", Cond.fieldLink RX1 92 "LastTrain$Town" "here" "I", Cond.methodLink RX1 80 yX4_missed, Cond.instanceMethod yX4_missed, Cond.selects RX4 yX4_missed yX4_missed, Cond.code yX4_missed cX4_missed 3 (some .int), Cond.methodLink RX4 63 yX4_missingIt, Cond.instanceMethod yX4_missingIt, Cond.selects RX4 yX4_missingIt yX4_missingIt, Cond.code yX4_missingIt cX4_missingIt 6 (some .int), Cond.methodLink RX4 48 yX4_rule, Cond.methodLink RX4 66 yJ6_bitCount_0f7a4, Cond.methodLink RX4 71 yX4_tiesNeeded, Cond.instanceMethod yX4_tiesNeeded]
def wsL_law_r15 : List Cond := [Cond.selects RX4 yX4_tiesNeeded yX4_tiesNeeded, Cond.code yX4_tiesNeeded cX4_tiesNeeded 2 (some .int), Cond.static yX5_holds, Cond.code yX5_holds cX5_holds 2 (some .boolean), Cond.methodLink RX1 83 yX4_endNight, Cond.instanceMethod yX4_endNight, Cond.selects RX4 yX4_endNight yX4_endNight, Cond.code yX4_endNight cX4_endNight 2 none, Cond.methodLink RX1 87 yJ6_bitCount_0f7a4, Cond.methodLink RX1 95 yX4_strengthBetween, Cond.instanceMethod yX4_strengthBetween, Cond.selects RX4 yX4_strengthBetween yX4_strengthBetween, Cond.code yX4_strengthBetween cX4_strengthBetween 6 (some .int), Cond.static yX5_leastOne, Cond.code yX5_leastOne cX5_leastOne 2 (some .int), Cond.methodLink RX5 238 yX5_holds, Cond.methodLink RX1 73 yX4_perform, Cond.instanceMethod yX4_perform, Cond.selects RX4 yX4_perform yX4_perform, Cond.code yX4_perform cX4_perform 6 none, Cond.methodLink RX4 96 Lib.Math.min.name, Cond.static Lib.Math.min.name, Cond.initialized "java/lang/Math", Cond.code Lib.Math.min.name Lib.Math.min.code 2 (some .int)]
def wsL_law_r16 : List Cond := [Cond.methodLink RX4 101 Lib.Math.max.name, Cond.static Lib.Math.max.name, Cond.code Lib.Math.max.name Lib.Math.max.code 2 (some .int), Cond.methodLink RX4 92 yX4_bind, Cond.methodLink RX4 104 yX4_fadeAll, Cond.instanceMethod yX4_fadeAll, Cond.selects RX4 yX4_fadeAll yX4_fadeAll, Cond.code yX4_fadeAll cX4_fadeAll 3 none, Cond.methodLink RX1 64 yX2_lengthOf, Cond.static yX2_lengthOf, Cond.code yX2_lengthOf cX2_lengthOf 1 (some .int), Cond.methodLink RL 45 yX6_judge, Cond.instanceMethod yX6_judge, Cond.selects RX6 yX6_judge yX6_judge, Cond.code yX6_judge cX6_judge 3 (some .int), Cond.constantLong RX6 214 (2), Cond.fieldLink RX6 191 "LastTrainModel" "badAct" "I", Cond.fieldLink RX6 194 "LastTrainModel" "badWhy" "I", Cond.fieldLink RX6 153 "LastTrainModel" "wentMany" "I", Cond.methodLink RX6 216 yX6_refusal, Cond.instanceMethod yX6_refusal, Cond.selects RX6 yX6_refusal yX6_refusal, Cond.code yX6_refusal cX6_refusal 1 (some .int), Cond.methodLink RX6 204 yX6_keepNow]
def wsL_law_r17 : List Cond := [Cond.instanceMethod yX6_keepNow, Cond.selects RX6 yX6_keepNow yX6_keepNow, Cond.code yX6_keepNow cX6_keepNow 2 none, Cond.methodLink RX6 207 yX6_fault, Cond.methodLink RX6 211 yX6_goMonths, Cond.instanceMethod yX6_goMonths, Cond.selects RX6 yX6_goMonths yX6_goMonths, Cond.code yX6_goMonths cX6_goMonths 3 none, Cond.fieldLink RX6 156 "LastTrainModel" "cut" "I", Cond.fieldLink RX6 182 "LastTrainModel" "takenAct" "I", Cond.fieldLink RX6 188 "LastTrainModel" "takenWho" "I", Cond.methodLink RX6 197 yX6_whyNot, Cond.instanceMethod yX6_whyNot, Cond.selects RX6 yX6_whyNot yX6_whyNot, Cond.code yX6_whyNot cX6_whyNot 4 (some .int), Cond.methodLink RX6 143 yX6_canAnyFade, Cond.instanceMethod yX6_canAnyFade, Cond.selects RX6 yX6_canAnyFade yX6_canAnyFade, Cond.code yX6_canAnyFade cX6_canAnyFade 3 (some .boolean), Cond.methodLink RX6 140 yX6_canFade, Cond.instanceMethod yX6_canFade, Cond.selects RX6 yX6_canFade yX6_canFade, Cond.code yX6_canFade cX6_canFade 4 (some .boolean), Cond.methodLink RX6 124 yX6_has]
def wsL_law_r18 : List Cond := [Cond.static yX6_has, Cond.code yX6_has cX6_has 2 (some .boolean), Cond.methodLink RX6 147 yX6_whyNoTie, Cond.instanceMethod yX6_whyNoTie, Cond.selects RX6 yX6_whyNoTie yX6_whyNoTie, Cond.code yX6_whyNoTie cX6_whyNoTie 6 (some .int), Cond.methodLink RX6 200 yX6_goOne, Cond.instanceMethod yX6_goOne, Cond.selects RX6 yX6_goOne yX6_goOne, Cond.code yX6_goOne cX6_goOne 2 none, Cond.fieldLink RX6 162 "LastTrainModel" "nightWent" "I", Cond.methodLink RX6 178 yX6_happen, Cond.instanceMethod yX6_happen, Cond.selects RX6 yX6_happen yX6_happen, Cond.code yX6_happen cX6_happen 4 none, Cond.methodLink RX6 165 yX6_meet, Cond.instanceMethod yX6_meet, Cond.selects RX6 yX6_meet yX6_meet, Cond.code yX6_meet cX6_meet 4 none, Cond.methodLink RX6 169 yX6_quarrel, Cond.instanceMethod yX6_quarrel, Cond.selects RX6 yX6_quarrel yX6_quarrel, Cond.code yX6_quarrel cX6_quarrel 4 none, Cond.methodLink RX6 172 yX6_night]
def wsL_law_r19 : List Cond := [Cond.instanceMethod yX6_night, Cond.selects RX6 yX6_night yX6_night, Cond.code yX6_night cX6_night 2 none, Cond.methodLink RX6 150 yX6_missedIn, Cond.instanceMethod yX6_missedIn, Cond.selects RX6 yX6_missedIn yX6_missedIn, Cond.code yX6_missedIn cX6_missedIn 4 (some .int), Cond.methodLink RX6 137 yX6_isMissedIn, Cond.instanceMethod yX6_isMissedIn, Cond.selects RX6 yX6_isMissedIn yX6_isMissedIn, Cond.code yX6_isMissedIn cX6_isMissedIn 3 (some .boolean), Cond.methodLink RX6 131 yX6_tiesThatCount, Cond.instanceMethod yX6_tiesThatCount, Cond.selects RX6 yX6_tiesThatCount yX6_tiesThatCount, Cond.code yX6_tiesThatCount cX6_tiesThatCount 5 (some .int), Cond.methodLink RX6 128 yX6_counts, Cond.instanceMethod yX6_counts, Cond.selects RX6 yX6_counts yX6_counts, Cond.code yX6_counts cX6_counts 4 (some .boolean), Cond.methodLink RX6 134 yX6_dogOf, Cond.instanceMethod yX6_dogOf, Cond.selects RX6 yX6_dogOf yX6_dogOf, Cond.code yX6_dogOf cX6_dogOf 2 (some .int), Cond.methodLink RX6 159 yX6_tiesBetween]
def wsL_law_r20 : List Cond := [Cond.instanceMethod yX6_tiesBetween, Cond.selects RX6 yX6_tiesBetween yX6_tiesBetween, Cond.code yX6_tiesBetween cX6_tiesBetween 5 (some .int), Cond.methodLink RX6 175 yX6_month, Cond.instanceMethod yX6_month, Cond.selects RX6 yX6_month yX6_month, Cond.code yX6_month cX6_month 2 none, Cond.methodLink RX6 185 yX6_leastOf, Cond.static yX6_leastOf, Cond.code yX6_leastOf cX6_leastOf 3 (some .int), Cond.methodLink RX6 219 yX6_back, Cond.instanceMethod yX6_back, Cond.selects RX6 yX6_back yX6_back, Cond.code yX6_back cX6_back 3 (some .int), Cond.methodLink RL 46 yX5_behind, Cond.instanceMethod yX5_behind, Cond.selects RX5 yX5_behind yX5_behind, Cond.code yX5_behind cX5_behind 4 (some .int), Cond.fieldLink RX5 120 "LastTrain$Course" "town" "LLastTrain$Town;", Cond.methodLink RX5 121 yX4_toldOf, Cond.instanceMethod yX4_toldOf, Cond.selects RX4 yX4_toldOf yX4_toldOf, Cond.code yX4_toldOf cX4_toldOf 3 (some .int), Cond.methodLink RX4 77 yX4_missed]
def wsL_law_r21 : List Cond := [Cond.methodLink RX4 74 yX4_strengthBetween, Cond.methodLink RL 49 yX6_behind, Cond.instanceMethod yX6_behind, Cond.selects RX6 yX6_behind yX6_behind, Cond.code yX6_behind cX6_behind 4 (some .int), Cond.constantLong RX6 222 (4), Cond.methodLink RX6 224 yX6_ofOne, Cond.instanceMethod yX6_ofOne, Cond.selects RX6 yX6_ofOne yX6_ofOne, Cond.code yX6_ofOne cX6_ofOne 3 (some .int), Cond.methodLink RL 50 yX5_city, Cond.instanceMethod yX5_city, Cond.selects RX5 yX5_city yX5_city, Cond.code yX5_city cX5_city 3 (some .int), Cond.fieldLink RX5 127 "LastTrain$Course" "cut" "I", Cond.methodLink RX5 124 yX4_missed, Cond.methodLink RL 53 yX6_city, Cond.instanceMethod yX6_city, Cond.selects RX6 yX6_city yX6_city, Cond.code yX6_city cX6_city 4 (some .int), Cond.methodLink RL 54 yX5_taken, Cond.instanceMethod yX5_taken, Cond.selects RX5 yX5_taken yX5_taken, Cond.code yX5_taken cX5_taken 3 (some .int)]
def wsL_law_r22 : List Cond := [Cond.fieldLink RX5 130 "LastTrain$Course" "takenAct" "I", Cond.fieldLink RX5 133 "LastTrain$Course" "takenOne" "I", Cond.methodLink RL 57 yX6_taken, Cond.instanceMethod yX6_taken, Cond.selects RX6 yX6_taken yX6_taken, Cond.code yX6_taken cX6_taken 3 (some .int), Cond.methodLink RL 58 yX5_done, Cond.instanceMethod yX5_done, Cond.selects RX5 yX5_done yX5_done, Cond.code yX5_done cX5_done 2 (some .int), Cond.methodLink RX5 136 yX4_copyFrom, Cond.methodLink RL 61 yX6_done, Cond.instanceMethod yX6_done, Cond.selects RX6 yX6_done yX6_done, Cond.code yX6_done cX6_done 2 (some .int), Cond.methodLink RL 62 yX5_stays, Cond.instanceMethod yX5_stays, Cond.selects RX5 yX5_stays yX5_stays, Cond.code yX5_stays cX5_stays 2 (some .int), Cond.methodLink RX5 140 yX3_lookAt, Cond.instanceMethod yX3_lookAt, Cond.selects RX3 yX3_lookAt yX3_lookAt, Cond.code yX3_lookAt cX3_lookAt 3 none, Cond.fieldLink RX3 25 "LastTrain$Town" "here" "I"]
def wsL_law_r23 : List Cond := [Cond.methodLink RX3 28 yX4_missingIt, Cond.methodLink RX3 32 yX4_tiesNeeded, Cond.methodLink RX3 35 yX4_tiedTo, Cond.instanceMethod yX4_tiedTo, Cond.selects RX4 yX4_tiedTo yX4_tiedTo, Cond.code yX4_tiedTo cX4_tiedTo 5 (some .int), Cond.methodLink RX5 143 yX3_remaining, Cond.instanceMethod yX3_remaining, Cond.selects RX3 yX3_remaining yX3_remaining, Cond.code yX3_remaining cX3_remaining 5 (some .int), Cond.methodLink RX3 48 yX3_afterNight, Cond.instanceMethod yX3_afterNight, Cond.selects RX3 yX3_afterNight yX3_afterNight, Cond.code yX3_afterNight cX3_afterNight 6 (some .int), Cond.methodLink RX3 43 yJ6_bitCount_0f7a4, Cond.methodLink RX5 146 yX3_nightsOfLeaving, Cond.instanceMethod yX3_nightsOfLeaving, Cond.selects RX3 yX3_nightsOfLeaving yX3_nightsOfLeaving, Cond.code yX3_nightsOfLeaving cX3_nightsOfLeaving 5 (some .int), Cond.methodLink RL 65 yX6_stays, Cond.instanceMethod yX6_stays, Cond.selects RX6 yX6_stays yX6_stays, Cond.code yX6_stays cX6_stays 3 (some .int), Cond.fieldLink RX6 227 "LastTrainModel" "nights" "I"]
def wsL_law_r24 : List Cond := [Cond.methodLink RX6 230 yX6_staysBy, Cond.instanceMethod yX6_staysBy, Cond.selects RX6 yX6_staysBy yX6_staysBy, Cond.code yX6_staysBy cX6_staysBy 4 (some .int), Cond.methodLink RL 66 yX5_keep, Cond.instanceMethod yX5_keep, Cond.selects RX5 yX5_keep yX5_keep, Cond.code yX5_keep cX5_keep 4 (some .int), Cond.methodLink RX5 149 yX4_isHere, Cond.methodLink RX5 152 yX3_fewestToKeep, Cond.instanceMethod yX3_fewestToKeep, Cond.selects RX3 yX3_fewestToKeep yX3_fewestToKeep, Cond.code yX3_fewestToKeep cX3_fewestToKeep 6 (some .int), Cond.methodLink RX3 51 yX3_remaining, Cond.methodLink RL 69 yX6_keep, Cond.instanceMethod yX6_keep, Cond.selects RX6 yX6_keep yX6_keep, Cond.code yX6_keep cX6_keep 7 (some .int), Cond.methodLink RX6 233 yX6_isHere, Cond.instanceMethod yX6_isHere, Cond.selects RX6 yX6_isHere yX6_isHere, Cond.code yX6_isHere cX6_isHere 2 (some .boolean), Cond.methodLink RL 70 yX5_loose, Cond.instanceMethod yX5_loose]
def wsL_law_r25 : List Cond := [Cond.selects RX5 yX5_loose yX5_loose, Cond.code yX5_loose cX5_loose 5 (some .int), Cond.methodLink RX5 161 Lib.Math.max.name, Cond.methodLink RX5 155 yX4_missingIt, Cond.methodLink RX5 158 yX4_tiesNeeded, Cond.methodLink RX5 166 yX5_leastOf, Cond.static yX5_leastOf, Cond.code yX5_leastOf cX5_leastOf 5 (some .int), Cond.methodLink RL 73 yX6_loose, Cond.instanceMethod yX6_loose, Cond.selects RX6 yX6_loose yX6_loose, Cond.code yX6_loose cX6_loose 8 (some .int), Cond.methodLink RL 74 yX5_seats, Cond.instanceMethod yX5_seats, Cond.selects RX5 yX5_seats yX5_seats, Cond.code yX5_seats cX5_seats 4 (some .int), Cond.methodLink RX5 169 yX3_mostStrangers, Cond.instanceMethod yX3_mostStrangers, Cond.selects RX3 yX3_mostStrangers yX3_mostStrangers, Cond.code yX3_mostStrangers cX3_mostStrangers 8 (some .int), Cond.methodLink RX3 54 yX3_lookAt, Cond.methodLink RX3 58 yX4_missed, Cond.methodLink RX3 62 yX3_areStrangers, Cond.instanceMethod yX3_areStrangers]
def wsL_law_r26 : List Cond := [Cond.selects RX3 yX3_areStrangers yX3_areStrangers, Cond.code yX3_areStrangers cX3_areStrangers 3 (some .boolean), Cond.methodLink RL 77 yX6_seats, Cond.instanceMethod yX6_seats, Cond.selects RX6 yX6_seats yX6_seats, Cond.code yX6_seats cX6_seats 7 (some .int), Cond.methodLink RX6 236 yX6_areApart, Cond.instanceMethod yX6_areApart, Cond.selects RX6 yX6_areApart yX6_areApart, Cond.code yX6_areApart cX6_areApart 4 (some .boolean), Cond.methodLink RL 78 yX5_calls, Cond.instanceMethod yX5_calls, Cond.selects RX5 yX5_calls yX5_calls, Cond.code yX5_calls cX5_calls 10 (some .long), Cond.constant RX5 173 (999999), Cond.constantLong RX5 174 (-1000000000000000002), Cond.constantLong RX5 176 (10), Cond.constantLong RX5 184 (100000), Cond.methodLink RX5 178 yX5_likeliest, Cond.static yX5_likeliest, Cond.code yX5_likeliest cX5_likeliest 5 (some .int), Cond.methodLink RX5 181 yX5_digit, Cond.static yX5_digit, Cond.code yX5_digit cX5_digit 2 (some .int)]
def wsL_law_r27 : List Cond := [Cond.fieldLink RX5 250 "LastTrain" "PLACES" "[I", Cond.methodLink RX5 186 yX5_partOf, Cond.static yX5_partOf, Cond.code yX5_partOf cX5_partOf 7 (some .long), Cond.methodLink RX5 257 yX5_commonDivisor, Cond.static yX5_commonDivisor, Cond.code yX5_commonDivisor cX5_commonDivisor 11 (some .long), Cond.methodLink RL 82 yX6_calls, Cond.instanceMethod yX6_calls, Cond.selects RX6 yX6_calls yX6_calls, Cond.code yX6_calls cX6_calls 10 (some .long), Cond.constantLong RX6 239 (999999), Cond.constantLong RX6 241 (-1000000000000000002), Cond.constantLong RX6 246 (10), Cond.methodLink RX6 243 yX6_readOdds, Cond.instanceMethod yX6_readOdds, Cond.selects RX6 yX6_readOdds yX6_readOdds, Cond.code yX6_readOdds cX6_readOdds 7 none, Cond.methodLink RX6 248 yX6_lowest, Cond.static yX6_lowest, Cond.code yX6_lowest cX6_lowest 11 (some .long), Cond.methodLink RL 83 yX5_order, Cond.instanceMethod yX5_order, Cond.selects RX5 yX5_order yX5_order]
def wsL_law_r28 : List Cond := [Cond.code yX5_order cX5_order 6 (some .int), Cond.methodLink RL 86 yX6_order, Cond.instanceMethod yX6_order, Cond.selects RX6 yX6_order yX6_order, Cond.code yX6_order cX6_order 4 (some .int), Cond.methodLink RL 87 yX5_rung, Cond.instanceMethod yX5_rung, Cond.selects RX5 yX5_rung yX5_rung, Cond.code yX5_rung cX5_rung 3 (some .int), Cond.fieldLink RX5 194 "LastTrain$Town" "sights" "I", Cond.methodLink RX5 190 yX4_addSight, Cond.instanceMethod yX4_addSight, Cond.selects RX4 yX4_addSight yX4_addSight, Cond.code yX4_addSight cX4_addSight 3 (some .boolean), Cond.methodLink RL 91 yX6_rung, Cond.instanceMethod yX6_rung, Cond.selects RX6 yX6_rung yX6_rung, Cond.code yX6_rung cX6_rung 3 (some .int), Cond.fieldLink RX6 252 "LastTrainModel" "sights" "I", Cond.methodLink RL 92 yX5_forget, Cond.instanceMethod yX5_forget, Cond.selects RX5 yX5_forget yX5_forget, Cond.code yX5_forget cX5_forget 2 (some .int), Cond.methodLink RX5 197 yX4_dropSights]
def wsL_law_r29 : List Cond := [Cond.instanceMethod yX4_dropSights, Cond.selects RX4 yX4_dropSights yX4_dropSights, Cond.code yX4_dropSights cX4_dropSights 1 none, Cond.methodLink RL 95 yX6_forget, Cond.instanceMethod yX6_forget, Cond.selects RX6 yX6_forget yX6_forget, Cond.code yX6_forget cX6_forget 2 (some .int), Cond.methodLink RL 96 yX5_who, Cond.instanceMethod yX5_who, Cond.selects RX5 yX5_who yX5_who, Cond.code yX5_who cX5_who 1 (some .int), Cond.methodLink RX5 200 yX4_fitting, Cond.instanceMethod yX4_fitting, Cond.selects RX4 yX4_fitting yX4_fitting, Cond.code yX4_fitting cX4_fitting 4 (some .int), Cond.methodLink RX4 107 yX4_tiedTo, Cond.methodLink RL 99 yX6_who, Cond.instanceMethod yX6_who, Cond.selects RX6 yX6_who yX6_who, Cond.code yX6_who cX6_who 4 (some .int), Cond.methodLink RX6 255 yX6_yesBy, Cond.instanceMethod yX6_yesBy, Cond.selects RX6 yX6_yesBy yX6_yesBy, Cond.code yX6_yesBy cX6_yesBy 4 (some .int)]
def wsL_law_r30 : List Cond := [Cond.methodLink RL 100 yX5_ring, Cond.instanceMethod yX5_ring, Cond.selects RX5 yX5_ring yX5_ring, Cond.code yX5_ring cX5_ring 5 (some .int), Cond.methodLink RX5 203 yX4_leftAtMost, Cond.instanceMethod yX4_leftAtMost, Cond.selects RX4 yX4_leftAtMost yX4_leftAtMost, Cond.code yX4_leftAtMost cX4_leftAtMost 4 (some .int), Cond.methodLink RL 103 yX6_ring, Cond.instanceMethod yX6_ring, Cond.selects RX6 yX6_ring yX6_ring, Cond.code yX6_ring cX6_ring 8 (some .int), Cond.methodLink RX6 258 yX6_who, Cond.methodLink RX6 260 yX6_more, Cond.static yX6_more, Cond.code yX6_more cX6_more 2 (some .int), Cond.methodLink RL 104 yX5_answers, Cond.instanceMethod yX5_answers, Cond.selects RX5 yX5_answers yX5_answers, Cond.code yX5_answers cX5_answers 5 (some .long), Cond.fieldLink RX5 210 "LastTrain$Answers" "enoughSaidIt" "J", Cond.fieldLink RX5 214 "LastTrain$Answers" "callsMade" "J", Cond.fieldLink RX5 217 "LastTrain$Answers" "lower" "J", Cond.methodLink RX5 206 yX0_ringAll]
def wsL_law_r31 : List Cond := [Cond.instanceMethod yX0_ringAll, Cond.selects RX0 yX0_ringAll yX0_ringAll, Cond.code yX0_ringAll cX0_ringAll 5 none, Cond.constantLong RX0 32 (10), Cond.methodLink RX0 25 yX0_startChances, Cond.instanceMethod yX0_startChances, Cond.selects RX0 yX0_startChances yX0_startChances, Cond.code yX0_startChances cX0_startChances 2 none, Cond.methodLink RX0 28 yX0_tooFew, Cond.instanceMethod yX0_tooFew, Cond.selects RX0 yX0_tooFew yX0_tooFew, Cond.code yX0_tooFew cX0_tooFew 5 (some .long), Cond.methodLink RX0 34 yX0_ringOne, Cond.instanceMethod yX0_ringOne, Cond.selects RX0 yX0_ringOne yX0_ringOne, Cond.code yX0_ringOne cX0_ringOne 7 none, Cond.methodLink RL 108 yX6_answers, Cond.instanceMethod yX6_answers, Cond.selects RX6 yX6_answers yX6_answers, Cond.code yX6_answers cX6_answers 12 (some .long), Cond.methodLink RL 109 yX5_number, Cond.instanceMethod yX5_number, Cond.selects RX5 yX5_number yX5_number, Cond.code yX5_number cX5_number 4 (some .int)]
def wsL_law_r32 : List Cond := [Cond.methodLink RL 112 yX6_number, Cond.instanceMethod yX6_number, Cond.selects RX6 yX6_number yX6_number, Cond.code yX6_number cX6_number 4 (some .int), Cond.constantLong RX6 263 (999), Cond.methodLink RX6 265 yX6_bestTake, Cond.instanceMethod yX6_bestTake, Cond.selects RX6 yX6_bestTake yX6_bestTake, Cond.code yX6_bestTake cX6_bestTake 5 (some .int), Cond.methodLink RL 113 yX5_year, Cond.instanceMethod yX5_year, Cond.selects RX5 yX5_year yX5_year, Cond.code yX5_year cX5_year 6 (some .int), Cond.constant RX5 223 (65537), Cond.methodLink RX5 220 yX1_startFrom, Cond.methodLink RX5 224 yX5_drawnDeed, Cond.static yX5_drawnDeed, Cond.code yX5_drawnDeed cX5_drawnDeed 1 (some .int), Cond.fieldLink RX5 254 "LastTrain" "DRAWN_DEEDS" "[I", Cond.methodLink RX5 227 yX1_attempt, Cond.methodLink RX5 231 yX4_strengthOfAll, Cond.instanceMethod yX4_strengthOfAll, Cond.selects RX4 yX4_strengthOfAll yX4_strengthOfAll, Cond.code yX4_strengthOfAll cX4_strengthOfAll 1 (some .int)]
def wsL_law_r33 : List Cond := [Cond.methodLink RL 116 yX6_year, Cond.instanceMethod yX6_year, Cond.selects RX6 yX6_year yX6_year, Cond.code yX6_year cX6_year 9 (some .int), Cond.constantLong RX6 268 (9999), Cond.constantLong RX6 270 (99), Cond.constantLong RX6 272 (75), Cond.constantLong RX6 274 (65537), Cond.methodLink RX6 276 yX6_actBy, Cond.static yX6_actBy, Cond.code yX6_actBy cX6_actBy 1 (some .int), Cond.methodLink RL 117 yX5_image, Cond.instanceMethod yX5_image, Cond.selects RX5 yX5_image yX5_image, Cond.code yX5_image cX5_image 2 (some .int), Cond.methodLink RX5 234 yX5_imageOf, Cond.instanceMethod yX5_imageOf, Cond.selects RX5 yX5_imageOf yX5_imageOf, Cond.code yX5_imageOf cX5_imageOf 2 (some (.object "LastTrain$Town")), Cond.methodLink RL 120 yX6_image, Cond.instanceMethod yX6_image, Cond.selects RX6 yX6_image yX6_image, Cond.code yX6_image cX6_image 2 (some .int), Cond.fieldLink RX6 283 "LastTrainModel" "keptAt" "I"]
def wsL_law_r34 : List Cond := [Cond.fieldLink RX6 279 "LastTrainModel" "isWriting" "Z", Cond.methodLink RX6 293 yX6_passAll, Cond.instanceMethod yX6_passAll, Cond.selects RX6 yX6_passAll yX6_passAll, Cond.code yX6_passAll cX6_passAll 1 none, Cond.methodLink RX6 286 yX6_pass, Cond.instanceMethod yX6_pass, Cond.selects RX6 yX6_pass yX6_pass, Cond.code yX6_pass cX6_pass 3 (some .int), Cond.methodLink RX6 289 yX6_passRow, Cond.instanceMethod yX6_passRow, Cond.selects RX6 yX6_passRow yX6_passRow, Cond.code yX6_passRow cX6_passRow 4 none, Cond.methodLink RL 121 yX5_restore, Cond.instanceMethod yX5_restore, Cond.selects RX5 yX5_restore yX5_restore, Cond.code yX5_restore cX5_restore 2 (some .int), Cond.methodLink RL 124 yX6_restore, Cond.instanceMethod yX6_restore, Cond.selects RX6 yX6_restore yX6_restore, Cond.code yX6_restore cX6_restore 2 (some .int), Cond.methodLink RL 125 yX5_told, Cond.instanceMethod yX5_told, Cond.selects RX5 yX5_told yX5_told]
def wsL_law_r35 : List Cond := [Cond.code yX5_told cX5_told 2 (some .int), Cond.fieldLink RX5 244 "LastTrain$Town" "dogs" "I", Cond.fieldLink RX5 247 "LastTrain$Town" "waiting" "I", Cond.methodLink RX5 241 yX4_kind, Cond.methodLink RL 128 yX6_told, Cond.instanceMethod yX6_told, Cond.selects RX6 yX6_told yX6_told, Cond.code yX6_told cX6_told 3 (some .int), Cond.constantLong RX6 296 (100), Cond.constantLong RX6 298 (199), Cond.constantLong RX6 300 (200), Cond.constantLong RX6 302 (299), Cond.constantLong RX6 304 (13), Cond.methodLink RX6 306 yX6_toldOfAll, Cond.instanceMethod yX6_toldOfAll, Cond.selects RX6 yX6_toldOfAll yX6_toldOfAll, Cond.code yX6_toldOfAll cX6_toldOfAll 2 (some .int)]
def wsL_law : List Cond := (wsL_law_r1 ++ (wsL_law_r2 ++ (wsL_law_r3 ++ (wsL_law_r4 ++ (wsL_law_r5 ++ (wsL_law_r6 ++ (wsL_law_r7 ++ (wsL_law_r8 ++ (wsL_law_r9 ++ (wsL_law_r10 ++ (wsL_law_r11 ++ (wsL_law_r12 ++ (wsL_law_r13 ++ (wsL_law_r14 ++ (wsL_law_r15 ++ (wsL_law_r16 ++ (wsL_law_r17 ++ (wsL_law_r18 ++ (wsL_law_r19 ++ (wsL_law_r20 ++ (wsL_law_r21 ++ (wsL_law_r22 ++ (wsL_law_r23 ++ (wsL_law_r24 ++ (wsL_law_r25 ++ (wsL_law_r26 ++ (wsL_law_r27 ++ (wsL_law_r28 ++ (wsL_law_r29 ++ (wsL_law_r30 ++ (wsL_law_r31 ++ (wsL_law_r32 ++ (wsL_law_r33 ++ (wsL_law_r34 ++ wsL_law_r35)))))))))))))))))))))))))))))))))) ++ wsX50 ++ wsX60 ++ wsX40 ++ wsX20 ++ wsX10 ++ wsX30 ++ wsX00 ++ ([] : List Cond)
theorem inlX0 : ∀ w ∈ wsX00, w ∈ wsL_law := fun _ h => List.mem_append_left _ (List.mem_append_right _ h)
theorem inlX1 : ∀ w ∈ wsX10, w ∈ wsL_law := fun _ h => List.mem_append_left _ (List.mem_append_left _ (List.mem_append_left _ (List.mem_append_right _ h)))
theorem inlX2 : ∀ w ∈ wsX20, w ∈ wsL_law := fun _ h => List.mem_append_left _ (List.mem_append_left _ (List.mem_append_left _ (List.mem_append_left _ (List.mem_append_right _ h))))
theorem inlX3 : ∀ w ∈ wsX30, w ∈ wsL_law := fun _ h => List.mem_append_left _ (List.mem_append_left _ (List.mem_append_right _ h))
theorem inlX4 : ∀ w ∈ wsX40, w ∈ wsL_law := fun _ h => List.mem_append_left _ (List.mem_append_left _ (List.mem_append_left _ (List.mem_append_left _ (List.mem_append_left _ (List.mem_append_right _ h)))))
theorem inlX5 : ∀ w ∈ wsX50, w ∈ wsL_law := fun _ h => List.mem_append_left _ (List.mem_append_left _ (List.mem_append_left _ (List.mem_append_left _ (List.mem_append_left _ (List.mem_append_left _ (List.mem_append_left _ (List.mem_append_right _ h)))))))
theorem inlX6 : ∀ w ∈ wsX60, w ∈ wsL_law := fun _ h => List.mem_append_left _ (List.mem_append_left _ (List.mem_append_left _ (List.mem_append_left _ (List.mem_append_left _ (List.mem_append_left _ (List.mem_append_right _ h))))))
abbrev vwCl : List vw_C := [(RX0, TX0, 4), (RX1, TX1, 7), (RX2, TX2, 2), (RX3, TX3, 4), (RX4, TX4, 9), (RX5, TX5, 8), (RX6, TX6, 32)]
end
section
/-! WHAT EVERY WALK STANDS ON: the states of the components, the mirror's own words, the call rows in one shape -/
abbrev TI : Type := Nat → Nat → Int32
abbrev TL : Type := Nat → Nat → Int64
def jrem (x y : Int32) : Int32 := x - x / y * y
def jremL (x y : Int64) : Int64 := x - x / y * y
def jushr (x y : Int32) : Int32 := (x.toUInt32 >>> (y.toUInt32 &&& Int32.toUInt32 31)).toInt32
/-- taller than all that the numbers are made of: what speaks of it is unfolded ahead of them -/
def hiZ : Int32 → Int64 → Nat := fun x y => (jushr x x + jrem x x).toNatClampNeg + (jremL y y).toInt32.toNatClampNeg + ((x <<< (x &&& x)) >>> x ||| (x &&& x) ^^^ x).toNatClampNeg + (upd (fun _ => x) 0 x 0).toNatClampNeg + (vp_updL (fun _ => y) 0 y 0).toInt32.toNatClampNeg + (vp_nar .boolean x).toNatClampNeg + (x.toInt64 * y - y + y / y).toInt32.toNatClampNeg + (lg_cmp y y).toNatClampNeg + (x * x - x).toNatClampNeg + (Int32.ofNat 3).toNatClampNeg + (if x < x then x else x).toNatClampNeg
def upA (T : TI) (i : Nat) (f : Nat → Int32) : TI := fun a => match Nat.beq a i with | true => f | false => (fun (_ : Int32 → Int64 → Nat) => T a) hiZ
def upAL (T : TL) (i : Nat) (f : Nat → Int64) : TL := fun a => match Nat.beq a i with | true => f | false => (fun (_ : Int32 → Int64 → Nat) => T a) hiZ
def updF (f : Nat → Int32) (i : Nat) (v : Int32) : Nat → Int32 := fun a => match Nat.beq a i with | true => v | false => (fun (_ : Int32 → Int64 → Nat) => f a) hiZ
def updFL (f : Nat → Int64) (i : Nat) (v : Int64) : Nat → Int64 := fun a => match Nat.beq a i with | true => v | false => (fun (_ : Int32 → Int64 → Nat) => f a) hiZ
def sf (T : TI) (j : Nat) (v : Int32) : TI := upA T 0 (updF (T 0) j v)
def sfL (T : TL) (j : Nat) (v : Int64) : TL := upAL T 0 (updFL (T 0) j v)
/-- a loop of the mirror: n rounds at the most -/
def loopF {σ ρ : Type} (b : σ → (σ → Option ρ) → Option ρ) : Nat → σ → Option ρ
  | 0, _ => none
  | n + 1, s => b s (loopF b n)
theorem loopF_0 {σ ρ : Type} {b : σ → (σ → Option ρ) → Option ρ} {s : σ} {o : ρ} {P : Prop} (h : loopF b 0 s = some o) : P := by cases h
theorem loopF_s {σ ρ : Type} {b : σ → (σ → Option ρ) → Option ρ} {n : Nat} {s : σ} {o : Option ρ} (h : loopF b (n + 1) s = o) : b s (loopF b n) = o := h
def gd {α : Type} (b : Bool) (x : Option α) : Option α := bif b then x else none
def inB (i : Int32) (n : Nat) : Bool := !(decide (i < 0) || decide (n ≤ i.toNatClampNeg))
def nz (x : Int32) : Bool := !(decide (x = 0))
def nzL (x : Int64) : Bool := !(decide (x = 0))
theorem q_in {α : Type} {i : Int32} {n : Nat} {x : Option α} {o : α} (h : gd (inB i n) x = some o) : vp_in i n ∧ x = some o := by
  unfold gd inB at h
  by_cases h1 : i < 0
  · simp [h1] at h
  · by_cases h2 : n ≤ i.toNatClampNeg
    · simp [h1, h2] at h
    · simp [h1, h2] at h
      exact ⟨fun q => q.elim h1 h2, h⟩
theorem q_nz {α : Type} {y : Int32} {x : Option α} {o : α} (h : gd (nz y) x = some o) : (¬ y = 0) ∧ x = some o := by
  unfold gd nz at h
  by_cases h1 : y = 0
  · simp [h1] at h
  · simp [h1] at h
    exact ⟨h1, h⟩
theorem q_nzL {α : Type} {y : Int64} {x : Option α} {o : α} (h : gd (nzL y) x = some o) : (¬ y = 0) ∧ x = some o := by
  unfold gd nzL at h
  by_cases h1 : y = 0
  · simp [h1] at h
  · simp [h1] at h
    exact ⟨h1, h⟩
def isZ (v : Int32) : Bool := decide (v = 0) || decide (v = 1)
theorem q_z {α : Type} {v : Int32} {x : Option α} {o : α} (h : gd (isZ v) x = some o) : narrow .boolean (.int v) = .int v ∧ x = some o := by
  unfold gd isZ at h
  by_cases h0 : v = 0
  · subst h0; simp at h; exact ⟨rfl, h⟩
  · by_cases h1 : v = 1
    · subst h1; simp at h; exact ⟨rfl, h⟩
    · simp [h0, h1] at h
theorem q_inb {i : Int32} {n : Nat} (h : inB i n = true) : vp_in i n := (q_in (x := some ()) (o := ()) (show gd (inB i n) (some ()) = some () by rw [h]; rfl)).1
theorem tabOut {lo hi : Int} {x : Int32} (h : ∀ k : Int, lo ≤ k → k ≤ hi → x.toInt = k → False) : x.toInt < lo ∨ hi < x.toInt := by
  rcases Int.lt_or_le x.toInt lo with h1 | h1
  · exact Or.inl h1
  · rcases Int.lt_or_le hi x.toInt with h2 | h2
    · exact Or.inr h2
    · exact absurd rfl (fun q => h x.toInt h1 h2 q)
theorem q_pos {α : Type} {c : Prop} [Decidable c] {a b o : α} (hc : c) (h : (if c then a else b) = o) : a = o := by rw [if_pos hc] at h; exact h
theorem q_neg {α : Type} {c : Prop} [Decidable c] {a b o : α} (hc : ¬ c) (h : (if c then a else b) = o) : b = o := by rw [if_neg hc] at h; exact h
theorem q_bind {α β : Type} {x : Option α} {f : α → Option β} {o : β} (h : x.bind f = some o) : ∃ u, x = some u ∧ f u = some o := by
  cases x with
  | none => cases h
  | some u => exact ⟨u, rfl, h⟩
theorem q_some {α : Type} {a o : α} (h : some a = some o) : o = a := (Option.some.inj h).symm
-- the cells of a component
abbrev kT (cI cJ cZ : ClassId) : List (ClassId × FieldType) := [(cI, .int), (cJ, .long), (cZ, .boolean)]
def w0x (cJ : ClassId) (q : Nat → Nat) (z0 : Int64) (z1 : Int64) (z2 : Int64) (z3 : Nat → Int64) : va_W := [(q 0, .inr (0, [.ref (q 1), .long z0, .long z1, .long z2])), (q 1, .inl (cJ, 11, .inr (.inl z3)))]
def w0 (cJ : ClassId) (q : Nat → Nat) (A : TL) : va_W := w0x cJ q (A 0 1) (A 0 2) (A 0 3) (A 1)
def w1x (q t : Nat → Nat) (z0 : Int32) (z1 : Int32) (z2 : Int32) (z3 : Int32) (z4 : Int32) (z5 : Int32) : va_W := [(q 0, .inr (1, [.ref (t 0), .int z0, .int z1, .int z2, .int z3, .int z4, .int z5]))]
def w1 (q t : Nat → Nat) (C : TI) : va_W := w1x q t (C 0 1) (C 0 2) (C 0 3) (C 0 4) (C 0 5) (C 0 6)
def w2x (cI : ClassId) (q : Nat → Nat) (z0 : Int32) (z1 : Nat → Int32) : va_W := [(q 0, .inr (2, [.ref (q 1), .int z0])), (q 1, .inl (cI, 60, .inl z1))]
def w2 (cI : ClassId) (q : Nat → Nat) (P : TI) : va_W := w2x cI q (P 0 1) (P 1)
def w3x (cI : ClassId) (q : Nat → Nat) (z0 : Int32) (z1 : Nat → Int32) (z2 : Nat → Int32) (z3 : Nat → Int32) : va_W := [(q 0, .inr (3, [.ref (q 1), .ref (q 2), .ref (q 3), .int z0])), (q 1, .inl (cI, 10, .inl z1)), (q 2, .inl (cI, 10, .inl z2)), (q 3, .inl (cI, 10, .inl z3))]
def w3 (cI : ClassId) (q : Nat → Nat) (F : TI) : va_W := w3x cI q (F 0 3) (F 1) (F 2) (F 3)
def w4x (cI : ClassId) (q : Nat → Nat) (z0 : Int32) (z1 : Int32) (z2 : Int32) (z3 : Int32) (z4 : Int32) (z5 : Nat → Int32) (z6 : Nat → Int32) (z7 : Nat → Int32) (z8 : Nat → Int32) : va_W := [(q 0, .inr (4, [.int z0, .int z1, .int z2, .int z3, .int z4, .ref (q 6), .ref (q 7), .ref (q 8), .ref (q 9)])), (q 6, .inl (cI, 100, .inl z5)), (q 7, .inl (cI, 100, .inl z6)), (q 8, .inl (cI, 4, .inl z7)), (q 9, .inl (cI, 8, .inl z8))]
def w4 (cI : ClassId) (q : Nat → Nat) (T : TI) : va_W := w4x cI q (T 0 0) (T 0 1) (T 0 2) (T 0 3) (T 0 4) (T 6) (T 7) (T 8) (T 9)
def w5x (q t i1 i2 p c f r : Nat → Nat) (z0 : Int32) : va_W := [(q 0, .inr (5, [.ref (t 0), .ref (i1 0), .ref (i2 0), .int z0, .ref (p 0), .ref (c 0), .ref (f 0), .ref (r 0)]))]
def w5 (q t i1 i2 p c f r : Nat → Nat) (X : TI) : va_W := w5x q t i1 i2 p c f r (X 0 3)
def w6x (cI cJ cZ : ClassId) (q : Nat → Nat) (z0 : Int32) (z1 : Int32) (z2 : Int32) (z3 : Int32) (z4 : Int32) (z5 : Int32) (z6 : Int32) (z7 : Int32) (z8 : Int32) (z9 : Int32) (z10 : Int32) (z11 : Int32) (z12 : Int32) (z13 : Int32) (z14 : Int32) (z15 : Int32) (z16 : Nat → Int32) (z17 : Nat → Int32) (z18 : Nat → Int32) (z19 : Nat → Int32) (z20 : Nat → Int32) (z21 : Nat → Int32) (z22 : Nat → Int32) (z23 : Nat → Int32) (z24 : Nat → Int32) (z25 : Nat → Int32) (z26 : Nat → Int32) (z27 : Nat → Int32) (z28 : Nat → Int64) (z29 : Nat → Int32) (z30 : Nat → Int32) (z31 : Nat → Int32) : va_W := [(q 0, .inr (6, [.int z0, .int z1, .int z2, .ref (q 4), .ref (q 5), .ref (q 6), .ref (q 7), .ref (q 8), .int z3, .ref (q 10), .int z4, .ref (q 12), .ref (q 13), .ref (q 14), .int z5, .int z6, .int z7, .int z8, .ref (q 19), .int z9, .int z10, .int z11, .int z12, .int z13, .ref (q 25), .ref (q 26), .ref (q 27), .ref (q 28), .ref (q 29), .ref (q 30), .int z14, .int z15])), (q 4, .inl (cI, 100, .inl z16)), (q 5, .inl (cI, 100, .inl z17)), (q 6, .inl (cI, 4, .inl z18)), (q 7, .inl (cI, 8, .inl z19)), (q 8, .inl (cI, 8, .inl z20)), (q 10, .inl (cI, 60, .inl z21)), (q 12, .inl (cI, 60, .inl z22)), (q 13, .inl (cI, 60, .inl z23)), (q 14, .inl (cI, 60, .inl z24)), (q 19, .inl (cI, 203, .inl z25)), (q 25, .inl (cI, 6, .inl z26)), (q 26, .inl (cI, 6, .inl z27)), (q 27, .inl (cJ, 10, .inr (.inl z28))), (q 28, .inl (cI, 1000, .inl z29)), (q 29, .inl (cI, 480, .inl z30)), (q 30, .inl (cZ, 2, .inl z31))]
def w6 (cI cJ cZ : ClassId) (q : Nat → Nat) (S : TI) (L : TL) : va_W := w6x cI cJ cZ q (S 0 0) (S 0 1) (S 0 2) (S 0 8) (S 0 10) (S 0 14) (S 0 15) (S 0 16) (S 0 17) (S 0 19) (S 0 20) (S 0 21) (S 0 22) (S 0 23) (S 0 30) (S 0 31) (S 4) (S 5) (S 6) (S 7) (S 8) (S 10) (S 12) (S 13) (S 14) (S 19) (S 25) (S 26) (L 27) (S 28) (S 29) (S 30)
def wA (cI : ClassId) (a n : Nat) (f : Nat → Int32) : va_W := [(a, .inl (cI, n, .inl f))]
def mk0 (z0 : Int64) (z1 : Int64) (z2 : Int64) (z3 : Nat → Int64) : TL := fun a => match Nat.beq a 0 with | true => (fun b => match Nat.beq b 1 with | true => z0 | false => match Nat.beq b 2 with | true => z1 | false => match Nat.beq b 3 with | true => z2 | false => 0) | false => match Nat.beq a 1 with | true => z3 | false => fun _ => 0
def mk1 (z0 : Int32) (z1 : Int32) (z2 : Int32) (z3 : Int32) (z4 : Int32) (z5 : Int32)  : TI := fun a => match Nat.beq a 0 with | true => (fun b => match Nat.beq b 1 with | true => z0 | false => match Nat.beq b 2 with | true => z1 | false => match Nat.beq b 3 with | true => z2 | false => match Nat.beq b 4 with | true => z3 | false => match Nat.beq b 5 with | true => z4 | false => match Nat.beq b 6 with | true => z5 | false => 0) | false => fun _ => 0
def mk2 (z0 : Int32) (z1 : Nat → Int32) : TI := fun a => match Nat.beq a 0 with | true => (fun b => match Nat.beq b 1 with | true => z0 | false => 0) | false => match Nat.beq a 1 with | true => z1 | false => fun _ => 0
def mk3 (z0 : Int32) (z1 : Nat → Int32) (z2 : Nat → Int32) (z3 : Nat → Int32) : TI := fun a => match Nat.beq a 0 with | true => (fun b => match Nat.beq b 3 with | true => z0 | false => 0) | false => match Nat.beq a 1 with | true => z1 | false => match Nat.beq a 2 with | true => z2 | false => match Nat.beq a 3 with | true => z3 | false => fun _ => 0
def mk4 (z0 : Int32) (z1 : Int32) (z2 : Int32) (z3 : Int32) (z4 : Int32) (z5 : Nat → Int32) (z6 : Nat → Int32) (z7 : Nat → Int32) (z8 : Nat → Int32) : TI := fun a => match Nat.beq a 0 with | true => (fun b => match Nat.beq b 0 with | true => z0 | false => match Nat.beq b 1 with | true => z1 | false => match Nat.beq b 2 with | true => z2 | false => match Nat.beq b 3 with | true => z3 | false => match Nat.beq b 4 with | true => z4 | false => 0) | false => match Nat.beq a 6 with | true => z5 | false => match Nat.beq a 7 with | true => z6 | false => match Nat.beq a 8 with | true => z7 | false => match Nat.beq a 9 with | true => z8 | false => fun _ => 0
def mk5 (z0 : Int32)  : TI := fun a => match Nat.beq a 0 with | true => (fun b => match Nat.beq b 3 with | true => z0 | false => 0) | false => fun _ => 0
def mk6 (z0 : Int32) (z1 : Int32) (z2 : Int32) (z3 : Int32) (z4 : Int32) (z5 : Int32) (z6 : Int32) (z7 : Int32) (z8 : Int32) (z9 : Int32) (z10 : Int32) (z11 : Int32) (z12 : Int32) (z13 : Int32) (z14 : Int32) (z15 : Int32) (z16 : Nat → Int32) (z17 : Nat → Int32) (z18 : Nat → Int32) (z19 : Nat → Int32) (z20 : Nat → Int32) (z21 : Nat → Int32) (z22 : Nat → Int32) (z23 : Nat → Int32) (z24 : Nat → Int32) (z25 : Nat → Int32) (z26 : Nat → Int32) (z27 : Nat → Int32) (z28 : Nat → Int32) (z29 : Nat → Int32) (z30 : Nat → Int32) : TI := fun a => match Nat.beq a 0 with | true => (fun b => match Nat.beq b 0 with | true => z0 | false => match Nat.beq b 1 with | true => z1 | false => match Nat.beq b 2 with | true => z2 | false => match Nat.beq b 8 with | true => z3 | false => match Nat.beq b 10 with | true => z4 | false => match Nat.beq b 14 with | true => z5 | false => match Nat.beq b 15 with | true => z6 | false => match Nat.beq b 16 with | true => z7 | false => match Nat.beq b 17 with | true => z8 | false => match Nat.beq b 19 with | true => z9 | false => match Nat.beq b 20 with | true => z10 | false => match Nat.beq b 21 with | true => z11 | false => match Nat.beq b 22 with | true => z12 | false => match Nat.beq b 23 with | true => z13 | false => match Nat.beq b 30 with | true => z14 | false => match Nat.beq b 31 with | true => z15 | false => 0) | false => match Nat.beq a 4 with | true => z16 | false => match Nat.beq a 5 with | true => z17 | false => match Nat.beq a 6 with | true => z18 | false => match Nat.beq a 7 with | true => z19 | false => match Nat.beq a 8 with | true => z20 | false => match Nat.beq a 10 with | true => z21 | false => match Nat.beq a 12 with | true => z22 | false => match Nat.beq a 13 with | true => z23 | false => match Nat.beq a 14 with | true => z24 | false => match Nat.beq a 19 with | true => z25 | false => match Nat.beq a 25 with | true => z26 | false => match Nat.beq a 26 with | true => z27 | false => match Nat.beq a 28 with | true => z28 | false => match Nat.beq a 29 with | true => z29 | false => match Nat.beq a 30 with | true => z30 | false => fun _ => 0
def mkL6  (z0 : Nat → Int64) : TL := fun a => match Nat.beq a 27 with | true => z0 | false => fun _ => 0
-- a contract's start and its end
/-- the calls of a nest mate's private function -/
def xNest (U : State) : Prop := va_Nw (.methodLinkNest RX1 99 yX5_leastOne RX5) U ∧ va_Nw (.methodLinkNest RX2 34 yX5_isLetter RX5) U ∧ va_Nw (.methodLinkNest RX3 39 yX5_holds RX5) U ∧ va_Nw (.methodLinkNest RX4 55 yX5_holds RX5) U ∧ va_Nw (.methodLinkNest RX5 28 yX2_init RX5) U ∧ va_Nw (.methodLinkNest RX5 35 yX1_init RX5) U ∧ va_Nw (.methodLinkNest RX5 42 yX3_init RX5) U ∧ va_Nw (.methodLinkNest RX5 49 yX0_init RX5) U
theorem xNest.warm {s U : State} (hW : s.WarmedH U.vm) (h : xNest s) : xNest U := ⟨va_Nw.warmM hW h.1, va_Nw.warmM hW h.2.1, va_Nw.warmM hW h.2.2.1, va_Nw.warmM hW h.2.2.2.1, va_Nw.warmM hW h.2.2.2.2.1, va_Nw.warmM hW h.2.2.2.2.2.1, va_Nw.warmM hW h.2.2.2.2.2.2.1, va_Nw.warmM hW h.2.2.2.2.2.2.2⟩
theorem xNest.same {s U : State} (hv : s.vm = U.vm) (h : xNest s) : xNest U := ⟨va_Nw.same rfl hv h.1, va_Nw.same rfl hv h.2.1, va_Nw.same rfl hv h.2.2.1, va_Nw.same rfl hv h.2.2.2.1, va_Nw.same rfl hv h.2.2.2.2.1, va_Nw.same rfl hv h.2.2.2.2.2.1, va_Nw.same rfl hv h.2.2.2.2.2.2.1, va_Nw.same rfl hv h.2.2.2.2.2.2.2⟩
def vPlaces : Nat → Int32 := fun j => [100000, 10000, 1000, 100, 10, 1].getD j 0
def vDeeds : Nat → Int32 := fun j => [43, 43, 45, 36, 62, 62, 46, 126].getD j 0
/-- the two static rows of the class -/
def xE (aP aD : Nat) (A : Nat → Prop) (U : State) (H : Heap) : Prop := va_Z RX5 "PLACES" "[I" (.ref aP) A U H ∧ va_X aP 6 vPlaces U H ∧ aP < H.size ∧ ¬ A aP ∧ va_Z RX5 "DRAWN_DEEDS" "[I" (.ref aD) A U H ∧ va_X aD 8 vDeeds U H ∧ aD < H.size ∧ ¬ A aD
def xPre (D : va_G) (tys : List (ClassId × FieldType)) (wc : va_W) (sz : Nat) (as : List Value) : Array Value → State → Prop := va_Pc as (fun U => U.heap.size = sz ∧ va_P D vwCl wc U.heap ∧ va_K D vwCl tys U ∧ va_D (fun _ => True) wc ∧ xNest U)
def xPreE (aP aD : Nat) (D : va_G) (tys : List (ClassId × FieldType)) (wc : va_W) (sz : Nat) (as : List Value) : Array Value → State → Prop := va_Pc as (fun U => U.heap.size = sz ∧ va_P D vwCl wc U.heap ∧ va_K D vwCl tys U ∧ va_D (fun _ => True) wc ∧ xNest U ∧ xE aP aD (va_A wc sz) U U.heap)
def xB (D : va_G) (tys : List (ClassId × FieldType)) (wc w1 : va_W) (sz : Nat) (t : State) : Prop := va_P D vwCl w1 t.heap ∧ va_K D vwCl tys t ∧ va_D (va_A wc sz) w1
def xQi (D : va_G) (tys : List (ClassId × FieldType)) (wc w1 : va_W) (sz : Nat) (r : Int32) : Array Value → State → Outcome → State → Prop := va_Qi (fun (x : Int32) (_ : Unit) => x = r) (fun _ t => xB D tys wc w1 sz t) (va_A wc sz)
def xQz (D : va_G) (tys : List (ClassId × FieldType)) (wc w1 : va_W) (sz : Nat) (r : Int32) : Array Value → State → Outcome → State → Prop := va_Qi (fun (x : Int32) (_ : Unit) => x = r ∧ narrow .boolean (.int x) = .int x) (fun _ t => xB D tys wc w1 sz t) (va_A wc sz)
def xQl (D : va_G) (tys : List (ClassId × FieldType)) (wc w1 : va_W) (sz : Nat) (r : Int64) : Array Value → State → Outcome → State → Prop := va_Ql (fun (x : Int64) (_ : Unit) => x = r) (fun _ t => xB D tys wc w1 sz t) (va_A wc sz)
def xQv (D : va_G) (tys : List (ClassId × FieldType)) (wc w1 : va_W) (sz : Nat) : Array Value → State → Outcome → State → Prop := va_Qv (fun (_ : Unit) => True) (fun _ t => xB D tys wc w1 sz t) (va_A wc sz)
def xQr (D : va_G) (tys : List (ClassId × FieldType)) (wc w1 : va_W) (sz : Nat) (r : Nat) : Array Value → State → Outcome → State → Prop := va_Qr (fun (_ : Unit) => True) (fun _ a t => a = r ∧ xB D tys wc w1 sz t) (va_A wc sz)
theorem x_fm {α : Type} {ws : List α} : ∀ {is : List Nat} {w : List α}, is.map (fun i => ws[i]?) = w.map some → is.filterMap (fun i => ws[i]?) = w
  | [], w, h => by
    cases w with
    | nil => rfl
    | cons a w => simp at h
  | i :: is, w, h => by
    cases w with
    | nil => simp at h
    | cons a w =>
      simp only [List.map_cons, List.cons.injEq] at h
      rw [List.filterMap_cons, h.1]
      simp only [List.cons.injEq, true_and]
      exact x_fm h.2
section XW
variable {p : Program} {l : Launch} {e : Env} {R : Room} {s : State} {m : MethodId} {args : Array Value} {below : List Frame} {meth : Method} {c : Code} {H : Heap} {locs : List Loc} {cells slots : Nat} {Q : State → Prop}
theorem xStart {vs : List Value} {n : Nat} {lv : List (Nat × Value)} (hv : args = vs.toArray) (h0 : (lg_sl vs).length ≤ n) (h1 : lv_args 0 vs = lv) (k : ∀ ls : Array Slot, lv_has ls n lv → W p l e R s m args below meth c H locs cells slots Q (F0 m 0 ls [])) : W p l e R s m args below meth c H locs cells slots Q (entryFrame m args n) := by
  have hk := k _ (h1 ▸ lv_entry vs h0)
  have he : entryFrame m args n = F0 m 0 ((lg_sl vs ++ List.replicate (n - (lg_sl vs).length) Slot.unset).toArray) [] := by rw [hv, lg_entry_eq]
  rw [he]
  exact hk
theorem xHead {g : JFrame} {R' : Room} (hR : R = R') (k : ∀ (Q' : State → Prop) (H' : Heap), Q' = Q → H' = H → W p l e R' s m args below meth c H' locs cells slots Q' g) : W p l e R s m args below meth c H locs cells slots Q g := by
  subst hR
  exact k Q H rfl rfl
variable {pc : Nat} {ls : Array Slot} {rest st0 : List Value} {a : Array Value} {A : Nat → Prop} {H0 : Heap} {D : va_G} {tys : List (ClassId × FieldType)} {ws wc w1 wr ws2 : va_W}
theorem xJoin {t : State} {H1 : Heap} (hP : va_P D vwCl ws H) (hD : va_D A ws) (isC isR pm : List Nat) (hC : isC.map (fun i => ws[i]?) = wc.map some) (hR : isR.map (fun i => ws[i]?) = wr.map some) (hn : va_nd isR = true) (hdis : ∀ i ∈ isR, i ∉ isC) (hpm : pm.map (fun i => (wr ++ w1)[i]?) = ws2.map some) (hnp : va_nd pm = true)
    (hFc : ∀ q, va_A wc H.size q → A q) (ht : t.heap = H1) (hB : xB D tys wc w1 H.size t) (hk : ∀ q : Nat, q < H.size → ¬ va_A wc H.size q → H1[q]? = H[q]?) : va_P D vwCl ws2 H1 ∧ va_D A ws2 := by
  obtain ⟨hP1, hK1, hD1⟩ := hB
  rw [ht] at hP1
  obtain ⟨hP2, hD2⟩ := va_join hP hD isC isR hC hR hn hdis hk hFc hP1 hD1
  exact ⟨hP2.sub pm (x_fm hpm), hD2.sub pm hnp hpm⟩
theorem xFi {r : Int32} (hr : va_Run p l e R s m args below meth c H locs cells slots 0 0 (F0 m pc ls st0) rest (xQi D tys wc w1 H.size r a) (va_A wc H.size)) (hS : va_S A H0 H locs) (hA : ∀ q, H0.size ≤ q → A q) (hP : va_P D vwCl ws H) (hD : va_D A ws) (isC isR pm : List Nat) (hC : isC.map (fun i => ws[i]?) = wc.map some) (hR : isR.map (fun i => ws[i]?) = wr.map some) (hn : va_nd isR = true) (hdis : ∀ i ∈ isR, i ∉ isC) (hpm : pm.map (fun i => (wr ++ w1)[i]?) = ws2.map some) (hnp : va_nd pm = true)
    (kk : ∀ (H1 : Heap) (locs1 : List Loc), va_P D vwCl ws2 H1 → va_D A ws2 → va_S A H0 H1 locs1 → W p l e R s m args below meth c H1 locs1 cells slots Q (F0 m (pc + 3) ls (.int r :: rest))) : W p l e R s m args below meth c H locs cells slots Q (F0 m pc ls st0) := by
  have hFc := va_free (wc := wc) hD hS hA isC hC
  unfold xQi at hr
  refine va_calli hr hS (fun q _ h => hFc q h) hFc (fun r' u t H1 locs1 ht hvm hw hB hz1 hk1 hS => ?_)
  subst hw
  obtain ⟨h1, h2⟩ := xJoin hP hD isC isR pm hC hR hn hdis hpm hnp hFc ht hB hk1
  exact kk H1 locs1 h1 h2 hS
theorem xFz {r : Int32} (hr : va_Run p l e R s m args below meth c H locs cells slots 0 0 (F0 m pc ls st0) rest (xQz D tys wc w1 H.size r a) (va_A wc H.size)) (hS : va_S A H0 H locs) (hA : ∀ q, H0.size ≤ q → A q) (hP : va_P D vwCl ws H) (hD : va_D A ws) (isC isR pm : List Nat) (hC : isC.map (fun i => ws[i]?) = wc.map some) (hR : isR.map (fun i => ws[i]?) = wr.map some) (hn : va_nd isR = true) (hdis : ∀ i ∈ isR, i ∉ isC) (hpm : pm.map (fun i => (wr ++ w1)[i]?) = ws2.map some) (hnp : va_nd pm = true)
    (kk : ∀ (H1 : Heap) (locs1 : List Loc), narrow .boolean (.int r) = .int r → va_P D vwCl ws2 H1 → va_D A ws2 → va_S A H0 H1 locs1 → W p l e R s m args below meth c H1 locs1 cells slots Q (F0 m (pc + 3) ls (.int r :: rest))) : W p l e R s m args below meth c H locs cells slots Q (F0 m pc ls st0) := by
  have hFc := va_free (wc := wc) hD hS hA isC hC
  unfold xQz at hr
  refine va_calli hr hS (fun q _ h => hFc q h) hFc (fun r' u t H1 locs1 ht hvm hw hB hz1 hk1 hS => ?_)
  obtain ⟨hw, hz⟩ := hw
  subst hw
  obtain ⟨h1, h2⟩ := xJoin hP hD isC isR pm hC hR hn hdis hpm hnp hFc ht hB hk1
  exact kk H1 locs1 hz h1 h2 hS
theorem xFl {r : Int64} (hr : va_Run p l e R s m args below meth c H locs cells slots 0 0 (F0 m pc ls st0) rest (xQl D tys wc w1 H.size r a) (va_A wc H.size)) (hS : va_S A H0 H locs) (hA : ∀ q, H0.size ≤ q → A q) (hP : va_P D vwCl ws H) (hD : va_D A ws) (isC isR pm : List Nat) (hC : isC.map (fun i => ws[i]?) = wc.map some) (hR : isR.map (fun i => ws[i]?) = wr.map some) (hn : va_nd isR = true) (hdis : ∀ i ∈ isR, i ∉ isC) (hpm : pm.map (fun i => (wr ++ w1)[i]?) = ws2.map some) (hnp : va_nd pm = true)
    (kk : ∀ (H1 : Heap) (locs1 : List Loc), va_P D vwCl ws2 H1 → va_D A ws2 → va_S A H0 H1 locs1 → W p l e R s m args below meth c H1 locs1 cells slots Q (F0 m (pc + 3) ls (.long r :: rest))) : W p l e R s m args below meth c H locs cells slots Q (F0 m pc ls st0) := by
  have hFc := va_free (wc := wc) hD hS hA isC hC
  unfold xQl at hr
  refine va_calll hr hS (fun q _ h => hFc q h) hFc (fun r' u t H1 locs1 ht hvm hw hB hz1 hk1 hS => ?_)
  subst hw
  obtain ⟨h1, h2⟩ := xJoin hP hD isC isR pm hC hR hn hdis hpm hnp hFc ht hB hk1
  exact kk H1 locs1 h1 h2 hS
theorem xFv (hr : va_Run p l e R s m args below meth c H locs cells slots 0 0 (F0 m pc ls st0) rest (xQv D tys wc w1 H.size a) (va_A wc H.size)) (hS : va_S A H0 H locs) (hA : ∀ q, H0.size ≤ q → A q) (hP : va_P D vwCl ws H) (hD : va_D A ws) (isC isR pm : List Nat) (hC : isC.map (fun i => ws[i]?) = wc.map some) (hR : isR.map (fun i => ws[i]?) = wr.map some) (hn : va_nd isR = true) (hdis : ∀ i ∈ isR, i ∉ isC) (hpm : pm.map (fun i => (wr ++ w1)[i]?) = ws2.map some) (hnp : va_nd pm = true)
    (kk : ∀ (H1 : Heap) (locs1 : List Loc), va_P D vwCl ws2 H1 → va_D A ws2 → va_S A H0 H1 locs1 → W p l e R s m args below meth c H1 locs1 cells slots Q (F0 m (pc + 3) ls rest)) : W p l e R s m args below meth c H locs cells slots Q (F0 m pc ls st0) := by
  have hFc := va_free (wc := wc) hD hS hA isC hC
  unfold xQv at hr
  refine va_callv hr hS (fun q _ h => hFc q h) hFc (fun u t H1 locs1 ht hvm hw hB hz1 hk1 hS => ?_)
  obtain ⟨h1, h2⟩ := xJoin hP hD isC isR pm hC hR hn hdis hpm hnp hFc ht hB hk1
  exact kk H1 locs1 h1 h2 hS
theorem xFr {r : Nat} (hr : va_Run p l e R s m args below meth c H locs cells slots 0 0 (F0 m pc ls st0) rest (xQr D tys wc w1 H.size r a) (va_A wc H.size)) (hS : va_S A H0 H locs) (hA : ∀ q, H0.size ≤ q → A q) (hP : va_P D vwCl ws H) (hD : va_D A ws) (isC isR pm : List Nat) (hC : isC.map (fun i => ws[i]?) = wc.map some) (hR : isR.map (fun i => ws[i]?) = wr.map some) (hn : va_nd isR = true) (hdis : ∀ i ∈ isR, i ∉ isC) (hpm : pm.map (fun i => (wr ++ w1)[i]?) = ws2.map some) (hnp : va_nd pm = true)
    (kk : ∀ (H1 : Heap) (locs1 : List Loc), va_P D vwCl ws2 H1 → va_D A ws2 → va_S A H0 H1 locs1 → W p l e R s m args below meth c H1 locs1 cells slots Q (F0 m (pc + 3) ls (.ref r :: rest))) : W p l e R s m args below meth c H locs cells slots Q (F0 m pc ls st0) := by
  have hFc := va_free (wc := wc) hD hS hA isC hC
  unfold xQr at hr
  refine va_callr hr hS (fun q _ h => hFc q h) hFc (fun u r' t H1 locs1 ht hvm hw hB hz1 hk1 hS => ?_)
  obtain ⟨hw, hB⟩ := hB
  subst hw
  obtain ⟨h1, h2⟩ := xJoin hP hD isC isR pm hC hR hn hdis hpm hnp hFc ht hB hk1
  exact kk H1 locs1 h1 h2 hS
theorem xBlind {sz : Nat} {as : List Value} : FrameBlind (xPre D tys wc sz as) := fun a U g mk q => by
  obtain ⟨q0, q1, qP, qK, qD, qN⟩ := q
  exact ⟨q0, q1, qP, va_K.moved (u := U) (U := U.calling g mk a) (Vm.Alike.refl U.vm) qK, qD, xNest.same (s := U) (U := U.calling g mk a) rfl qN⟩
theorem xPV {C : String} {T : u_T} {N : Nat} {b : Nat} {As : List Value} {ci : Nat} {fs : List Value} (hPc : va_P D vwCl wc H) (hDc : va_D A wc) (hK : va_K D vwCl tys s) (hN : xNest s) (q0 : Nat) (he : wc[q0]? = some (b, .inr (ci, fs))) (hcl : vwCl[ci]? = some (C, T, N)) : PreV s H C b (xPre D tys wc H.size (.ref b :: As)) As :=
  ⟨xBlind, va_recv hK hPc hcl he, fun U hU hW => ⟨rfl, by rw [hU], by rw [hU]; exact hPc, va_K.moved hW.alike hK, hDc.weaken (fun _ _ _ _ => trivial), hN.warm hW⟩⟩
theorem xPS {As : List Value} (hPc : va_P D vwCl wc H) (hDc : va_D A wc) (hK : va_K D vwCl tys s) (hN : xNest s) : PreS s H (xPre D tys wc H.size As) As :=
  ⟨xBlind, fun U hU hW => ⟨rfl, by rw [hU], by rw [hU]; exact hPc, va_K.moved hW.alike hK, hDc.weaken (fun _ _ _ _ => trivial), hN.warm hW⟩⟩
theorem xE.moved {aP aD : Nat} {u U : State} (hvm : u.vm.Alike U.vm) (h : xE aP aD A u H) : xE aP aD A U H := ⟨h.1.moved hvm, h.2.1.moved hvm, h.2.2.1, h.2.2.2.1, h.2.2.2.2.1.moved hvm, h.2.2.2.2.2.1.moved hvm, h.2.2.2.2.2.2.1, h.2.2.2.2.2.2.2⟩
theorem xE.at {aP aD : Nat} {B : Nat → Prop} (h : xE aP aD A s H0) (hS : va_S A H0 H locs) (hF : ∀ q, B q → A q) : xE aP aD B s H := by
  obtain ⟨h1, h2, h3, h4, h5, h6, h7, h8⟩ := h
  exact ⟨(h1.kept hS.2.1).narrow hF, h2.kept (hS.2.1 _ h3 h4), Nat.lt_of_lt_of_le h3 hS.1, fun q => h4 (hF _ q), (h5.kept hS.2.1).narrow hF, h6.kept (hS.2.1 _ h7 h8), Nat.lt_of_lt_of_le h7 hS.1, fun q => h8 (hF _ q)⟩
theorem xBlindE {aP aD sz : Nat} {as : List Value} : FrameBlind (xPreE aP aD D tys wc sz as) := fun a U g mk q => by
  obtain ⟨q0, q1, qP, qK, qD, qN, qE⟩ := q
  exact ⟨q0, q1, qP, va_K.moved (u := U) (U := U.calling g mk a) (Vm.Alike.refl U.vm) qK, qD, xNest.same (s := U) (U := U.calling g mk a) rfl qN, xE.moved (u := U) (U := U.calling g mk a) (Vm.Alike.refl U.vm) qE⟩
theorem xPVE {aP aD : Nat} {C : String} {T : u_T} {N : Nat} {b : Nat} {As : List Value} {ci : Nat} {fs : List Value} (hPc : va_P D vwCl wc H) (hDc : va_D A wc) (hK : va_K D vwCl tys s) (hN : xNest s) (hE : xE aP aD A s H0) (hS : va_S A H0 H locs) (hF : ∀ q, va_A wc H.size q → A q) (q0 : Nat) (he : wc[q0]? = some (b, .inr (ci, fs))) (hcl : vwCl[ci]? = some (C, T, N)) : PreV s H C b (xPreE aP aD D tys wc H.size (.ref b :: As)) As :=
  ⟨xBlindE, va_recv hK hPc hcl he, fun U hU hW => ⟨rfl, by rw [hU], by rw [hU]; exact hPc, va_K.moved hW.alike hK, hDc.weaken (fun _ _ _ _ => trivial), hN.warm hW, by rw [hU]; exact (hE.at hS hF).moved hW.alike⟩⟩
theorem xPSE {aP aD : Nat} {As : List Value} (hPc : va_P D vwCl wc H) (hDc : va_D A wc) (hK : va_K D vwCl tys s) (hN : xNest s) (hE : xE aP aD A s H0) (hS : va_S A H0 H locs) (hF : ∀ q, va_A wc H.size q → A q) : PreS s H (xPreE aP aD D tys wc H.size As) As :=
  ⟨xBlindE, fun U hU hW => ⟨rfl, by rw [hU], by rw [hU]; exact hPc, va_K.moved hW.alike hK, hDc.weaken (fun _ _ _ _ => trivial), hN.warm hW, by rw [hU]; exact (hE.at hS hF).moved hW.alike⟩⟩
theorem xP0 : va_P D vwCl [] H := fun k q h => by simp at h
theorem xD0 (A : Nat → Prop) : va_D A [] := ⟨fun i j p q h => by simp at h, fun k q h => by simp at h⟩
-- constructors: an array that is made is of the class that the tables name
theorem xTy {cI cJ cZ cA : ClassId} {ty : FieldType} (k : Nat) {c0 : ClassId} (hk : k < 3) (h0 : (kT cI cJ cZ)[k]? = some (c0, ty)) (hty : ∀ C : String, ty ≠ .object C) (hK : va_K D vwCl (kT cI cJ cZ ++ [(cA, ty)]) s) : cA = c0 := by
  have h1 := (hK.2 k (c0, ty) (by rw [List.getElem?_append_left (show k < (kT cI cJ cZ).length from hk)]; exact h0)).2
  have h2 := (hK.2 3 (cA, ty) rfl).2
  cases ty with
  | object C => exact absurd rfl (hty C)
  | _ => exact Option.some.inj (h2.symm.trans h1)
theorem xNewI {cI cJ cZ : ClassId} {cc : ByteArray} (hexec : p.tables.exec = Jvm.exec) (hb : c.code = cc) (harr : (Cond.arrayClass .int).before args s = true) (hK : va_K D vwCl (kT cI cJ cZ) s) (hP : va_P D vwCl ws H) (hD : va_D A ws) (hS : va_S A H0 H locs) (hA : ∀ q, H0.size ≤ q → A q)
    {n : Int32} {N' : Nat} (hn : ¬ n < 0) (hN : n.toNatClampNeg = N') (hcells : cells + 1 ≤ R.cells) (hslots : slots + N' ≤ R.slots) (hdg : decode cc pc = .ok (.newarray .int, 2)) (hbig : N' ≤ 5000 := by decide)
    (kk : ∀ (q : Nat) (H1 : Heap), va_P D vwCl (ws ++ wA cI q N' (fun _ => 0)) H1 → va_D A (ws ++ wA cI q N' (fun _ => 0)) → va_S A H0 H1 locs → W p l e R s m args below meth c H1 locs (cells + 1) (slots + N') Q (F0 m (pc + 2) ls (.ref q :: rest))) : W p l e R s m args below meth c H locs cells slots Q (F0 m pc ls (.int n :: rest)) :=
  va_newa (atype := .int) (ty := .int) (a0 := (N', .inl (fun _ => 0))) hexec hb harr rfl hK hP hD hS hA (fun _ => rfl) hn hN (by show N' * 4 ≤ _; omega) hcells hslots hdg (fun q cA H1 hK1 hP1 hD1 hS1 => by
    have e := xTy 0 (by decide) rfl (fun C h => by cases h) hK1
    subst e
    exact kk q H1 hP1 hD1 hS1)
def wAJ (cJ : ClassId) (a n : Nat) (f : Nat → Int64) : va_W := [(a, .inl (cJ, n, .inr (.inl f)))]
def wAZ (cZ : ClassId) (a n : Nat) (f : Nat → Int32) : va_W := [(a, .inl (cZ, n, .inl f))]
theorem xNewJ {cI cJ cZ : ClassId} {cc : ByteArray} (hexec : p.tables.exec = Jvm.exec) (hb : c.code = cc) (harr : (Cond.arrayClass .long).before args s = true) (hK : va_K D vwCl (kT cI cJ cZ) s) (hP : va_P D vwCl ws H) (hD : va_D A ws) (hS : va_S A H0 H locs) (hA : ∀ q, H0.size ≤ q → A q)
    {n : Int32} {N' : Nat} (hn : ¬ n < 0) (hN : n.toNatClampNeg = N') (hcells : cells + 1 ≤ R.cells) (hslots : slots + N' ≤ R.slots) (hdg : decode cc pc = .ok (.newarray .long, 2)) (hbig : N' ≤ 5000 := by decide)
    (kk : ∀ (q : Nat) (H1 : Heap), va_P D vwCl (ws ++ wAJ cJ q N' (fun _ => 0)) H1 → va_D A (ws ++ wAJ cJ q N' (fun _ => 0)) → va_S A H0 H1 locs → W p l e R s m args below meth c H1 locs (cells + 1) (slots + N') Q (F0 m (pc + 2) ls (.ref q :: rest))) : W p l e R s m args below meth c H locs cells slots Q (F0 m pc ls (.int n :: rest)) :=
  va_newa (atype := .long) (ty := .long) (a0 := (N', .inr (.inl (fun _ => 0)))) hexec hb harr rfl hK hP hD hS hA (fun _ => rfl) hn hN (by show N' * 8 ≤ _; omega) hcells hslots hdg (fun q cA H1 hK1 hP1 hD1 hS1 => by
    have e := xTy 1 (by decide) rfl (fun C h => by cases h) hK1
    subst e
    exact kk q H1 hP1 hD1 hS1)
theorem xNewZ {cI cJ cZ : ClassId} {cc : ByteArray} (hexec : p.tables.exec = Jvm.exec) (hb : c.code = cc) (harr : (Cond.arrayClass .boolean).before args s = true) (hK : va_K D vwCl (kT cI cJ cZ) s) (hP : va_P D vwCl ws H) (hD : va_D A ws) (hS : va_S A H0 H locs) (hA : ∀ q, H0.size ≤ q → A q)
    {n : Int32} {N' : Nat} (hn : ¬ n < 0) (hN : n.toNatClampNeg = N') (hcells : cells + 1 ≤ R.cells) (hslots : slots + N' ≤ R.slots) (hdg : decode cc pc = .ok (.newarray .boolean, 2)) (hbig : N' ≤ 5000 := by decide)
    (kk : ∀ (q : Nat) (H1 : Heap), va_P D vwCl (ws ++ wAZ cZ q N' (fun _ => 0)) H1 → va_D A (ws ++ wAZ cZ q N' (fun _ => 0)) → va_S A H0 H1 locs → W p l e R s m args below meth c H1 locs (cells + 1) (slots + N') Q (F0 m (pc + 2) ls (.ref q :: rest))) : W p l e R s m args below meth c H locs cells slots Q (F0 m pc ls (.int n :: rest)) :=
  va_newa (atype := .boolean) (ty := .boolean) (a0 := (N', .inl (fun _ => 0))) hexec hb harr rfl hK hP hD hS hA (fun _ => rfl) hn hN (by show N' * 1 ≤ _; omega) hcells hslots hdg (fun q cA H1 hK1 hP1 hD1 hS1 => by
    have e := xTy 2 (by decide) rfl (fun C h => by cases h) hK1
    subst e
    exact kk q H1 hP1 hD1 hS1)
def xQvI {S : Type} (D : va_G) (tys : List (ClassId × FieldType)) (wc : va_W) (w1 : S → va_W) (sz : Nat) (post : S → Prop) : Array Value → State → Outcome → State → Prop := va_Qv post (fun u t => xB D tys wc (w1 u) sz t) (va_A wc sz)
theorem xFvI {S : Type} {post : S → Prop} {w1 : S → va_W} {mc ms : Nat} (hr : va_Run p l e R s m args below meth c H locs cells slots mc ms (F0 m pc ls st0) rest (xQvI D tys wc w1 H.size post a) (va_A wc H.size)) (hS : va_S A H0 H locs) (hA : ∀ q, H0.size ≤ q → A q) (hP : va_P D vwCl ws H) (hD : va_D A ws) (isC isR : List Nat) (hC : isC.map (fun i => ws[i]?) = wc.map some) (hR : isR.map (fun i => ws[i]?) = wr.map some) (hn : va_nd isR = true) (hdis : ∀ i ∈ isR, i ∉ isC)
    (kk : ∀ (u : S) (H1 : Heap) (locs1 : List Loc), post u → va_P D vwCl (wr ++ w1 u) H1 → va_D A (wr ++ w1 u) → va_S A H0 H1 locs1 → W p l e R s m args below meth c H1 locs1 (cells + mc) (slots + ms) Q (F0 m (pc + 3) ls rest)) : W p l e R s m args below meth c H locs cells slots Q (F0 m pc ls st0) := by
  have hFc := va_free (wc := wc) hD hS hA isC hC
  unfold xQvI at hr
  refine va_callv hr hS (fun q _ h => hFc q h) hFc (fun u t H1 locs1 ht hvm hw hB hz1 hk1 hS => ?_)
  obtain ⟨hP1, hK1, hD1⟩ := hB
  rw [ht] at hP1
  obtain ⟨hP2, hD2⟩ := va_join hP hD isC isR hC hR hn hdis hk1 hFc hP1 hD1
  exact kk u H1 locs1 hw hP2 hD2 hS
theorem xRvI {S : Type} (u : S) {post : S → Prop} {w1 : S → va_W} {sz : Nat} {cc : ByteArray} (hx : p.tables.exec = Jvm.exec) (hb : c.code = cc) (hr : meth.sig.returnType = none) (hlocks : meth.locks = false) (hQ : Q = MQ below (xQvI D tys wc w1 sz post) args s cells slots (va_A wc sz)) (hAe : A = va_A wc sz) (hp : post u) (hP : va_P D vwCl (w1 u) H) (hD : va_D A (w1 u)) (hK : va_K D vwCl tys s) (hS : va_S A s.heap H locs) (hdg : decode cc pc = .ok (.return_, 1)) : W p l e R s m args below meth c H locs cells slots Q (F0 m pc ls []) := by
  subst hQ; subst hAe
  exact W.vret hx hb hr (fun t ht hW => ⟨⟨u, rfl, hp, by rw [ht]; exact hP, va_K.moved hW.alike hK, hD⟩, hS.F ht⟩) hS.2.2 hdg
-- the ends
theorem xRi {sz : Nat} {cc : ByteArray} {v r : Int32} (hx : p.tables.exec = Jvm.exec) (hb : c.code = cc) (hr : meth.sig.returnType = some .int) (hlocks : meth.locks = false) (hQ : Q = MQ below (xQi D tys wc w1 sz r) args s cells slots (va_A wc sz)) (hAe : A = va_A wc sz) (hP : va_P D vwCl w1 H) (hD : va_D A w1) (hK : va_K D vwCl tys s) (hS : va_S A s.heap H locs) (hv : v = r) (hdg : decode cc pc = .ok (.ireturn, 1)) : W p l e R s m args below meth c H locs cells slots Q (F0 m pc ls [.int v]) := by
  subst hQ; subst hAe; subst hv
  exact W.iret hx hb hr (fun t ht hW => ⟨⟨v, (), rfl, rfl, by rw [ht]; exact hP, va_K.moved hW.alike hK, hD⟩, hS.F ht⟩) hS.2.2 hdg
theorem xRz {sz : Nat} {cc : ByteArray} {v r : Int32} (hx : p.tables.exec = Jvm.exec) (hb : c.code = cc) (hr : meth.sig.returnType = some .boolean) (hlocks : meth.locks = false) (hQ : Q = MQ below (xQz D tys wc w1 sz r) args s cells slots (va_A wc sz)) (hAe : A = va_A wc sz) (hP : va_P D vwCl w1 H) (hD : va_D A w1) (hK : va_K D vwCl tys s) (hS : va_S A s.heap H locs) (hv : v = r) (hz : narrow .boolean (.int v) = .int v) (hdg : decode cc pc = .ok (.ireturn, 1)) : W p l e R s m args below meth c H locs cells slots Q (F0 m pc ls [.int v]) := by
  subst hQ; subst hAe; subst hv
  exact W.zret hx hb hr hz (fun t ht hW => ⟨⟨v, (), rfl, ⟨rfl, hz⟩, by rw [ht]; exact hP, va_K.moved hW.alike hK, hD⟩, hS.F ht⟩) hS.2.2 hdg
theorem xRl {sz : Nat} {cc : ByteArray} {v r : Int64} (hx : p.tables.exec = Jvm.exec) (hb : c.code = cc) (hr : meth.sig.returnType = some .long) (hlocks : meth.locks = false) (hQ : Q = MQ below (xQl D tys wc w1 sz r) args s cells slots (va_A wc sz)) (hAe : A = va_A wc sz) (hP : va_P D vwCl w1 H) (hD : va_D A w1) (hK : va_K D vwCl tys s) (hS : va_S A s.heap H locs) (hv : v = r) (hdg : decode cc pc = .ok (.lreturn, 1)) : W p l e R s m args below meth c H locs cells slots Q (F0 m pc ls [.long v]) := by
  subst hQ; subst hAe; subst hv
  exact W.lret hx hb hr (fun t ht hW => ⟨⟨v, (), rfl, rfl, by rw [ht]; exact hP, va_K.moved hW.alike hK, hD⟩, hS.F ht⟩) hS.2.2 hdg
theorem xRv {sz : Nat} {cc : ByteArray} (hx : p.tables.exec = Jvm.exec) (hb : c.code = cc) (hr : meth.sig.returnType = none) (hlocks : meth.locks = false) (hQ : Q = MQ below (xQv D tys wc w1 sz) args s cells slots (va_A wc sz)) (hAe : A = va_A wc sz) (hP : va_P D vwCl w1 H) (hD : va_D A w1) (hK : va_K D vwCl tys s) (hS : va_S A s.heap H locs) (hdg : decode cc pc = .ok (.return_, 1)) : W p l e R s m args below meth c H locs cells slots Q (F0 m pc ls []) := by
  subst hQ; subst hAe
  exact W.vret hx hb hr (fun t ht hW => ⟨⟨(), rfl, trivial, by rw [ht]; exact hP, va_K.moved hW.alike hK, hD⟩, hS.F ht⟩) hS.2.2 hdg
theorem xRr {sz : Nat} {cc : ByteArray} {v r : Nat} {rt : FieldType} (hx : p.tables.exec = Jvm.exec) (hb : c.code = cc) (hr : meth.sig.returnType = some rt) (hlocks : meth.locks = false) (hrt : ∃ n' : String, rt = .object n') (hQ : Q = MQ below (xQr D tys wc w1 sz r) args s cells slots (va_A wc sz)) (hAe : A = va_A wc sz) (hP : va_P D vwCl w1 H) (hD : va_D A w1) (hK : va_K D vwCl tys s) (hS : va_S A s.heap H locs) (hv : v = r) (hdg : decode cc pc = .ok (.areturn, 1)) : W p l e R s m args below meth c H locs cells slots Q (F0 m pc ls [.ref v]) := by
  subst hQ; subst hAe; subst hv
  exact W.aret hx hb hr (Or.inl hrt) (Or.inr ⟨v, rfl⟩) (fun t ht hW => ⟨⟨(), v, rfl, trivial, rfl, by rw [ht]; exact hP, va_K.moved hW.alike hK, hD⟩, hS.F ht⟩) hS.2.2 hdg
end XW
end
section
theorem dAt {b : ByteArray} {t : List (Nat × Instr × Nat)} (h : t.all (fun x => decide (decode b x.1 = .ok x.2)) = true) (k : Nat) {pc : Nat} {i : Instr} {len : Nat} (hk : t[k]? = some (pc, i, len)) : decode b pc = .ok (i, len) := by
  have h1 := List.all_eq_true.mp h (pc, i, len) (List.mem_of_getElem? hk)
  exact of_decide_eq_true h1
def tX0_init_0 : List (Nat × Instr × Nat) := [(0, .aload_n 0, 1), (1, .invokespecial 3, 3), (4, .aload_n 0, 1), (5, .bipush 11, 2), (7, .newarray .long, 2), (9, .putfield 9, 3), (12, .aload_n 0, 1), (13, .lconst 0, 1), (14, .putfield 15, 3), (17, .aload_n 0, 1), (18, .lconst 0, 1), (19, .putfield 19, 3), (22, .aload_n 0, 1), (23, .lconst 1, 1), (24, .putfield 22, 3), (27, .return_, 1)]
set_option maxRecDepth 20000 in
theorem zX0_init_0 : tX0_init_0.all (fun x => decide (decode cX0_init x.1 = .ok x.2)) = true := by decide +kernel
def tX0_ringAll_0 : List (Nat × Instr × Nat) := [(0, .aload_n 0, 1), (1, .invokevirtual 25, 3), (4, .aload_n 0, 1), (5, .lconst 1, 1), (6, .putfield 22, 3), (9, .aload_n 0, 1), (10, .lconst 0, 1), (11, .putfield 19, 3), (14, .iconst 0, 1), (15, .istore 4, 2), (17, .iload 4, 2), (19, .iload_n 1, 1), (20, .if_icmp .ge 44, 3), (23, .aload_n 0, 1), (24, .aload_n 0, 1), (25, .getfield 19, 3), (28, .aload_n 0, 1), (29, .iload_n 3, 1), (30, .invokevirtual 28, 3), (33, .ladd, 1), (34, .ldc2_w 32, 3), (37, .lmul, 1), (38, .putfield 19, 3), (41, .aload_n 0, 1), (42, .iload_n 2, 1), (43, .invokevirtual 34, 3), (46, .aload_n 0, 1), (47, .dup, 1), (48, .getfield 22, 3), (51, .ldc2_w 32, 3), (54, .lmul, 1), (55, .putfield 22, 3), (58, .iinc 4 1, 3), (61, .goto (-44), 3), (64, .aload_n 0, 1), (65, .aload_n 0, 1), (66, .getfield 22, 3), (69, .aload_n 0, 1), (70, .iload_n 3, 1), (71, .invokevirtual 28, 3), (74, .lsub, 1), (75, .putfield 15, 3), (78, .return_, 1)]
set_option maxRecDepth 20000 in
theorem zX0_ringAll_0 : tX0_ringAll_0.all (fun x => decide (decode cX0_ringAll x.1 = .ok x.2)) = true := by decide +kernel
def tX0_startChances_0 : List (Nat × Instr × Nat) := [(0, .iconst 0, 1), (1, .istore_n 1, 1), (2, .iload_n 1, 1), (3, .aload_n 0, 1), (4, .getfield 9, 3), (7, .arraylength, 1), (8, .if_icmp .ge 24, 3), (11, .aload_n 0, 1), (12, .getfield 9, 3), (15, .iload_n 1, 1), (16, .iload_n 1, 1), (17, .ifCond .ne 7, 3), (20, .lconst 1, 1), (21, .goto 4, 3), (24, .lconst 0, 1), (25, .lastore, 1), (26, .iinc 1 1, 3), (29, .goto (-27), 3), (32, .return_, 1)]
set_option maxRecDepth 20000 in
theorem zX0_startChances_0 : tX0_startChances_0.all (fun x => decide (decode cX0_startChances x.1 = .ok x.2)) = true := by decide +kernel
def tX0_ringOne_0 : List (Nat × Instr × Nat) := [(0, .lconst 0, 1), (1, .lstore_n 2, 1), (2, .iconst 0, 1), (3, .istore 4, 2), (5, .iload 4, 2), (7, .aload_n 0, 1), (8, .getfield 9, 3), (11, .arraylength, 1), (12, .if_icmp .ge 41, 3), (15, .aload_n 0, 1), (16, .getfield 9, 3), (19, .iload 4, 2), (21, .laload, 1), (22, .lstore 5, 2), (24, .aload_n 0, 1), (25, .getfield 9, 3), (28, .iload 4, 2), (30, .lload 5, 2), (32, .bipush 10, 2), (34, .iload_n 1, 1), (35, .isub, 1), (36, .i2l, 1), (37, .lmul, 1), (38, .lload_n 2, 1), (39, .iload_n 1, 1), (40, .i2l, 1), (41, .lmul, 1), (42, .ladd, 1), (43, .lastore, 1), (44, .lload 5, 2), (46, .lstore_n 2, 1), (47, .iinc 4 1, 3), (50, .goto (-45), 3), (53, .return_, 1)]
set_option maxRecDepth 20000 in
theorem zX0_ringOne_0 : tX0_ringOne_0.all (fun x => decide (decode cX0_ringOne x.1 = .ok x.2)) = true := by decide +kernel
def tX0_tooFew_0 : List (Nat × Instr × Nat) := [(0, .lconst 0, 1), (1, .lstore_n 2, 1), (2, .iconst 0, 1), (3, .istore 4, 2), (5, .iload 4, 2), (7, .iload_n 1, 1), (8, .if_icmp .ge 29, 3), (11, .iload 4, 2), (13, .aload_n 0, 1), (14, .getfield 9, 3), (17, .arraylength, 1), (18, .if_icmp .ge 19, 3), (21, .lload_n 2, 1), (22, .aload_n 0, 1), (23, .getfield 9, 3), (26, .iload 4, 2), (28, .laload, 1), (29, .ladd, 1), (30, .lstore_n 2, 1), (31, .iinc 4 1, 3), (34, .goto (-29), 3), (37, .lload_n 2, 1), (38, .lreturn, 1)]
set_option maxRecDepth 20000 in
theorem zX0_tooFew_0 : tX0_tooFew_0.all (fun x => decide (decode cX0_tooFew x.1 = .ok x.2)) = true := by decide +kernel
def tX1_init_0 : List (Nat × Instr × Nat) := [(0, .aload_n 0, 1), (1, .invokespecial 3, 3), (4, .aload_n 0, 1), (5, .new 9, 3), (8, .dup, 1), (9, .invokespecial 11, 3), (12, .putfield 12, 3), (15, .aload_n 0, 1), (16, .iconst 0, 1), (17, .putfield 18, 3), (20, .aload_n 0, 1), (21, .iconst 0, 1), (22, .putfield 22, 3), (25, .aload_n 0, 1), (26, .iconst 0, 1), (27, .putfield 25, 3), (30, .aload_n 0, 1), (31, .iconst 0, 1), (32, .putfield 28, 3), (35, .aload_n 0, 1), (36, .bipush (-6), 2), (38, .putfield 31, 3), (41, .aload_n 0, 1), (42, .bipush (-6), 2), (44, .putfield 34, 3), (47, .return_, 1)]
set_option maxRecDepth 20000 in
theorem zX1_init_0 : tX1_init_0.all (fun x => decide (decode cX1_init x.1 = .ok x.2)) = true := by decide +kernel
def tX1_startFrom_0 : List (Nat × Instr × Nat) := [(0, .aload_n 0, 1), (1, .getfield 12, 3), (4, .aload_n 1, 1), (5, .invokevirtual 37, 3), (8, .aload_n 0, 1), (9, .iconst 0, 1), (10, .putfield 18, 3), (13, .aload_n 0, 1), (14, .iconst 0, 1), (15, .putfield 22, 3), (18, .aload_n 0, 1), (19, .iconst 0, 1), (20, .putfield 25, 3), (23, .aload_n 0, 1), (24, .iconst 0, 1), (25, .putfield 28, 3), (28, .aload_n 0, 1), (29, .bipush (-6), 2), (31, .putfield 31, 3), (34, .aload_n 0, 1), (35, .bipush (-6), 2), (37, .putfield 34, 3), (40, .return_, 1)]
set_option maxRecDepth 20000 in
theorem zX1_startFrom_0 : tX1_startFrom_0.all (fun x => decide (decode cX1_startFrom x.1 = .ok x.2)) = true := by decide +kernel
def tX1_play_0 : List (Nat × Instr × Nat) := [(0, .aload_n 1, 1), (1, .invokevirtual 41, 3), (4, .bipush (-6), 2), (6, .if_icmp .eq 6, 3), (9, .bipush (-5), 2), (11, .ireturn, 1), (12, .aload_n 0, 1), (13, .aload_n 2, 1), (14, .invokevirtual 47, 3), (17, .iconst 0, 1), (18, .istore_n 3, 1), (19, .iconst 0, 1), (20, .istore 4, 2), (22, .iload 4, 2), (24, .bipush 60, 2), (26, .if_icmp .ge 70, 3), (29, .iload_n 3, 1), (30, .aload_n 1, 1), (31, .getfield 50, 3), (34, .if_icmp .ge 62, 3), (37, .aload_n 1, 1), (38, .iload_n 3, 1), (39, .invokevirtual 53, 3), (42, .istore 5, 2), (44, .aload_n 0, 1), (45, .aload_n 0, 1), (46, .iload 5, 2), (48, .aload_n 1, 1), (49, .iload_n 3, 1), (50, .invokevirtual 57, 3), (53, .bipush 65, 2), (55, .isub, 1), (56, .aload_n 1, 1), (57, .iload_n 3, 1), (58, .iconst 2, 1), (59, .iadd, 1), (60, .invokevirtual 57, 3), (63, .bipush 65, 2), (65, .isub, 1), (66, .invokevirtual 60, 3), (69, .putfield 22, 3), (72, .aload_n 0, 1), (73, .getfield 22, 3), (76, .ifCond .eq 6, 3), (79, .bipush (-3), 2), (81, .ireturn, 1), (82, .iload_n 3, 1), (83, .iload 5, 2), (85, .invokestatic 64, 3), (88, .iadd, 1), (89, .istore_n 3, 1), (90, .iinc 4 1, 3), (93, .goto (-71), 3), (96, .iconst 0, 1), (97, .ireturn, 1)]
set_option maxRecDepth 20000 in
theorem zX1_play_0 : tX1_play_0.all (fun x => decide (decode cX1_play x.1 = .ok x.2)) = true := by decide +kernel
def tX1_attempt_0 : List (Nat × Instr × Nat) := [(0, .aload_n 0, 1), (1, .getfield 12, 3), (4, .iload_n 1, 1), (5, .iload_n 2, 1), (6, .iload_n 3, 1), (7, .invokevirtual 67, 3), (10, .istore 4, 2), (12, .iload 4, 2), (14, .ifCond .eq 6, 3), (17, .iload 4, 2), (19, .ireturn, 1), (20, .iload_n 1, 1), (21, .bipush 46, 2), (23, .if_icmp .ne 10, 3), (26, .aload_n 0, 1), (27, .invokevirtual 70, 3), (30, .goto 13, 3), (33, .aload_n 0, 1), (34, .getfield 12, 3), (37, .iload_n 1, 1), (38, .iload_n 2, 1), (39, .iload_n 3, 1), (40, .invokevirtual 73, 3), (43, .aload_n 0, 1), (44, .dup, 1), (45, .getfield 18, 3), (48, .iconst 1, 1), (49, .iadd, 1), (50, .putfield 18, 3), (53, .iconst 0, 1), (54, .ireturn, 1)]
set_option maxRecDepth 20000 in
theorem zX1_attempt_0 : tX1_attempt_0.all (fun x => decide (decode cX1_attempt x.1 = .ok x.2)) = true := by decide +kernel
def tX1_runTrain_0 : List (Nat × Instr × Nat) := [(0, .aload_n 0, 1), (1, .getfield 12, 3), (4, .getfield 77, 3), (7, .aload_n 0, 1), (8, .getfield 12, 3), (11, .invokevirtual 80, 3), (14, .iconst (-1), 1), (15, .ixor, 1), (16, .iand, 1), (17, .istore_n 1, 1), (18, .aload_n 0, 1), (19, .getfield 12, 3), (22, .iload_n 1, 1), (23, .invokevirtual 83, 3), (26, .iload_n 1, 1), (27, .ifCond .ne 4, 3), (30, .return_, 1), (31, .aload_n 0, 1), (32, .dup, 1), (33, .getfield 25, 3), (36, .iload_n 1, 1), (37, .invokestatic 87, 3), (40, .iadd, 1), (41, .putfield 25, 3), (44, .aload_n 0, 1), (45, .dup, 1), (46, .getfield 28, 3), (49, .aload_n 0, 1), (50, .getfield 12, 3), (53, .iload_n 1, 1), (54, .aload_n 0, 1), (55, .getfield 12, 3), (58, .getfield 92, 3), (61, .invokevirtual 95, 3), (64, .iadd, 1), (65, .putfield 28, 3), (68, .aload_n 0, 1), (69, .getfield 31, 3), (72, .bipush (-6), 2), (74, .if_icmp .ne 19, 3), (77, .aload_n 0, 1), (78, .aload_n 0, 1), (79, .getfield 18, 3), (82, .putfield 31, 3), (85, .aload_n 0, 1), (86, .iload_n 1, 1), (87, .invokestatic 99, 3), (90, .putfield 34, 3), (93, .return_, 1)]
set_option maxRecDepth 20000 in
theorem zX1_runTrain_0 : tX1_runTrain_0.all (fun x => decide (decode cX1_runTrain x.1 = .ok x.2)) = true := by decide +kernel
def tX2_init_0 : List (Nat × Instr × Nat) := [(0, .aload_n 0, 1), (1, .invokespecial 3, 3), (4, .aload_n 0, 1), (5, .bipush 60, 2), (7, .newarray .int, 2), (9, .putfield 9, 3), (12, .aload_n 0, 1), (13, .iconst 0, 1), (14, .putfield 15, 3), (17, .return_, 1)]
set_option maxRecDepth 20000 in
theorem zX2_init_0 : tX2_init_0.all (fun x => decide (decode cX2_init x.1 = .ok x.2)) = true := by decide +kernel
def tX2_add_0 : List (Nat × Instr × Nat) := [(0, .aload_n 0, 1), (1, .getfield 15, 3), (4, .ifCond .lt 15, 3), (7, .aload_n 0, 1), (8, .getfield 15, 3), (11, .aload_n 0, 1), (12, .getfield 9, 3), (15, .arraylength, 1), (16, .if_icmp .lt 5, 3), (19, .iconst 0, 1), (20, .ireturn, 1), (21, .aload_n 0, 1), (22, .getfield 9, 3), (25, .aload_n 0, 1), (26, .getfield 15, 3), (29, .iload_n 1, 1), (30, .iastore, 1), (31, .aload_n 0, 1), (32, .dup, 1), (33, .getfield 15, 3), (36, .iconst 1, 1), (37, .iadd, 1), (38, .putfield 15, 3), (41, .iconst 1, 1), (42, .ireturn, 1)]
set_option maxRecDepth 20000 in
theorem zX2_add_0 : tX2_add_0.all (fun x => decide (decode cX2_add x.1 = .ok x.2)) = true := by decide +kernel
def tX2_signAt_0 : List (Nat × Instr × Nat) := [(0, .iload_n 1, 1), (1, .ifCond .lt 29, 3), (4, .iload_n 1, 1), (5, .aload_n 0, 1), (6, .getfield 15, 3), (9, .if_icmp .ge 21, 3), (12, .iload_n 1, 1), (13, .aload_n 0, 1), (14, .getfield 9, 3), (17, .arraylength, 1), (18, .if_icmp .ge 12, 3), (21, .aload_n 0, 1), (22, .getfield 9, 3), (25, .iload_n 1, 1), (26, .iaload, 1), (27, .goto 4, 3), (30, .iconst 0, 1), (31, .ireturn, 1)]
set_option maxRecDepth 20000 in
theorem zX2_signAt_0 : tX2_signAt_0.all (fun x => decide (decode cX2_signAt x.1 = .ok x.2)) = true := by decide +kernel
def tX2_firstFault_0 : List (Nat × Instr × Nat) := [(0, .iconst 0, 1), (1, .istore_n 1, 1), (2, .iconst 0, 1), (3, .istore_n 2, 1), (4, .iload_n 2, 1), (5, .aload_n 0, 1), (6, .getfield 15, 3), (9, .if_icmp .ge 26, 3), (12, .iload_n 1, 1), (13, .aload_n 0, 1), (14, .iload_n 2, 1), (15, .invokevirtual 19, 3), (18, .invokestatic 23, 3), (21, .istore_n 1, 1), (22, .iload_n 1, 1), (23, .iconst 3, 1), (24, .if_icmp .ne 5, 3), (27, .iload_n 2, 1), (28, .ireturn, 1), (29, .iinc 2 1, 3), (32, .goto (-28), 3), (35, .iload_n 1, 1), (36, .ifCond .ne 8, 3), (39, .bipush (-6), 2), (41, .goto 7, 3), (44, .aload_n 0, 1), (45, .getfield 15, 3), (48, .ireturn, 1)]
set_option maxRecDepth 20000 in
theorem zX2_firstFault_0 : tX2_firstFault_0.all (fun x => decide (decode cX2_firstFault x.1 = .ok x.2)) = true := by decide +kernel
def tX2_dueAfter_0 : List (Nat × Instr × Nat) := [(0, .iload_n 0, 1), (1, .iconst 1, 1), (2, .if_icmp .ne 30, 3), (5, .iload_n 1, 1), (6, .bipush 100, 2), (8, .if_icmp .eq 9, 3), (11, .iload_n 1, 1), (12, .bipush 62, 2), (14, .if_icmp .ne 5, 3), (17, .iconst 0, 1), (18, .ireturn, 1), (19, .iload_n 1, 1), (20, .invokestatic 27, 3), (23, .ifCond .eq 7, 3), (26, .iconst 2, 1), (27, .goto 4, 3), (30, .iconst 3, 1), (31, .ireturn, 1), (32, .iload_n 0, 1), (33, .ifCond .ne 12, 3), (36, .iload_n 1, 1), (37, .invokestatic 31, 3), (40, .ifCond .eq 5, 3), (43, .iconst 0, 1), (44, .ireturn, 1), (45, .iload_n 1, 1), (46, .invokestatic 34, 3), (49, .ifCond .ne 5, 3), (52, .iconst 3, 1), (53, .ireturn, 1), (54, .iload_n 0, 1), (55, .ifCond .ne 7, 3), (58, .iconst 1, 1), (59, .goto 4, 3), (62, .iconst 0, 1), (63, .ireturn, 1)]
set_option maxRecDepth 20000 in
theorem zX2_dueAfter_0 : tX2_dueAfter_0.all (fun x => decide (decode cX2_dueAfter x.1 = .ok x.2)) = true := by decide +kernel
def tX2_isOfTwo_0 : List (Nat × Instr × Nat) := [(0, .iload_n 0, 1), (1, .bipush 43, 2), (3, .if_icmp .eq 15, 3), (6, .iload_n 0, 1), (7, .bipush 45, 2), (9, .if_icmp .eq 9, 3), (12, .iload_n 0, 1), (13, .bipush 36, 2), (15, .if_icmp .ne 7, 3), (18, .iconst 1, 1), (19, .goto 4, 3), (22, .iconst 0, 1), (23, .ireturn, 1)]
set_option maxRecDepth 20000 in
theorem zX2_isOfTwo_0 : tX2_isOfTwo_0.all (fun x => decide (decode cX2_isOfTwo x.1 = .ok x.2)) = true := by decide +kernel
def tX2_isOfNobody_0 : List (Nat × Instr × Nat) := [(0, .iload_n 0, 1), (1, .bipush 46, 2), (3, .if_icmp .eq 9, 3), (6, .iload_n 0, 1), (7, .bipush 126, 2), (9, .if_icmp .ne 7, 3), (12, .iconst 1, 1), (13, .goto 4, 3), (16, .iconst 0, 1), (17, .ireturn, 1)]
set_option maxRecDepth 20000 in
theorem zX2_isOfNobody_0 : tX2_isOfNobody_0.all (fun x => decide (decode cX2_isOfNobody x.1 = .ok x.2)) = true := by decide +kernel
def tX2_deedFrom_0 : List (Nat × Instr × Nat) := [(0, .aload_n 0, 1), (1, .iload_n 1, 1), (2, .invokevirtual 19, 3), (5, .istore_n 2, 1), (6, .iload_n 2, 1), (7, .invokestatic 31, 3), (10, .ifCond .eq 7, 3), (13, .iload_n 2, 1), (14, .goto 10, 3), (17, .aload_n 0, 1), (18, .iload_n 1, 1), (19, .iconst 1, 1), (20, .iadd, 1), (21, .invokevirtual 19, 3), (24, .ireturn, 1)]
set_option maxRecDepth 20000 in
theorem zX2_deedFrom_0 : tX2_deedFrom_0.all (fun x => decide (decode cX2_deedFrom x.1 = .ok x.2)) = true := by decide +kernel
def tX2_lengthOf_0 : List (Nat × Instr × Nat) := [(0, .iload_n 0, 1), (1, .invokestatic 31, 3), (4, .ifCond .eq 5, 3), (7, .iconst 1, 1), (8, .ireturn, 1), (9, .iload_n 0, 1), (10, .invokestatic 27, 3), (13, .ifCond .eq 7, 3), (16, .iconst 3, 1), (17, .goto 4, 3), (20, .iconst 2, 1), (21, .ireturn, 1)]
set_option maxRecDepth 20000 in
theorem zX2_lengthOf_0 : tX2_lengthOf_0.all (fun x => decide (decode cX2_lengthOf x.1 = .ok x.2)) = true := by decide +kernel
def tX3_init_0 : List (Nat × Instr × Nat) := [(0, .aload_n 0, 1), (1, .invokespecial 3, 3), (4, .aload_n 0, 1), (5, .bipush 10, 2), (7, .newarray .int, 2), (9, .putfield 9, 3), (12, .aload_n 0, 1), (13, .bipush 10, 2), (15, .newarray .int, 2), (17, .putfield 15, 3), (20, .aload_n 0, 1), (21, .bipush 10, 2), (23, .newarray .int, 2), (25, .putfield 18, 3), (28, .aload_n 0, 1), (29, .iconst 0, 1), (30, .putfield 21, 3), (33, .return_, 1)]
set_option maxRecDepth 20000 in
theorem zX3_init_0 : tX3_init_0.all (fun x => decide (decode cX3_init x.1 = .ok x.2)) = true := by decide +kernel
def tX3_lookAt_0 : List (Nat × Instr × Nat) := [(0, .aload_n 0, 1), (1, .aload_n 1, 1), (2, .getfield 25, 3), (5, .putfield 21, 3), (8, .iconst 0, 1), (9, .istore_n 2, 1), (10, .iload_n 2, 1), (11, .bipush 10, 2), (13, .if_icmp .ge 43, 3), (16, .aload_n 0, 1), (17, .getfield 9, 3), (20, .iload_n 2, 1), (21, .aload_n 1, 1), (22, .iload_n 2, 1), (23, .invokevirtual 28, 3), (26, .iastore, 1), (27, .aload_n 0, 1), (28, .getfield 15, 3), (31, .iload_n 2, 1), (32, .aload_n 1, 1), (33, .iload_n 2, 1), (34, .invokevirtual 32, 3), (37, .iastore, 1), (38, .aload_n 0, 1), (39, .getfield 18, 3), (42, .iload_n 2, 1), (43, .aload_n 1, 1), (44, .iload_n 2, 1), (45, .iconst 1, 1), (46, .invokevirtual 35, 3), (49, .iastore, 1), (50, .iinc 2 1, 3), (53, .goto (-43), 3), (56, .return_, 1)]
set_option maxRecDepth 20000 in
theorem zX3_lookAt_0 : tX3_lookAt_0.all (fun x => decide (decode cX3_lookAt x.1 = .ok x.2)) = true := by decide +kernel
def tX3_afterNight_0 : List (Nat × Instr × Nat) := [(0, .iload_n 1, 1), (1, .iload_n 2, 1), (2, .iand, 1), (3, .istore_n 3, 1), (4, .iload_n 1, 1), (5, .iload_n 2, 1), (6, .iconst (-1), 1), (7, .ixor, 1), (8, .iand, 1), (9, .istore 4, 2), (11, .iconst 0, 1), (12, .istore 5, 2), (14, .iload 5, 2), (16, .bipush 10, 2), (18, .if_icmp .ge 48, 3), (21, .iload 4, 2), (23, .iload 5, 2), (25, .invokestatic 39, 3), (28, .ifCond .eq 32, 3), (31, .aload_n 0, 1), (32, .getfield 9, 3), (35, .iload 5, 2), (37, .iaload, 1), (38, .iload_n 1, 1), (39, .iand, 1), (40, .invokestatic 43, 3), (43, .aload_n 0, 1), (44, .getfield 15, 3), (47, .iload 5, 2), (49, .iaload, 1), (50, .if_icmp .lt 10, 3), (53, .iload_n 3, 1), (54, .iconst 1, 1), (55, .iload 5, 2), (57, .ishl, 1), (58, .ior, 1), (59, .istore_n 3, 1), (60, .iinc 5 1, 3), (63, .goto (-49), 3), (66, .iload_n 3, 1), (67, .ireturn, 1)]
set_option maxRecDepth 20000 in
theorem zX3_afterNight_0 : tX3_afterNight_0.all (fun x => decide (decode cX3_afterNight x.1 = .ok x.2)) = true := by decide +kernel
def tX3_remaining_0 : List (Nat × Instr × Nat) := [(0, .aload_n 0, 1), (1, .getfield 21, 3), (4, .istore_n 2, 1), (5, .iconst 0, 1), (6, .istore_n 3, 1), (7, .iload_n 3, 1), (8, .bipush 10, 2), (10, .if_icmp .gt 28, 3), (13, .aload_n 0, 1), (14, .iload_n 2, 1), (15, .iload_n 1, 1), (16, .invokevirtual 48, 3), (19, .istore 4, 2), (21, .iload 4, 2), (23, .iload_n 2, 1), (24, .if_icmp .ne 5, 3), (27, .iload_n 2, 1), (28, .ireturn, 1), (29, .iload 4, 2), (31, .istore_n 2, 1), (32, .iinc 3 1, 3), (35, .goto (-28), 3), (38, .iload_n 2, 1), (39, .ireturn, 1)]
set_option maxRecDepth 20000 in
theorem zX3_remaining_0 : tX3_remaining_0.all (fun x => decide (decode cX3_remaining x.1 = .ok x.2)) = true := by decide +kernel
def tX3_nightsOfLeaving_0 : List (Nat × Instr × Nat) := [(0, .aload_n 0, 1), (1, .getfield 21, 3), (4, .istore_n 1, 1), (5, .iconst 0, 1), (6, .istore_n 2, 1), (7, .iconst 0, 1), (8, .istore_n 3, 1), (9, .iload_n 3, 1), (10, .bipush 10, 2), (12, .if_icmp .gt 31, 3), (15, .aload_n 0, 1), (16, .iload_n 1, 1), (17, .iconst 0, 1), (18, .invokevirtual 48, 3), (21, .istore 4, 2), (23, .iload 4, 2), (25, .iload_n 1, 1), (26, .if_icmp .ne 5, 3), (29, .iload_n 2, 1), (30, .ireturn, 1), (31, .iload 4, 2), (33, .istore_n 1, 1), (34, .iinc 2 1, 3), (37, .iinc 3 1, 3), (40, .goto (-31), 3), (43, .iload_n 2, 1), (44, .ireturn, 1)]
set_option maxRecDepth 20000 in
theorem zX3_nightsOfLeaving_0 : tX3_nightsOfLeaving_0.all (fun x => decide (decode cX3_nightsOfLeaving x.1 = .ok x.2)) = true := by decide +kernel
def tX3_fewestToKeep_0 : List (Nat × Instr × Nat) := [(0, .aload_n 0, 1), (1, .getfield 21, 3), (4, .iconst 1, 1), (5, .iload_n 1, 1), (6, .ishl, 1), (7, .iconst (-1), 1), (8, .ixor, 1), (9, .iand, 1), (10, .istore_n 2, 1), (11, .aload_n 0, 1), (12, .iload_n 2, 1), (13, .invokevirtual 51, 3), (16, .iload_n 1, 1), (17, .invokestatic 39, 3), (20, .ifCond .ne 6, 3), (23, .bipush (-6), 2), (25, .ireturn, 1), (26, .iload_n 2, 1), (27, .istore_n 3, 1), (28, .iconst 0, 1), (29, .istore 4, 2), (31, .iload 4, 2), (33, .sipush 1023, 3), (36, .if_icmp .ge 58, 3), (39, .iload 4, 2), (41, .invokestatic 43, 3), (44, .iload_n 3, 1), (45, .invokestatic 43, 3), (48, .if_icmp .ge 7, 3), (51, .iconst 1, 1), (52, .goto 4, 3), (55, .iconst 0, 1), (56, .istore 5, 2), (58, .iload 5, 2), (60, .ifCond .eq 28, 3), (63, .iload 4, 2), (65, .iload_n 2, 1), (66, .iconst (-1), 1), (67, .ixor, 1), (68, .iand, 1), (69, .ifCond .ne 19, 3), (72, .aload_n 0, 1), (73, .iload 4, 2), (75, .invokevirtual 51, 3), (78, .iload_n 1, 1), (79, .invokestatic 39, 3), (82, .ifCond .eq 6, 3), (85, .iload 4, 2), (87, .istore_n 3, 1), (88, .iinc 4 1, 3), (91, .goto (-60), 3), (94, .iload_n 3, 1), (95, .ireturn, 1)]
set_option maxRecDepth 20000 in
theorem zX3_fewestToKeep_0 : tX3_fewestToKeep_0.all (fun x => decide (decode cX3_fewestToKeep x.1 = .ok x.2)) = true := by decide +kernel
def tX3_mostStrangers_0 : List (Nat × Instr × Nat) := [(0, .aload_n 0, 1), (1, .aload_n 1, 1), (2, .invokevirtual 54, 3), (5, .aload_n 0, 1), (6, .getfield 21, 3), (9, .aload_n 1, 1), (10, .invokevirtual 58, 3), (13, .iconst (-1), 1), (14, .ixor, 1), (15, .iand, 1), (16, .istore_n 3, 1), (17, .iconst 0, 1), (18, .istore 4, 2), (20, .iconst 0, 1), (21, .istore 5, 2), (23, .iload 5, 2), (25, .sipush 1023, 3), (28, .if_icmp .gt 66, 3), (31, .iload 5, 2), (33, .invokestatic 43, 3), (36, .istore 6, 2), (38, .iload 6, 2), (40, .iload 4, 2), (42, .invokestatic 43, 3), (45, .if_icmp .le 13, 3), (48, .iload 6, 2), (50, .iload_n 2, 1), (51, .if_icmp .gt 7, 3), (54, .iconst 1, 1), (55, .goto 4, 3), (58, .iconst 0, 1), (59, .istore 7, 2), (61, .iload 7, 2), (63, .ifCond .eq 25, 3), (66, .iload 5, 2), (68, .iload_n 3, 1), (69, .iconst (-1), 1), (70, .ixor, 1), (71, .iand, 1), (72, .ifCond .ne 16, 3), (75, .aload_n 0, 1), (76, .iload 5, 2), (78, .invokevirtual 62, 3), (81, .ifCond .eq 7, 3), (84, .iload 5, 2), (86, .istore 4, 2), (88, .iinc 5 1, 3), (91, .goto (-68), 3), (94, .iload 4, 2), (96, .ireturn, 1)]
set_option maxRecDepth 20000 in
theorem zX3_mostStrangers_0 : tX3_mostStrangers_0.all (fun x => decide (decode cX3_mostStrangers x.1 = .ok x.2)) = true := by decide +kernel
def tX3_areStrangers_0 : List (Nat × Instr × Nat) := [(0, .iconst 0, 1), (1, .istore_n 2, 1), (2, .iload_n 2, 1), (3, .bipush 10, 2), (5, .if_icmp .ge 30, 3), (8, .iload_n 1, 1), (9, .iload_n 2, 1), (10, .invokestatic 39, 3), (13, .ifCond .eq 16, 3), (16, .aload_n 0, 1), (17, .getfield 18, 3), (20, .iload_n 2, 1), (21, .iaload, 1), (22, .iload_n 1, 1), (23, .iand, 1), (24, .ifCond .eq 5, 3), (27, .iconst 0, 1), (28, .ireturn, 1), (29, .iinc 2 1, 3), (32, .goto (-30), 3), (35, .iconst 1, 1), (36, .ireturn, 1)]
set_option maxRecDepth 20000 in
theorem zX3_areStrangers_0 : tX3_areStrangers_0.all (fun x => decide (decode cX3_areStrangers x.1 = .ok x.2)) = true := by decide +kernel
def tX4_init_0 : List (Nat × Instr × Nat) := [(0, .aload_n 0, 1), (1, .invokespecial 3, 3), (4, .aload_n 0, 1), (5, .sipush 1023, 3), (8, .putfield 9, 3), (11, .aload_n 0, 1), (12, .iconst 0, 1), (13, .putfield 15, 3), (16, .aload_n 0, 1), (17, .iconst 0, 1), (18, .putfield 18, 3), (21, .aload_n 0, 1), (22, .iconst 0, 1), (23, .putfield 21, 3), (26, .aload_n 0, 1), (27, .iconst 0, 1), (28, .putfield 24, 3), (31, .aload_n 0, 1), (32, .bipush 100, 2), (34, .newarray .int, 2), (36, .putfield 27, 3), (39, .aload_n 0, 1), (40, .bipush 100, 2), (42, .newarray .int, 2), (44, .putfield 31, 3), (47, .aload_n 0, 1), (48, .iconst 4, 1), (49, .newarray .int, 2), (51, .putfield 34, 3), (54, .aload_n 0, 1), (55, .bipush 8, 2), (57, .newarray .int, 2), (59, .putfield 37, 3), (62, .iconst 0, 1), (63, .istore_n 1, 1), (64, .iload_n 1, 1), (65, .aload_n 0, 1), (66, .getfield 31, 3), (69, .arraylength, 1), (70, .if_icmp .ge 16, 3), (73, .aload_n 0, 1), (74, .getfield 31, 3), (77, .iload_n 1, 1), (78, .iconst 2, 1), (79, .iastore, 1), (80, .iinc 1 1, 3), (83, .goto (-19), 3), (86, .iconst 0, 1), (87, .istore_n 1, 1), (88, .iload_n 1, 1), (89, .aload_n 0, 1), (90, .getfield 34, 3), (93, .arraylength, 1), (94, .if_icmp .ge 16, 3), (97, .aload_n 0, 1), (98, .getfield 34, 3), (101, .iload_n 1, 1), (102, .iconst 1, 1), (103, .iastore, 1), (104, .iinc 1 1, 3), (107, .goto (-19), 3), (110, .return_, 1)]
set_option maxRecDepth 20000 in
theorem zX4_init_0 : tX4_init_0.all (fun x => decide (decode cX4_init x.1 = .ok x.2)) = true := by decide +kernel
def tX4_copyFrom_0 : List (Nat × Instr × Nat) := [(0, .aload_n 1, 1), (1, .ifnonnull 4, 3), (4, .return_, 1), (5, .aload_n 0, 1), (6, .aload_n 1, 1), (7, .getfield 9, 3), (10, .putfield 9, 3), (13, .aload_n 0, 1), (14, .aload_n 1, 1), (15, .getfield 15, 3), (18, .putfield 15, 3), (21, .aload_n 0, 1), (22, .aload_n 1, 1), (23, .getfield 18, 3), (26, .putfield 18, 3), (29, .aload_n 0, 1), (30, .aload_n 1, 1), (31, .getfield 21, 3), (34, .putfield 21, 3), (37, .aload_n 0, 1), (38, .aload_n 1, 1), (39, .getfield 24, 3), (42, .putfield 24, 3), (45, .aload_n 1, 1), (46, .getfield 27, 3), (49, .aload_n 0, 1), (50, .getfield 27, 3), (53, .invokestatic 40, 3), (56, .aload_n 1, 1), (57, .getfield 31, 3), (60, .aload_n 0, 1), (61, .getfield 31, 3), (64, .invokestatic 40, 3), (67, .aload_n 1, 1), (68, .getfield 34, 3), (71, .aload_n 0, 1), (72, .getfield 34, 3), (75, .invokestatic 40, 3), (78, .aload_n 1, 1), (79, .getfield 37, 3), (82, .aload_n 0, 1), (83, .getfield 37, 3), (86, .invokestatic 40, 3), (89, .return_, 1)]
set_option maxRecDepth 20000 in
theorem zX4_copyFrom_0 : tX4_copyFrom_0.all (fun x => decide (decode cX4_copyFrom x.1 = .ok x.2)) = true := by decide +kernel
def tX4_copyRow_0 : List (Nat × Instr × Nat) := [(0, .iconst 0, 1), (1, .istore_n 2, 1), (2, .iload_n 2, 1), (3, .aload_n 0, 1), (4, .arraylength, 1), (5, .if_icmp .ge 21, 3), (8, .iload_n 2, 1), (9, .aload_n 1, 1), (10, .arraylength, 1), (11, .if_icmp .ge 15, 3), (14, .aload_n 1, 1), (15, .iload_n 2, 1), (16, .aload_n 0, 1), (17, .iload_n 2, 1), (18, .iaload, 1), (19, .iastore, 1), (20, .iinc 2 1, 3), (23, .goto (-21), 3), (26, .return_, 1)]
set_option maxRecDepth 20000 in
theorem zX4_copyRow_0 : tX4_copyRow_0.all (fun x => decide (decode cX4_copyRow x.1 = .ok x.2)) = true := by decide +kernel
def tX4_strength_0 : List (Nat × Instr × Nat) := [(0, .iload_n 1, 1), (1, .ifCond .lt 19, 3), (4, .iload_n 1, 1), (5, .bipush 10, 2), (7, .if_icmp .ge 13, 3), (10, .iload_n 2, 1), (11, .ifCond .lt 9, 3), (14, .iload_n 2, 1), (15, .bipush 10, 2), (17, .if_icmp .lt 5, 3), (20, .iconst 0, 1), (21, .ireturn, 1), (22, .aload_n 0, 1), (23, .getfield 27, 3), (26, .iload_n 1, 1), (27, .bipush 10, 2), (29, .imul, 1), (30, .iload_n 2, 1), (31, .iadd, 1), (32, .iaload, 1), (33, .ireturn, 1)]
set_option maxRecDepth 20000 in
theorem zX4_strength_0 : tX4_strength_0.all (fun x => decide (decode cX4_strength x.1 = .ok x.2)) = true := by decide +kernel
def tX4_kind_0 : List (Nat × Instr × Nat) := [(0, .iload_n 1, 1), (1, .ifCond .lt 24, 3), (4, .iload_n 1, 1), (5, .bipush 10, 2), (7, .if_icmp .ge 18, 3), (10, .iload_n 2, 1), (11, .ifCond .lt 14, 3), (14, .iload_n 2, 1), (15, .bipush 10, 2), (17, .if_icmp .ge 8, 3), (20, .iload_n 1, 1), (21, .iload_n 2, 1), (22, .if_icmp .ne 6, 3), (25, .bipush (-6), 2), (27, .ireturn, 1), (28, .aload_n 0, 1), (29, .getfield 31, 3), (32, .iload_n 1, 1), (33, .bipush 10, 2), (35, .imul, 1), (36, .iload_n 2, 1), (37, .iadd, 1), (38, .iaload, 1), (39, .ireturn, 1)]
set_option maxRecDepth 20000 in
theorem zX4_kind_0 : tX4_kind_0.all (fun x => decide (decode cX4_kind x.1 = .ok x.2)) = true := by decide +kernel
def tX4_bind_0 : List (Nat × Instr × Nat) := [(0, .iload_n 1, 1), (1, .ifCond .lt 24, 3), (4, .iload_n 1, 1), (5, .bipush 10, 2), (7, .if_icmp .ge 18, 3), (10, .iload_n 2, 1), (11, .ifCond .lt 14, 3), (14, .iload_n 2, 1), (15, .bipush 10, 2), (17, .if_icmp .ge 8, 3), (20, .iload_n 1, 1), (21, .iload_n 2, 1), (22, .if_icmp .ne 4, 3), (25, .return_, 1), (26, .aload_n 0, 1), (27, .getfield 27, 3), (30, .iload_n 1, 1), (31, .bipush 10, 2), (33, .imul, 1), (34, .iload_n 2, 1), (35, .iadd, 1), (36, .iload 4, 2), (38, .iastore, 1), (39, .aload_n 0, 1), (40, .getfield 27, 3), (43, .iload_n 2, 1), (44, .bipush 10, 2), (46, .imul, 1), (47, .iload_n 1, 1), (48, .iadd, 1), (49, .iload 4, 2), (51, .iastore, 1), (52, .aload_n 0, 1), (53, .getfield 31, 3), (56, .iload_n 1, 1), (57, .bipush 10, 2), (59, .imul, 1), (60, .iload_n 2, 1), (61, .iadd, 1), (62, .iload_n 3, 1), (63, .iastore, 1), (64, .aload_n 0, 1), (65, .getfield 31, 3), (68, .iload_n 2, 1), (69, .bipush 10, 2), (71, .imul, 1), (72, .iload_n 1, 1), (73, .iadd, 1), (74, .iload_n 3, 1), (75, .iastore, 1), (76, .return_, 1)]
set_option maxRecDepth 20000 in
theorem zX4_bind_0 : tX4_bind_0.all (fun x => decide (decode cX4_bind x.1 = .ok x.2)) = true := by decide +kernel
def tX4_rule_0 : List (Nat × Instr × Nat) := [(0, .iload_n 1, 1), (1, .ifCond .lt 21, 3), (4, .iload_n 1, 1), (5, .aload_n 0, 1), (6, .getfield 34, 3), (9, .arraylength, 1), (10, .if_icmp .ge 12, 3), (13, .aload_n 0, 1), (14, .getfield 34, 3), (17, .iload_n 1, 1), (18, .iaload, 1), (19, .goto 4, 3), (22, .iconst 0, 1), (23, .ireturn, 1)]
set_option maxRecDepth 20000 in
theorem zX4_rule_0 : tX4_rule_0.all (fun x => decide (decode cX4_rule x.1 = .ok x.2)) = true := by decide +kernel
def tX4_setRule_0 : List (Nat × Instr × Nat) := [(0, .iload_n 1, 1), (1, .ifCond .lt 19, 3), (4, .iload_n 1, 1), (5, .aload_n 0, 1), (6, .getfield 34, 3), (9, .arraylength, 1), (10, .if_icmp .ge 10, 3), (13, .aload_n 0, 1), (14, .getfield 34, 3), (17, .iload_n 1, 1), (18, .iload_n 2, 1), (19, .iastore, 1), (20, .return_, 1)]
set_option maxRecDepth 20000 in
theorem zX4_setRule_0 : tX4_setRule_0.all (fun x => decide (decode cX4_setRule x.1 = .ok x.2)) = true := by decide +kernel
def tX4_isHere_0 : List (Nat × Instr × Nat) := [(0, .iload_n 1, 1), (1, .ifCond .lt 25, 3), (4, .iload_n 1, 1), (5, .bipush 10, 2), (7, .if_icmp .ge 19, 3), (10, .aload_n 0, 1), (11, .getfield 9, 3), (14, .iload_n 1, 1), (15, .ishr, 1), (16, .iconst 1, 1), (17, .iand, 1), (18, .iconst 1, 1), (19, .if_icmp .ne 7, 3), (22, .iconst 1, 1), (23, .goto 4, 3), (26, .iconst 0, 1), (27, .ireturn, 1)]
set_option maxRecDepth 20000 in
theorem zX4_isHere_0 : tX4_isHere_0.all (fun x => decide (decode cX4_isHere x.1 = .ok x.2)) = true := by decide +kernel
def tX4_place_0 : List (Nat × Instr × Nat) := [(0, .iconst 1, 1), (1, .iload_n 1, 1), (2, .ishl, 1), (3, .istore 4, 2), (5, .aload_n 0, 1), (6, .iload_n 2, 1), (7, .ifCond .eq 13, 3), (10, .aload_n 0, 1), (11, .getfield 9, 3), (14, .iload 4, 2), (16, .ior, 1), (17, .goto 12, 3), (20, .aload_n 0, 1), (21, .getfield 9, 3), (24, .iload 4, 2), (26, .iconst (-1), 1), (27, .ixor, 1), (28, .iand, 1), (29, .putfield 9, 3), (32, .aload_n 0, 1), (33, .iload_n 3, 1), (34, .ifCond .eq 13, 3), (37, .aload_n 0, 1), (38, .getfield 15, 3), (41, .iload 4, 2), (43, .ior, 1), (44, .goto 12, 3), (47, .aload_n 0, 1), (48, .getfield 15, 3), (51, .iload 4, 2), (53, .iconst (-1), 1), (54, .ixor, 1), (55, .iand, 1), (56, .putfield 15, 3), (59, .aload_n 0, 1), (60, .dup, 1), (61, .getfield 18, 3), (64, .iload 4, 2), (66, .iconst (-1), 1), (67, .ixor, 1), (68, .iand, 1), (69, .putfield 18, 3), (72, .return_, 1)]
set_option maxRecDepth 20000 in
theorem zX4_place_0 : tX4_place_0.all (fun x => decide (decode cX4_place x.1 = .ok x.2)) = true := by decide +kernel
def tX4_tiedTo_0 : List (Nat × Instr × Nat) := [(0, .iconst 0, 1), (1, .istore_n 3, 1), (2, .iconst 0, 1), (3, .istore 4, 2), (5, .iload 4, 2), (7, .bipush 10, 2), (9, .if_icmp .ge 27, 3), (12, .aload_n 0, 1), (13, .iload_n 1, 1), (14, .iload 4, 2), (16, .invokevirtual 44, 3), (19, .iload_n 2, 1), (20, .if_icmp .lt 10, 3), (23, .iload_n 3, 1), (24, .iconst 1, 1), (25, .iload 4, 2), (27, .ishl, 1), (28, .ior, 1), (29, .istore_n 3, 1), (30, .iinc 4 1, 3), (33, .goto (-28), 3), (36, .iload_n 3, 1), (37, .ireturn, 1)]
set_option maxRecDepth 20000 in
theorem zX4_tiedTo_0 : tX4_tiedTo_0.all (fun x => decide (decode cX4_tiedTo x.1 = .ok x.2)) = true := by decide +kernel
def tX4_missingIt_0 : List (Nat × Instr × Nat) := [(0, .aload_n 0, 1), (1, .iconst 1, 1), (2, .invokevirtual 48, 3), (5, .istore_n 2, 1), (6, .aload_n 0, 1), (7, .iconst 2, 1), (8, .invokevirtual 48, 3), (11, .iconst 1, 1), (12, .if_icmp .ne 7, 3), (15, .iconst 1, 1), (16, .goto 4, 3), (19, .iconst 0, 1), (20, .istore_n 3, 1), (21, .iconst 0, 1), (22, .istore 4, 2), (24, .iconst 0, 1), (25, .istore 5, 2), (27, .iload 5, 2), (29, .bipush 10, 2), (31, .if_icmp .ge 44, 3), (34, .aload_n 0, 1), (35, .iload_n 1, 1), (36, .iload 5, 2), (38, .invokevirtual 44, 3), (41, .iload_n 2, 1), (42, .if_icmp .lt 27, 3), (45, .iload_n 3, 1), (46, .ifCond .ne 14, 3), (49, .aload_n 0, 1), (50, .iload_n 1, 1), (51, .iload 5, 2), (53, .invokevirtual 52, 3), (56, .iconst 3, 1), (57, .if_icmp .eq 12, 3), (60, .iload 4, 2), (62, .iconst 1, 1), (63, .iload 5, 2), (65, .ishl, 1), (66, .ior, 1), (67, .istore 4, 2), (69, .iinc 5 1, 3), (72, .goto (-45), 3), (75, .iload 4, 2), (77, .ireturn, 1)]
set_option maxRecDepth 20000 in
theorem zX4_missingIt_0 : tX4_missingIt_0.all (fun x => decide (decode cX4_missingIt x.1 = .ok x.2)) = true := by decide +kernel
def tX4_tiesNeeded_0 : List (Nat × Instr × Nat) := [(0, .aload_n 0, 1), (1, .iconst 3, 1), (2, .invokevirtual 48, 3), (5, .iconst 1, 1), (6, .if_icmp .ne 24, 3), (9, .aload_n 0, 1), (10, .getfield 15, 3), (13, .iload_n 1, 1), (14, .invokestatic 55, 3), (17, .ifCond .eq 13, 3), (20, .aload_n 0, 1), (21, .iconst 0, 1), (22, .invokevirtual 48, 3), (25, .iconst 1, 1), (26, .isub, 1), (27, .goto 8, 3), (30, .aload_n 0, 1), (31, .iconst 0, 1), (32, .invokevirtual 48, 3), (35, .ireturn, 1)]
set_option maxRecDepth 20000 in
theorem zX4_tiesNeeded_0 : tX4_tiesNeeded_0.all (fun x => decide (decode cX4_tiesNeeded x.1 = .ok x.2)) = true := by decide +kernel
def tX4_missed_0 : List (Nat × Instr × Nat) := [(0, .iconst 0, 1), (1, .istore_n 1, 1), (2, .iconst 0, 1), (3, .istore_n 2, 1), (4, .iload_n 2, 1), (5, .bipush 10, 2), (7, .if_icmp .ge 44, 3), (10, .aload_n 0, 1), (11, .iload_n 2, 1), (12, .invokevirtual 59, 3), (15, .ifCond .eq 30, 3), (18, .aload_n 0, 1), (19, .iload_n 2, 1), (20, .invokevirtual 63, 3), (23, .aload_n 0, 1), (24, .getfield 9, 3), (27, .iand, 1), (28, .invokestatic 66, 3), (31, .aload_n 0, 1), (32, .iload_n 2, 1), (33, .invokevirtual 71, 3), (36, .if_icmp .lt 9, 3), (39, .iload_n 1, 1), (40, .iconst 1, 1), (41, .iload_n 2, 1), (42, .ishl, 1), (43, .ior, 1), (44, .istore_n 1, 1), (45, .iinc 2 1, 3), (48, .goto (-44), 3), (51, .iload_n 1, 1), (52, .ireturn, 1)]
set_option maxRecDepth 20000 in
theorem zX4_missed_0 : tX4_missed_0.all (fun x => decide (decode cX4_missed x.1 = .ok x.2)) = true := by decide +kernel
def tX4_strengthBetween_0 : List (Nat × Instr × Nat) := [(0, .iconst 0, 1), (1, .istore_n 3, 1), (2, .iconst 0, 1), (3, .istore 4, 2), (5, .iload 4, 2), (7, .bipush 10, 2), (9, .if_icmp .ge 54, 3), (12, .iconst 0, 1), (13, .istore 5, 2), (15, .iload 5, 2), (17, .bipush 10, 2), (19, .if_icmp .ge 38, 3), (22, .iload_n 1, 1), (23, .iload 4, 2), (25, .invokestatic 55, 3), (28, .ifCond .eq 23, 3), (31, .iload_n 2, 1), (32, .iload 5, 2), (34, .invokestatic 55, 3), (37, .ifCond .eq 14, 3), (40, .iload_n 3, 1), (41, .aload_n 0, 1), (42, .iload 4, 2), (44, .iload 5, 2), (46, .invokevirtual 44, 3), (49, .iadd, 1), (50, .istore_n 3, 1), (51, .iinc 5 1, 3), (54, .goto (-39), 3), (57, .iinc 4 1, 3), (60, .goto (-55), 3), (63, .iload_n 3, 1), (64, .ireturn, 1)]
set_option maxRecDepth 20000 in
theorem zX4_strengthBetween_0 : tX4_strengthBetween_0.all (fun x => decide (decode cX4_strengthBetween x.1 = .ok x.2)) = true := by decide +kernel
def tX4_strengthOfAll_0 : List (Nat × Instr × Nat) := [(0, .aload_n 0, 1), (1, .sipush 1023, 3), (4, .sipush 1023, 3), (7, .invokevirtual 74, 3), (10, .iconst 2, 1), (11, .idiv, 1), (12, .ireturn, 1)]
set_option maxRecDepth 20000 in
theorem zX4_strengthOfAll_0 : tX4_strengthOfAll_0.all (fun x => decide (decode cX4_strengthOfAll x.1 = .ok x.2)) = true := by decide +kernel
def tX4_toldOf_0 : List (Nat × Instr × Nat) := [(0, .iload_n 2, 1), (1, .tableswitch 107 0 3 #[31, 45, 62, 79], 31), (32, .aload_n 0, 1), (33, .iload_n 1, 1), (34, .invokevirtual 59, 3), (37, .ifCond .eq 7, 3), (40, .iconst 1, 1), (41, .goto 4, 3), (44, .iconst 0, 1), (45, .ireturn, 1), (46, .aload_n 0, 1), (47, .getfield 15, 3), (50, .iload_n 1, 1), (51, .invokestatic 55, 3), (54, .ifCond .eq 7, 3), (57, .iconst 1, 1), (58, .goto 4, 3), (61, .iconst 0, 1), (62, .ireturn, 1), (63, .aload_n 0, 1), (64, .getfield 18, 3), (67, .iload_n 1, 1), (68, .invokestatic 55, 3), (71, .ifCond .eq 7, 3), (74, .iconst 1, 1), (75, .goto 4, 3), (78, .iconst 0, 1), (79, .ireturn, 1), (80, .aload_n 0, 1), (81, .iload_n 1, 1), (82, .invokevirtual 59, 3), (85, .ifCond .ne 6, 3), (88, .bipush (-6), 2), (90, .ireturn, 1), (91, .aload_n 0, 1), (92, .invokevirtual 77, 3), (95, .iload_n 1, 1), (96, .invokestatic 55, 3), (99, .ifCond .eq 7, 3), (102, .iconst 1, 1), (103, .goto 4, 3), (106, .iconst 0, 1), (107, .ireturn, 1), (108, .aload_n 0, 1), (109, .iconst 1, 1), (110, .iload_n 1, 1), (111, .ishl, 1), (112, .aload_n 0, 1), (113, .getfield 9, 3), (116, .invokevirtual 74, 3), (119, .ireturn, 1)]
set_option maxRecDepth 20000 in
theorem zX4_toldOf_0 : tX4_toldOf_0.all (fun x => decide (decode cX4_toldOf x.1 = .ok x.2)) = true := by decide +kernel
def tX4_reasonAgainst_0 : List (Nat × Instr × Nat) := [(0, .iload_n 1, 1), (1, .bipush 46, 2), (3, .if_icmp .ne 16, 3), (6, .aload_n 0, 1), (7, .getfield 18, 3), (10, .ifCond .ne 7, 3), (13, .iconst 4, 1), (14, .goto 4, 3), (17, .iconst 0, 1), (18, .ireturn, 1), (19, .iload_n 1, 1), (20, .bipush 126, 2), (22, .if_icmp .ne 16, 3), (25, .aload_n 0, 1), (26, .invokevirtual 81, 3), (29, .ifCond .eq 7, 3), (32, .iconst 0, 1), (33, .goto 4, 3), (36, .iconst 5, 1), (37, .ireturn, 1), (38, .aload_n 0, 1), (39, .iload_n 2, 1), (40, .invokevirtual 59, 3), (43, .ifCond .ne 5, 3), (46, .iconst 1, 1), (47, .ireturn, 1), (48, .iload_n 1, 1), (49, .bipush 100, 2), (51, .if_icmp .eq 9, 3), (54, .iload_n 1, 1), (55, .bipush 62, 2), (57, .if_icmp .ne 5, 3), (60, .iconst 0, 1), (61, .ireturn, 1), (62, .aload_n 0, 1), (63, .iload_n 3, 1), (64, .invokevirtual 59, 3), (67, .ifCond .ne 5, 3), (70, .iconst 1, 1), (71, .ireturn, 1), (72, .iload_n 2, 1), (73, .iload_n 3, 1), (74, .if_icmp .ne 5, 3), (77, .iconst 2, 1), (78, .ireturn, 1), (79, .aload_n 0, 1), (80, .iload_n 1, 1), (81, .iload_n 2, 1), (82, .iload_n 3, 1), (83, .invokevirtual 85, 3), (86, .ifCond .eq 7, 3), (89, .iconst 3, 1), (90, .goto 4, 3), (93, .iconst 0, 1), (94, .ireturn, 1)]
set_option maxRecDepth 20000 in
theorem zX4_reasonAgainst_0 : tX4_reasonAgainst_0.all (fun x => decide (decode cX4_reasonAgainst x.1 = .ok x.2)) = true := by decide +kernel
def tX4_tieForbids_0 : List (Nat × Instr × Nat) := [(0, .aload_n 0, 1), (1, .iload_n 2, 1), (2, .iload_n 3, 1), (3, .invokevirtual 44, 3), (6, .istore 4, 2), (8, .iload_n 1, 1), (9, .bipush 45, 2), (11, .if_icmp .ne 14, 3), (14, .iload 4, 2), (16, .ifCond .ne 7, 3), (19, .iconst 1, 1), (20, .goto 4, 3), (23, .iconst 0, 1), (24, .ireturn, 1), (25, .iload 4, 2), (27, .bipush 9, 2), (29, .if_icmp .ne 23, 3), (32, .iload_n 1, 1), (33, .bipush 43, 2), (35, .if_icmp .eq 13, 3), (38, .aload_n 0, 1), (39, .iload_n 2, 1), (40, .iload_n 3, 1), (41, .invokevirtual 52, 3), (44, .iconst 3, 1), (45, .if_icmp .ne 7, 3), (48, .iconst 1, 1), (49, .goto 4, 3), (52, .iconst 0, 1), (53, .ireturn, 1)]
set_option maxRecDepth 20000 in
theorem zX4_tieForbids_0 : tX4_tieForbids_0.all (fun x => decide (decode cX4_tieForbids x.1 = .ok x.2)) = true := by decide +kernel
def tX4_fades_0 : List (Nat × Instr × Nat) := [(0, .aload_n 0, 1), (1, .iload_n 1, 1), (2, .invokevirtual 59, 3), (5, .ifCond .eq 34, 3), (8, .aload_n 0, 1), (9, .iload_n 2, 1), (10, .invokevirtual 59, 3), (13, .ifCond .eq 26, 3), (16, .aload_n 0, 1), (17, .iload_n 1, 1), (18, .iload_n 2, 1), (19, .invokevirtual 52, 3), (22, .iconst 3, 1), (23, .if_icmp .eq 16, 3), (26, .aload_n 0, 1), (27, .iload_n 1, 1), (28, .iload_n 2, 1), (29, .invokevirtual 44, 3), (32, .ifCond .le 7, 3), (35, .iconst 1, 1), (36, .goto 4, 3), (39, .iconst 0, 1), (40, .ireturn, 1)]
set_option maxRecDepth 20000 in
theorem zX4_fades_0 : tX4_fades_0.all (fun x => decide (decode cX4_fades x.1 = .ok x.2)) = true := by decide +kernel
def tX4_anyTieFades_0 : List (Nat × Instr × Nat) := [(0, .iconst 0, 1), (1, .istore_n 1, 1), (2, .iload_n 1, 1), (3, .bipush 10, 2), (5, .if_icmp .ge 36, 3), (8, .iload_n 1, 1), (9, .iconst 1, 1), (10, .iadd, 1), (11, .istore_n 2, 1), (12, .iload_n 2, 1), (13, .bipush 10, 2), (15, .if_icmp .ge 20, 3), (18, .aload_n 0, 1), (19, .iload_n 1, 1), (20, .iload_n 2, 1), (21, .invokevirtual 89, 3), (24, .ifCond .eq 5, 3), (27, .iconst 1, 1), (28, .ireturn, 1), (29, .iinc 2 1, 3), (32, .goto (-20), 3), (35, .iinc 1 1, 3), (38, .goto (-36), 3), (41, .iconst 0, 1), (42, .ireturn, 1)]
set_option maxRecDepth 20000 in
theorem zX4_anyTieFades_0 : tX4_anyTieFades_0.all (fun x => decide (decode cX4_anyTieFades x.1 = .ok x.2)) = true := by decide +kernel
def tX4_fadeAll_0 : List (Nat × Instr × Nat) := [(0, .iconst 0, 1), (1, .istore_n 1, 1), (2, .iload_n 1, 1), (3, .bipush 10, 2), (5, .if_icmp .ge 54, 3), (8, .iload_n 1, 1), (9, .iconst 1, 1), (10, .iadd, 1), (11, .istore_n 2, 1), (12, .iload_n 2, 1), (13, .bipush 10, 2), (15, .if_icmp .ge 38, 3), (18, .aload_n 0, 1), (19, .iload_n 1, 1), (20, .iload_n 2, 1), (21, .invokevirtual 89, 3), (24, .ifCond .eq 23, 3), (27, .aload_n 0, 1), (28, .iload_n 1, 1), (29, .iload_n 2, 1), (30, .aload_n 0, 1), (31, .iload_n 1, 1), (32, .iload_n 2, 1), (33, .invokevirtual 52, 3), (36, .aload_n 0, 1), (37, .iload_n 1, 1), (38, .iload_n 2, 1), (39, .invokevirtual 44, 3), (42, .iconst 1, 1), (43, .isub, 1), (44, .invokevirtual 92, 3), (47, .iinc 2 1, 3), (50, .goto (-38), 3), (53, .iinc 1 1, 3), (56, .goto (-54), 3), (59, .return_, 1)]
set_option maxRecDepth 20000 in
theorem zX4_fadeAll_0 : tX4_fadeAll_0.all (fun x => decide (decode cX4_fadeAll x.1 = .ok x.2)) = true := by decide +kernel
def tX4_perform_0 : List (Nat × Instr × Nat) := [(0, .aload_n 0, 1), (1, .iload_n 2, 1), (2, .iload_n 3, 1), (3, .invokevirtual 52, 3), (6, .istore 4, 2), (8, .aload_n 0, 1), (9, .iload_n 2, 1), (10, .iload_n 3, 1), (11, .invokevirtual 44, 3), (14, .istore 5, 2), (16, .iload_n 1, 1), (17, .lookupswitch 147 #[(36, 98), (43, 59), (45, 79), (62, 125), (100, 110), (126, 140)], 59), (76, .aload_n 0, 1), (77, .iload_n 2, 1), (78, .iload_n 3, 1), (79, .iload 4, 2), (81, .bipush 9, 2), (83, .iload 5, 2), (85, .iconst 2, 1), (86, .iadd, 1), (87, .invokestatic 96, 3), (90, .invokevirtual 92, 3), (93, .goto 71, 3), (96, .aload_n 0, 1), (97, .iload_n 2, 1), (98, .iload_n 3, 1), (99, .iload 4, 2), (101, .iconst 0, 1), (102, .iload 5, 2), (104, .iconst 3, 1), (105, .isub, 1), (106, .invokestatic 101, 3), (109, .invokevirtual 92, 3), (112, .goto 52, 3), (115, .aload_n 0, 1), (116, .iload_n 2, 1), (117, .iload_n 3, 1), (118, .iconst 3, 1), (119, .bipush 9, 2), (121, .invokevirtual 92, 3), (124, .goto 40, 3), (127, .aload_n 0, 1), (128, .dup, 1), (129, .getfield 15, 3), (132, .iconst 1, 1), (133, .iload_n 2, 1), (134, .ishl, 1), (135, .ixor, 1), (136, .putfield 15, 3), (139, .goto 25, 3), (142, .aload_n 0, 1), (143, .dup, 1), (144, .getfield 18, 3), (147, .iconst 1, 1), (148, .iload_n 2, 1), (149, .ishl, 1), (150, .ixor, 1), (151, .putfield 18, 3), (154, .goto 10, 3), (157, .aload_n 0, 1), (158, .invokevirtual 104, 3), (161, .goto 3, 3), (164, .return_, 1)]
set_option maxRecDepth 20000 in
theorem zX4_perform_0 : tX4_perform_0.all (fun x => decide (decode cX4_perform x.1 = .ok x.2)) = true := by decide +kernel
def tX4_endNight_0 : List (Nat × Instr × Nat) := [(0, .aload_n 0, 1), (1, .dup, 1), (2, .getfield 9, 3), (5, .iload_n 1, 1), (6, .iconst (-1), 1), (7, .ixor, 1), (8, .iand, 1), (9, .putfield 9, 3), (12, .aload_n 0, 1), (13, .iconst 0, 1), (14, .putfield 18, 3), (17, .return_, 1)]
set_option maxRecDepth 20000 in
theorem zX4_endNight_0 : tX4_endNight_0.all (fun x => decide (decode cX4_endNight x.1 = .ok x.2)) = true := by decide +kernel
def tX4_addSight_0 : List (Nat × Instr × Nat) := [(0, .aload_n 0, 1), (1, .getfield 21, 3), (4, .ifCond .lt 15, 3), (7, .aload_n 0, 1), (8, .getfield 21, 3), (11, .aload_n 0, 1), (12, .getfield 37, 3), (15, .arraylength, 1), (16, .if_icmp .lt 5, 3), (19, .iconst 0, 1), (20, .ireturn, 1), (21, .aload_n 0, 1), (22, .getfield 37, 3), (25, .aload_n 0, 1), (26, .getfield 21, 3), (29, .iload_n 1, 1), (30, .iastore, 1), (31, .iload_n 2, 1), (32, .ifCond .eq 18, 3), (35, .aload_n 0, 1), (36, .dup, 1), (37, .getfield 24, 3), (40, .iconst 1, 1), (41, .aload_n 0, 1), (42, .getfield 21, 3), (45, .ishl, 1), (46, .ior, 1), (47, .putfield 24, 3), (50, .aload_n 0, 1), (51, .dup, 1), (52, .getfield 21, 3), (55, .iconst 1, 1), (56, .iadd, 1), (57, .putfield 21, 3), (60, .iconst 1, 1), (61, .ireturn, 1)]
set_option maxRecDepth 20000 in
theorem zX4_addSight_0 : tX4_addSight_0.all (fun x => decide (decode cX4_addSight x.1 = .ok x.2)) = true := by decide +kernel
def tX4_dropSights_0 : List (Nat × Instr × Nat) := [(0, .aload_n 0, 1), (1, .iconst 0, 1), (2, .putfield 21, 3), (5, .aload_n 0, 1), (6, .iconst 0, 1), (7, .putfield 24, 3), (10, .return_, 1)]
set_option maxRecDepth 20000 in
theorem zX4_dropSights_0 : tX4_dropSights_0.all (fun x => decide (decode cX4_dropSights x.1 = .ok x.2)) = true := by decide +kernel
def tX4_fitting_0 : List (Nat × Instr × Nat) := [(0, .sipush 1023, 3), (3, .istore_n 1, 1), (4, .iconst 0, 1), (5, .istore_n 2, 1), (6, .iload_n 2, 1), (7, .aload_n 0, 1), (8, .getfield 21, 3), (11, .if_icmp .ge 55, 3), (14, .iload_n 2, 1), (15, .aload_n 0, 1), (16, .getfield 37, 3), (19, .arraylength, 1), (20, .if_icmp .ge 46, 3), (23, .aload_n 0, 1), (24, .aload_n 0, 1), (25, .getfield 37, 3), (28, .iload_n 2, 1), (29, .iaload, 1), (30, .aload_n 0, 1), (31, .iconst 1, 1), (32, .invokevirtual 48, 3), (35, .invokevirtual 107, 3), (38, .istore_n 3, 1), (39, .iload_n 1, 1), (40, .aload_n 0, 1), (41, .getfield 24, 3), (44, .iload_n 2, 1), (45, .invokestatic 55, 3), (48, .ifCond .eq 7, 3), (51, .iload_n 3, 1), (52, .goto 6, 3), (55, .iload_n 3, 1), (56, .iconst (-1), 1), (57, .ixor, 1), (58, .iand, 1), (59, .istore_n 1, 1), (60, .iinc 2 1, 3), (63, .goto (-57), 3), (66, .iload_n 1, 1), (67, .ireturn, 1)]
set_option maxRecDepth 20000 in
theorem zX4_fitting_0 : tX4_fitting_0.all (fun x => decide (decode cX4_fitting x.1 = .ok x.2)) = true := by decide +kernel
def tX4_leftAtMost_0 : List (Nat × Instr × Nat) := [(0, .aload_n 0, 1), (1, .iload_n 1, 1), (2, .aload_n 0, 1), (3, .iconst 1, 1), (4, .invokevirtual 48, 3), (7, .invokevirtual 107, 3), (10, .istore_n 3, 1), (11, .iload_n 2, 1), (12, .iload_n 3, 1), (13, .iand, 1), (14, .invokestatic 66, 3), (17, .iload_n 2, 1), (18, .iload_n 3, 1), (19, .iconst (-1), 1), (20, .ixor, 1), (21, .iand, 1), (22, .invokestatic 66, 3), (25, .invokestatic 101, 3), (28, .ireturn, 1)]
set_option maxRecDepth 20000 in
theorem zX4_leftAtMost_0 : tX4_leftAtMost_0.all (fun x => decide (decode cX4_leftAtMost x.1 = .ok x.2)) = true := by decide +kernel
def tX5_init_0 : List (Nat × Instr × Nat) := [(0, .aload_n 0, 1), (1, .invokespecial 3, 3), (4, .aload_n 0, 1), (5, .new 9, 3), (8, .dup, 1), (9, .invokespecial 11, 3), (12, .putfield 12, 3), (15, .aload_n 0, 1), (16, .new 9, 3), (19, .dup, 1), (20, .invokespecial 11, 3), (23, .putfield 16, 3), (26, .aload_n 0, 1), (27, .new 9, 3), (30, .dup, 1), (31, .invokespecial 11, 3), (34, .putfield 19, 3), (37, .aload_n 0, 1), (38, .iconst 0, 1), (39, .putfield 22, 3), (42, .aload_n 0, 1), (43, .new 26, 3), (46, .dup, 1), (47, .invokespecial 28, 3), (50, .putfield 29, 3), (53, .aload_n 0, 1), (54, .new 33, 3), (57, .dup, 1), (58, .invokespecial 35, 3), (61, .putfield 36, 3), (64, .aload_n 0, 1), (65, .new 40, 3), (68, .dup, 1), (69, .invokespecial 42, 3), (72, .putfield 43, 3), (75, .aload_n 0, 1), (76, .new 47, 3), (79, .dup, 1), (80, .invokespecial 49, 3), (83, .putfield 50, 3), (86, .return_, 1)]
set_option maxRecDepth 20000 in
theorem zX5_init_0 : tX5_init_0.all (fun x => decide (decode cX5_init x.1 = .ok x.2)) = true := by decide +kernel
def tX5_tie_0 : List (Nat × Instr × Nat) := [(0, .iload_n 1, 1), (1, .invokestatic 54, 3), (4, .ifCond .eq 15, 3), (7, .iload_n 2, 1), (8, .invokestatic 54, 3), (11, .ifCond .eq 8, 3), (14, .iload_n 1, 1), (15, .iload_n 2, 1), (16, .if_icmp .ne 5, 3), (19, .iconst (-1), 1), (20, .ireturn, 1), (21, .iload_n 3, 1), (22, .iconst 0, 1), (23, .iconst 3, 1), (24, .invokestatic 58, 3), (27, .ifCond .eq 14, 3), (30, .iload 4, 2), (32, .iconst 0, 1), (33, .bipush 9, 2), (35, .invokestatic 58, 3), (38, .ifCond .ne 6, 3), (41, .bipush (-2), 2), (43, .ireturn, 1), (44, .aload_n 0, 1), (45, .getfield 12, 3), (48, .iload_n 1, 1), (49, .iload_n 2, 1), (50, .invokevirtual 62, 3), (53, .istore 5, 2), (55, .aload_n 0, 1), (56, .getfield 12, 3), (59, .iload_n 1, 1), (60, .iload_n 2, 1), (61, .iload_n 3, 1), (62, .iload 4, 2), (64, .invokevirtual 66, 3), (67, .iload 5, 2), (69, .ireturn, 1)]
set_option maxRecDepth 20000 in
theorem zX5_tie_0 : tX5_tie_0.all (fun x => decide (decode cX5_tie x.1 = .ok x.2)) = true := by decide +kernel
def tX5_one_0 : List (Nat × Instr × Nat) := [(0, .iload_n 1, 1), (1, .invokestatic 54, 3), (4, .ifCond .ne 5, 3), (7, .iconst (-1), 1), (8, .ireturn, 1), (9, .iload_n 2, 1), (10, .invokestatic 70, 3), (13, .ifCond .eq 10, 3), (16, .iload_n 3, 1), (17, .invokestatic 70, 3), (20, .ifCond .ne 6, 3), (23, .bipush (-2), 2), (25, .ireturn, 1), (26, .aload_n 0, 1), (27, .getfield 12, 3), (30, .iload_n 1, 1), (31, .iload_n 2, 1), (32, .iconst 1, 1), (33, .if_icmp .ne 7, 3), (36, .iconst 1, 1), (37, .goto 4, 3), (40, .iconst 0, 1), (41, .iload_n 3, 1), (42, .iconst 1, 1), (43, .if_icmp .ne 7, 3), (46, .iconst 1, 1), (47, .goto 4, 3), (50, .iconst 0, 1), (51, .invokevirtual 73, 3), (54, .aload_n 0, 1), (55, .getfield 12, 3), (58, .getfield 77, 3), (61, .invokestatic 80, 3), (64, .ireturn, 1)]
set_option maxRecDepth 20000 in
theorem zX5_one_0 : tX5_one_0.all (fun x => decide (decode cX5_one x.1 = .ok x.2)) = true := by decide +kernel
def tX5_law_0 : List (Nat × Instr × Nat) := [(0, .iload_n 1, 1), (1, .iconst 0, 1), (2, .iconst 3, 1), (3, .invokestatic 58, 3), (6, .ifCond .eq 11, 3), (9, .iload_n 1, 1), (10, .iload_n 2, 1), (11, .invokestatic 86, 3), (14, .ifCond .ne 6, 3), (17, .bipush (-2), 2), (19, .ireturn, 1), (20, .aload_n 0, 1), (21, .getfield 12, 3), (24, .iload_n 1, 1), (25, .invokevirtual 90, 3), (28, .istore_n 3, 1), (29, .aload_n 0, 1), (30, .getfield 12, 3), (33, .iload_n 1, 1), (34, .iload_n 2, 1), (35, .invokevirtual 93, 3), (38, .iload_n 3, 1), (39, .ireturn, 1)]
set_option maxRecDepth 20000 in
theorem zX5_law_0 : tX5_law_0.all (fun x => decide (decode cX5_law x.1 = .ok x.2)) = true := by decide +kernel
def tX5_say_0 : List (Nat × Instr × Nat) := [(0, .iload_n 1, 1), (1, .bipush 33, 2), (3, .bipush 126, 2), (5, .invokestatic 58, 3), (8, .ifCond .ne 6, 3), (11, .bipush (-2), 2), (13, .ireturn, 1), (14, .aload_n 0, 1), (15, .getfield 29, 3), (18, .iload_n 1, 1), (19, .invokevirtual 97, 3), (22, .ifCond .eq 13, 3), (25, .aload_n 0, 1), (26, .getfield 29, 3), (29, .getfield 100, 3), (32, .goto 5, 3), (35, .bipush (-4), 2), (37, .ireturn, 1)]
set_option maxRecDepth 20000 in
theorem zX5_say_0 : tX5_say_0.all (fun x => decide (decode cX5_say x.1 = .ok x.2)) = true := by decide +kernel
def tX5_wipe_0 : List (Nat × Instr × Nat) := [(0, .aload_n 0, 1), (1, .getfield 29, 3), (4, .getfield 100, 3), (7, .istore_n 1, 1), (8, .aload_n 0, 1), (9, .getfield 29, 3), (12, .iconst 0, 1), (13, .putfield 100, 3), (16, .iload_n 1, 1), (17, .ireturn, 1)]
set_option maxRecDepth 20000 in
theorem zX5_wipe_0 : tX5_wipe_0.all (fun x => decide (decode cX5_wipe x.1 = .ok x.2)) = true := by decide +kernel
def tX5_fault_0 : List (Nat × Instr × Nat) := [(0, .aload_n 0, 1), (1, .getfield 29, 3), (4, .invokevirtual 103, 3), (7, .ireturn, 1)]
set_option maxRecDepth 20000 in
theorem zX5_fault_0 : tX5_fault_0.all (fun x => decide (decode cX5_fault x.1 = .ok x.2)) = true := by decide +kernel
def tX5_judge_0 : List (Nat × Instr × Nat) := [(0, .iload_n 1, 1), (1, .iconst 0, 1), (2, .iconst 2, 1), (3, .invokestatic 58, 3), (6, .ifCond .ne 6, 3), (9, .bipush (-2), 2), (11, .ireturn, 1), (12, .aload_n 0, 1), (13, .getfield 36, 3), (16, .aload_n 0, 1), (17, .getfield 29, 3), (20, .aload_n 0, 1), (21, .getfield 12, 3), (24, .invokevirtual 107, 3), (27, .istore_n 2, 1), (28, .iload_n 2, 1), (29, .bipush (-5), 2), (31, .if_icmp .eq 14, 3), (34, .iload_n 1, 1), (35, .iconst 2, 1), (36, .if_icmp .ne 11, 3), (39, .iload_n 2, 1), (40, .bipush (-3), 2), (42, .if_icmp .ne 5, 3), (45, .iload_n 2, 1), (46, .ireturn, 1), (47, .iload_n 1, 1), (48, .iconst 2, 1), (49, .if_icmp .ne 11, 3), (52, .aload_n 0, 1), (53, .getfield 36, 3), (56, .getfield 111, 3), (59, .ireturn, 1), (60, .iload_n 2, 1), (61, .bipush (-3), 2), (63, .if_icmp .eq 6, 3), (66, .bipush (-6), 2), (68, .ireturn, 1), (69, .iload_n 1, 1), (70, .ifCond .ne 13, 3), (73, .aload_n 0, 1), (74, .getfield 36, 3), (77, .getfield 114, 3), (80, .goto 10, 3), (83, .aload_n 0, 1), (84, .getfield 36, 3), (87, .getfield 117, 3), (90, .ireturn, 1)]
set_option maxRecDepth 20000 in
theorem zX5_judge_0 : tX5_judge_0.all (fun x => decide (decode cX5_judge x.1 = .ok x.2)) = true := by decide +kernel
def tX5_behind_0 : List (Nat × Instr × Nat) := [(0, .iload_n 1, 1), (1, .invokestatic 54, 3), (4, .ifCond .ne 5, 3), (7, .iconst (-1), 1), (8, .ireturn, 1), (9, .iload_n 2, 1), (10, .iconst 0, 1), (11, .iconst 4, 1), (12, .invokestatic 58, 3), (15, .ifCond .ne 6, 3), (18, .bipush (-2), 2), (20, .ireturn, 1), (21, .aload_n 0, 1), (22, .getfield 36, 3), (25, .aload_n 0, 1), (26, .getfield 29, 3), (29, .aload_n 0, 1), (30, .getfield 12, 3), (33, .invokevirtual 107, 3), (36, .istore_n 3, 1), (37, .iload_n 3, 1), (38, .ifCond .eq 7, 3), (41, .iload_n 3, 1), (42, .goto 15, 3), (45, .aload_n 0, 1), (46, .getfield 36, 3), (49, .getfield 120, 3), (52, .iload_n 1, 1), (53, .iload_n 2, 1), (54, .invokevirtual 121, 3), (57, .ireturn, 1)]
set_option maxRecDepth 20000 in
theorem zX5_behind_0 : tX5_behind_0.all (fun x => decide (decode cX5_behind x.1 = .ok x.2)) = true := by decide +kernel
def tX5_city_0 : List (Nat × Instr × Nat) := [(0, .iload_n 1, 1), (1, .iconst 0, 1), (2, .iconst 2, 1), (3, .invokestatic 58, 3), (6, .ifCond .ne 6, 3), (9, .bipush (-2), 2), (11, .ireturn, 1), (12, .aload_n 0, 1), (13, .getfield 36, 3), (16, .aload_n 0, 1), (17, .getfield 29, 3), (20, .aload_n 0, 1), (21, .getfield 12, 3), (24, .invokevirtual 107, 3), (27, .istore_n 2, 1), (28, .iload_n 2, 1), (29, .ifCond .eq 5, 3), (32, .iload_n 2, 1), (33, .ireturn, 1), (34, .iload_n 1, 1), (35, .ifCond .ne 14, 3), (38, .aload_n 0, 1), (39, .getfield 36, 3), (42, .getfield 120, 3), (45, .getfield 77, 3), (48, .ireturn, 1), (49, .iload_n 1, 1), (50, .iconst 1, 1), (51, .if_icmp .ne 16, 3), (54, .aload_n 0, 1), (55, .getfield 36, 3), (58, .getfield 120, 3), (61, .invokevirtual 124, 3), (64, .goto 10, 3), (67, .aload_n 0, 1), (68, .getfield 36, 3), (71, .getfield 127, 3), (74, .ireturn, 1)]
set_option maxRecDepth 20000 in
theorem zX5_city_0 : tX5_city_0.all (fun x => decide (decode cX5_city x.1 = .ok x.2)) = true := by decide +kernel
def tX5_taken_0 : List (Nat × Instr × Nat) := [(0, .iload_n 1, 1), (1, .invokestatic 70, 3), (4, .ifCond .ne 6, 3), (7, .bipush (-2), 2), (9, .ireturn, 1), (10, .aload_n 0, 1), (11, .getfield 36, 3), (14, .aload_n 0, 1), (15, .getfield 29, 3), (18, .aload_n 0, 1), (19, .getfield 12, 3), (22, .invokevirtual 107, 3), (25, .istore_n 2, 1), (26, .iload_n 2, 1), (27, .ifCond .eq 5, 3), (30, .iload_n 2, 1), (31, .ireturn, 1), (32, .iload_n 1, 1), (33, .ifCond .ne 13, 3), (36, .aload_n 0, 1), (37, .getfield 36, 3), (40, .getfield 130, 3), (43, .goto 10, 3), (46, .aload_n 0, 1), (47, .getfield 36, 3), (50, .getfield 133, 3), (53, .ireturn, 1)]
set_option maxRecDepth 20000 in
theorem zX5_taken_0 : tX5_taken_0.all (fun x => decide (decode cX5_taken x.1 = .ok x.2)) = true := by decide +kernel
def tX5_done_0 : List (Nat × Instr × Nat) := [(0, .aload_n 0, 1), (1, .getfield 36, 3), (4, .aload_n 0, 1), (5, .getfield 29, 3), (8, .aload_n 0, 1), (9, .getfield 12, 3), (12, .invokevirtual 107, 3), (15, .istore_n 1, 1), (16, .iload_n 1, 1), (17, .ifCond .eq 5, 3), (20, .iload_n 1, 1), (21, .ireturn, 1), (22, .aload_n 0, 1), (23, .getfield 12, 3), (26, .aload_n 0, 1), (27, .getfield 36, 3), (30, .getfield 120, 3), (33, .invokevirtual 136, 3), (36, .aload_n 0, 1), (37, .getfield 29, 3), (40, .iconst 0, 1), (41, .putfield 100, 3), (44, .aload_n 0, 1), (45, .getfield 36, 3), (48, .getfield 114, 3), (51, .ireturn, 1)]
set_option maxRecDepth 20000 in
theorem zX5_done_0 : tX5_done_0.all (fun x => decide (decode cX5_done x.1 = .ok x.2)) = true := by decide +kernel
def tX5_stays_0 : List (Nat × Instr × Nat) := [(0, .iload_n 1, 1), (1, .invokestatic 70, 3), (4, .ifCond .ne 6, 3), (7, .bipush (-2), 2), (9, .ireturn, 1), (10, .aload_n 0, 1), (11, .getfield 43, 3), (14, .aload_n 0, 1), (15, .getfield 12, 3), (18, .invokevirtual 140, 3), (21, .iload_n 1, 1), (22, .ifCond .ne 14, 3), (25, .aload_n 0, 1), (26, .getfield 43, 3), (29, .iconst 0, 1), (30, .invokevirtual 143, 3), (33, .goto 10, 3), (36, .aload_n 0, 1), (37, .getfield 43, 3), (40, .invokevirtual 146, 3), (43, .ireturn, 1)]
set_option maxRecDepth 20000 in
theorem zX5_stays_0 : tX5_stays_0.all (fun x => decide (decode cX5_stays x.1 = .ok x.2)) = true := by decide +kernel
def tX5_keep_0 : List (Nat × Instr × Nat) := [(0, .aload_n 0, 1), (1, .getfield 12, 3), (4, .iload_n 1, 1), (5, .invokevirtual 149, 3), (8, .ifCond .ne 5, 3), (11, .iconst (-1), 1), (12, .ireturn, 1), (13, .iload_n 2, 1), (14, .invokestatic 70, 3), (17, .ifCond .ne 6, 3), (20, .bipush (-2), 2), (22, .ireturn, 1), (23, .aload_n 0, 1), (24, .getfield 43, 3), (27, .aload_n 0, 1), (28, .getfield 12, 3), (31, .invokevirtual 140, 3), (34, .aload_n 0, 1), (35, .getfield 43, 3), (38, .iload_n 1, 1), (39, .invokevirtual 152, 3), (42, .istore_n 3, 1), (43, .iload_n 2, 1), (44, .iconst 1, 1), (45, .if_icmp .eq 9, 3), (48, .iload_n 3, 1), (49, .bipush (-6), 2), (51, .if_icmp .ne 7, 3), (54, .iload_n 3, 1), (55, .goto 7, 3), (58, .iload_n 3, 1), (59, .invokestatic 80, 3), (62, .ireturn, 1)]
set_option maxRecDepth 20000 in
theorem zX5_keep_0 : tX5_keep_0.all (fun x => decide (decode cX5_keep x.1 = .ok x.2)) = true := by decide +kernel
def tX5_loose_0 : List (Nat × Instr × Nat) := [(0, .aload_n 0, 1), (1, .getfield 12, 3), (4, .iload_n 1, 1), (5, .invokevirtual 149, 3), (8, .ifCond .ne 5, 3), (11, .iconst (-1), 1), (12, .ireturn, 1), (13, .iload_n 2, 1), (14, .invokestatic 70, 3), (17, .ifCond .ne 6, 3), (20, .bipush (-2), 2), (22, .ireturn, 1), (23, .aload_n 0, 1), (24, .getfield 12, 3), (27, .iload_n 1, 1), (28, .invokevirtual 155, 3), (31, .aload_n 0, 1), (32, .getfield 12, 3), (35, .getfield 77, 3), (38, .iand, 1), (39, .istore_n 3, 1), (40, .iconst 0, 1), (41, .iload_n 3, 1), (42, .invokestatic 80, 3), (45, .aload_n 0, 1), (46, .getfield 12, 3), (49, .iload_n 1, 1), (50, .invokevirtual 158, 3), (53, .isub, 1), (54, .iconst 1, 1), (55, .iadd, 1), (56, .invokestatic 161, 3), (59, .istore 4, 2), (61, .iload 4, 2), (63, .iload_n 3, 1), (64, .invokestatic 80, 3), (67, .if_icmp .le 6, 3), (70, .bipush (-6), 2), (72, .ireturn, 1), (73, .iload_n 2, 1), (74, .ifCond .ne 8, 3), (77, .iload 4, 2), (79, .goto 9, 3), (82, .iload_n 3, 1), (83, .iload 4, 2), (85, .invokestatic 166, 3), (88, .ireturn, 1)]
set_option maxRecDepth 20000 in
theorem zX5_loose_0 : tX5_loose_0.all (fun x => decide (decode cX5_loose x.1 = .ok x.2)) = true := by decide +kernel
def tX5_seats_0 : List (Nat × Instr × Nat) := [(0, .iload_n 1, 1), (1, .iconst 0, 1), (2, .bipush 9, 2), (4, .invokestatic 58, 3), (7, .ifCond .eq 10, 3), (10, .iload_n 2, 1), (11, .invokestatic 70, 3), (14, .ifCond .ne 6, 3), (17, .bipush (-2), 2), (19, .ireturn, 1), (20, .aload_n 0, 1), (21, .getfield 43, 3), (24, .aload_n 0, 1), (25, .getfield 12, 3), (28, .iload_n 1, 1), (29, .invokevirtual 169, 3), (32, .istore_n 3, 1), (33, .iload_n 2, 1), (34, .ifCond .ne 10, 3), (37, .iload_n 3, 1), (38, .invokestatic 80, 3), (41, .goto 4, 3), (44, .iload_n 3, 1), (45, .ireturn, 1)]
set_option maxRecDepth 20000 in
theorem zX5_seats_0 : tX5_seats_0.all (fun x => decide (decode cX5_seats x.1 = .ok x.2)) = true := by decide +kernel
def tX5_calls_0 : List (Nat × Instr × Nat) := [(0, .iload_n 1, 1), (1, .iconst 0, 1), (2, .ldc 173, 2), (4, .invokestatic 58, 3), (7, .ifCond .eq 10, 3), (10, .iload_n 2, 1), (11, .invokestatic 70, 3), (14, .ifCond .ne 7, 3), (17, .ldc2_w 174, 3), (20, .lreturn, 1), (21, .lconst 0, 1), (22, .lstore_n 3, 1), (23, .lconst 1, 1), (24, .lstore 5, 2), (26, .iconst 0, 1), (27, .istore 7, 2), (29, .iconst 0, 1), (30, .istore 8, 2), (32, .iload 8, 2), (34, .bipush 6, 2), (36, .if_icmp .ge 50, 3), (39, .lload_n 3, 1), (40, .ldc2_w 176, 3), (43, .lmul, 1), (44, .lload 5, 2), (46, .ladd, 1), (47, .lstore_n 3, 1), (48, .iload_n 1, 1), (49, .iload 7, 2), (51, .invokestatic 178, 3), (54, .istore 9, 2), (56, .lload 5, 2), (58, .bipush 10, 2), (60, .iload_n 1, 1), (61, .iload 9, 2), (63, .invokestatic 181, 3), (66, .isub, 1), (67, .i2l, 1), (68, .lmul, 1), (69, .lstore 5, 2), (71, .iload 7, 2), (73, .iconst 1, 1), (74, .iload 9, 2), (76, .ishl, 1), (77, .ior, 1), (78, .istore 7, 2), (80, .iinc 8 1, 3), (83, .goto (-51), 3), (86, .lload_n 3, 1), (87, .ldc2_w 184, 3), (90, .iload_n 2, 1), (91, .invokestatic 186, 3), (94, .lreturn, 1)]
set_option maxRecDepth 20000 in
theorem zX5_calls_0 : tX5_calls_0.all (fun x => decide (decode cX5_calls x.1 = .ok x.2)) = true := by decide +kernel
def tX5_order_0 : List (Nat × Instr × Nat) := [(0, .iload_n 1, 1), (1, .iconst 0, 1), (2, .ldc 173, 2), (4, .invokestatic 58, 3), (7, .ifCond .ne 6, 3), (10, .bipush (-2), 2), (12, .ireturn, 1), (13, .iconst 0, 1), (14, .istore_n 2, 1), (15, .iconst 0, 1), (16, .istore_n 3, 1), (17, .iconst 0, 1), (18, .istore 4, 2), (20, .iload 4, 2), (22, .bipush 6, 2), (24, .if_icmp .ge 31, 3), (27, .iload_n 1, 1), (28, .iload_n 3, 1), (29, .invokestatic 178, 3), (32, .istore 5, 2), (34, .iload_n 2, 1), (35, .bipush 10, 2), (37, .imul, 1), (38, .iload 5, 2), (40, .iadd, 1), (41, .istore_n 2, 1), (42, .iload_n 3, 1), (43, .iconst 1, 1), (44, .iload 5, 2), (46, .ishl, 1), (47, .ior, 1), (48, .istore_n 3, 1), (49, .iinc 4 1, 3), (52, .goto (-32), 3), (55, .iload_n 2, 1), (56, .ireturn, 1)]
set_option maxRecDepth 20000 in
theorem zX5_order_0 : tX5_order_0.all (fun x => decide (decode cX5_order x.1 = .ok x.2)) = true := by decide +kernel
def tX5_rung_0 : List (Nat × Instr × Nat) := [(0, .iload_n 1, 1), (1, .invokestatic 54, 3), (4, .ifCond .ne 5, 3), (7, .iconst (-1), 1), (8, .ireturn, 1), (9, .aload_n 0, 1), (10, .getfield 12, 3), (13, .iload_n 1, 1), (14, .iload_n 2, 1), (15, .invokevirtual 190, 3), (18, .ifCond .eq 13, 3), (21, .aload_n 0, 1), (22, .getfield 12, 3), (25, .getfield 194, 3), (28, .goto 5, 3), (31, .bipush (-4), 2), (33, .ireturn, 1)]
set_option maxRecDepth 20000 in
theorem zX5_rung_0 : tX5_rung_0.all (fun x => decide (decode cX5_rung x.1 = .ok x.2)) = true := by decide +kernel
def tX5_forget_0 : List (Nat × Instr × Nat) := [(0, .aload_n 0, 1), (1, .getfield 12, 3), (4, .getfield 194, 3), (7, .istore_n 1, 1), (8, .aload_n 0, 1), (9, .getfield 12, 3), (12, .invokevirtual 197, 3), (15, .iload_n 1, 1), (16, .ireturn, 1)]
set_option maxRecDepth 20000 in
theorem zX5_forget_0 : tX5_forget_0.all (fun x => decide (decode cX5_forget x.1 = .ok x.2)) = true := by decide +kernel
def tX5_who_0 : List (Nat × Instr × Nat) := [(0, .aload_n 0, 1), (1, .getfield 12, 3), (4, .invokevirtual 200, 3), (7, .ireturn, 1)]
set_option maxRecDepth 20000 in
theorem zX5_who_0 : tX5_who_0.all (fun x => decide (decode cX5_who x.1 = .ok x.2)) = true := by decide +kernel
def tX5_ring_0 : List (Nat × Instr × Nat) := [(0, .iload_n 1, 1), (1, .invokestatic 70, 3), (4, .ifCond .ne 6, 3), (7, .bipush (-2), 2), (9, .ireturn, 1), (10, .aload_n 0, 1), (11, .getfield 12, 3), (14, .invokevirtual 200, 3), (17, .istore_n 2, 1), (18, .iload_n 2, 1), (19, .ifCond .ne 6, 3), (22, .bipush (-6), 2), (24, .ireturn, 1), (25, .iconst 0, 1), (26, .istore_n 3, 1), (27, .iconst 1, 1), (28, .istore 4, 2), (30, .iload 4, 2), (32, .bipush 10, 2), (34, .if_icmp .ge 34, 3), (37, .aload_n 0, 1), (38, .getfield 12, 3), (41, .iload 4, 2), (43, .iload_n 2, 1), (44, .invokevirtual 203, 3), (47, .aload_n 0, 1), (48, .getfield 12, 3), (51, .iload_n 3, 1), (52, .iload_n 2, 1), (53, .invokevirtual 203, 3), (56, .if_icmp .ge 6, 3), (59, .iload 4, 2), (61, .istore_n 3, 1), (62, .iinc 4 1, 3), (65, .goto (-35), 3), (68, .iload_n 1, 1), (69, .ifCond .ne 7, 3), (72, .iload_n 3, 1), (73, .goto 12, 3), (76, .aload_n 0, 1), (77, .getfield 12, 3), (80, .iload_n 3, 1), (81, .iload_n 2, 1), (82, .invokevirtual 203, 3), (85, .ireturn, 1)]
set_option maxRecDepth 20000 in
theorem zX5_ring_0 : tX5_ring_0.all (fun x => decide (decode cX5_ring x.1 = .ok x.2)) = true := by decide +kernel
def tX5_answers_0 : List (Nat × Instr × Nat) := [(0, .iload_n 1, 1), (1, .iconst 0, 1), (2, .bipush 10, 2), (4, .invokestatic 58, 3), (7, .ifCond .eq 28, 3), (10, .iload_n 2, 1), (11, .iconst 0, 1), (12, .bipush 10, 2), (14, .invokestatic 58, 3), (17, .ifCond .eq 18, 3), (20, .iload_n 3, 1), (21, .invokestatic 70, 3), (24, .ifCond .eq 11, 3), (27, .iload 4, 2), (29, .invokestatic 70, 3), (32, .ifCond .ne 7, 3), (35, .ldc2_w 174, 3), (38, .lreturn, 1), (39, .aload_n 0, 1), (40, .getfield 50, 3), (43, .iload_n 1, 1), (44, .iload_n 2, 1), (45, .aload_n 0, 1), (46, .getfield 12, 3), (49, .iconst 0, 1), (50, .invokevirtual 90, 3), (53, .invokevirtual 206, 3), (56, .iload_n 3, 1), (57, .ifCond .ne 13, 3), (60, .aload_n 0, 1), (61, .getfield 50, 3), (64, .getfield 210, 3), (67, .goto 10, 3), (70, .aload_n 0, 1), (71, .getfield 50, 3), (74, .getfield 214, 3), (77, .aload_n 0, 1), (78, .getfield 50, 3), (81, .getfield 217, 3), (84, .iload 4, 2), (86, .invokestatic 186, 3), (89, .lreturn, 1)]
set_option maxRecDepth 20000 in
theorem zX5_answers_0 : tX5_answers_0.all (fun x => decide (decode cX5_answers x.1 = .ok x.2)) = true := by decide +kernel
def tX5_number_0 : List (Nat × Instr × Nat) := [(0, .iload_n 1, 1), (1, .iconst 0, 1), (2, .sipush 999, 3), (5, .invokestatic 58, 3), (8, .ifCond .eq 10, 3), (11, .iload_n 2, 1), (12, .invokestatic 70, 3), (15, .ifCond .ne 6, 3), (18, .bipush (-2), 2), (20, .ireturn, 1), (21, .iload_n 1, 1), (22, .bipush 10, 2), (24, .irem, 1), (25, .istore_n 3, 1), (26, .iload_n 2, 1), (27, .ifCond .ne 13, 3), (30, .iload_n 3, 1), (31, .ifCond .ne 7, 3), (34, .iconst 0, 1), (35, .goto 4, 3), (38, .iconst 1, 1), (39, .ireturn, 1), (40, .iload_n 3, 1), (41, .ifCond .ne 8, 3), (44, .bipush (-6), 2), (46, .goto 4, 3), (49, .iload_n 3, 1), (50, .ireturn, 1)]
set_option maxRecDepth 20000 in
theorem zX5_number_0 : tX5_number_0.all (fun x => decide (decode cX5_number x.1 = .ok x.2)) = true := by decide +kernel
def tX5_year_0 : List (Nat × Instr × Nat) := [(0, .iload_n 1, 1), (1, .iconst 0, 1), (2, .sipush 9999, 3), (5, .invokestatic 58, 3), (8, .ifCond .eq 22, 3), (11, .iload_n 2, 1), (12, .iconst 1, 1), (13, .bipush 99, 2), (15, .invokestatic 58, 3), (18, .ifCond .eq 12, 3), (21, .iload_n 3, 1), (22, .iconst 0, 1), (23, .iconst 2, 1), (24, .invokestatic 58, 3), (27, .ifCond .ne 6, 3), (30, .bipush (-2), 2), (32, .ireturn, 1), (33, .aload_n 0, 1), (34, .getfield 36, 3), (37, .aload_n 0, 1), (38, .getfield 12, 3), (41, .invokevirtual 220, 3), (44, .iload_n 1, 1), (45, .istore 4, 2), (47, .iconst 0, 1), (48, .istore 5, 2), (50, .iload 5, 2), (52, .iload_n 2, 1), (53, .if_icmp .ge 54, 3), (56, .bipush 75, 2), (58, .iload 4, 2), (60, .imul, 1), (61, .bipush 74, 2), (63, .iadd, 1), (64, .ldc 223, 2), (66, .irem, 1), (67, .istore 4, 2), (69, .aload_n 0, 1), (70, .getfield 36, 3), (73, .iload 4, 2), (75, .bipush 100, 2), (77, .idiv, 1), (78, .bipush 8, 2), (80, .irem, 1), (81, .invokestatic 224, 3), (84, .iload 4, 2), (86, .bipush 10, 2), (88, .irem, 1), (89, .iload 4, 2), (91, .bipush 10, 2), (93, .idiv, 1), (94, .bipush 10, 2), (96, .irem, 1), (97, .invokevirtual 227, 3), (100, .pop, 1), (101, .iinc 5 1, 3), (104, .goto (-54), 3), (107, .iload_n 3, 1), (108, .ifCond .ne 17, 3), (111, .aload_n 0, 1), (112, .getfield 36, 3), (115, .getfield 120, 3), (118, .getfield 77, 3), (121, .invokestatic 80, 3), (124, .ireturn, 1), (125, .iload_n 3, 1), (126, .iconst 1, 1), (127, .if_icmp .ne 16, 3), (130, .aload_n 0, 1), (131, .getfield 36, 3), (134, .getfield 120, 3), (137, .invokevirtual 231, 3), (140, .goto 10, 3), (143, .aload_n 0, 1), (144, .getfield 36, 3), (147, .getfield 127, 3), (150, .ireturn, 1)]
set_option maxRecDepth 20000 in
theorem zX5_year_0 : tX5_year_0.all (fun x => decide (decode cX5_year x.1 = .ok x.2)) = true := by decide +kernel
def tX5_image_0 : List (Nat × Instr × Nat) := [(0, .iload_n 1, 1), (1, .invokestatic 70, 3), (4, .ifCond .ne 6, 3), (7, .bipush (-2), 2), (9, .ireturn, 1), (10, .aload_n 0, 1), (11, .iload_n 1, 1), (12, .invokevirtual 234, 3), (15, .aload_n 0, 1), (16, .getfield 12, 3), (19, .invokevirtual 136, 3), (22, .aload_n 0, 1), (23, .dup, 1), (24, .getfield 22, 3), (27, .iconst 1, 1), (28, .iload_n 1, 1), (29, .ishl, 1), (30, .ior, 1), (31, .putfield 22, 3), (34, .iconst 1, 1), (35, .ireturn, 1)]
set_option maxRecDepth 20000 in
theorem zX5_image_0 : tX5_image_0.all (fun x => decide (decode cX5_image x.1 = .ok x.2)) = true := by decide +kernel
def tX5_restore_0 : List (Nat × Instr × Nat) := [(0, .iload_n 1, 1), (1, .invokestatic 70, 3), (4, .ifCond .ne 6, 3), (7, .bipush (-2), 2), (9, .ireturn, 1), (10, .aload_n 0, 1), (11, .getfield 22, 3), (14, .iload_n 1, 1), (15, .invokestatic 238, 3), (18, .ifCond .ne 6, 3), (21, .bipush (-3), 2), (23, .ireturn, 1), (24, .aload_n 0, 1), (25, .getfield 12, 3), (28, .aload_n 0, 1), (29, .iload_n 1, 1), (30, .invokevirtual 234, 3), (33, .invokevirtual 136, 3), (36, .iconst 1, 1), (37, .ireturn, 1)]
set_option maxRecDepth 20000 in
theorem zX5_restore_0 : tX5_restore_0.all (fun x => decide (decode cX5_restore x.1 = .ok x.2)) = true := by decide +kernel
def tX5_told_0 : List (Nat × Instr × Nat) := [(0, .iload_n 1, 1), (1, .bipush 10, 2), (3, .bipush 13, 2), (5, .invokestatic 58, 3), (8, .ifCond .eq 15, 3), (11, .aload_n 0, 1), (12, .getfield 12, 3), (15, .iload_n 1, 1), (16, .bipush 10, 2), (18, .isub, 1), (19, .invokevirtual 90, 3), (22, .ireturn, 1), (23, .iload_n 1, 1), (24, .bipush 100, 2), (26, .sipush 199, 3), (29, .invokestatic 58, 3), (32, .ifCond .eq 22, 3), (35, .aload_n 0, 1), (36, .getfield 12, 3), (39, .iload_n 1, 1), (40, .bipush 10, 2), (42, .idiv, 1), (43, .bipush 10, 2), (45, .irem, 1), (46, .iload_n 1, 1), (47, .bipush 10, 2), (49, .irem, 1), (50, .invokevirtual 62, 3), (53, .ireturn, 1), (54, .iload_n 1, 1), (55, .sipush 200, 3), (58, .sipush 299, 3), (61, .invokestatic 58, 3), (64, .ifCond .eq 22, 3), (67, .aload_n 0, 1), (68, .getfield 12, 3), (71, .iload_n 1, 1), (72, .bipush 10, 2), (74, .idiv, 1), (75, .bipush 10, 2), (77, .irem, 1), (78, .iload_n 1, 1), (79, .bipush 10, 2), (81, .irem, 1), (82, .invokevirtual 241, 3), (85, .ireturn, 1), (86, .iload_n 1, 1), (87, .tableswitch 85 0 5 #[37, 45, 53, 61, 69, 77], 37), (124, .aload_n 0, 1), (125, .getfield 29, 3), (128, .getfield 100, 3), (131, .ireturn, 1), (132, .aload_n 0, 1), (133, .getfield 12, 3), (136, .getfield 77, 3), (139, .ireturn, 1), (140, .aload_n 0, 1), (141, .getfield 12, 3), (144, .getfield 244, 3), (147, .ireturn, 1), (148, .aload_n 0, 1), (149, .getfield 12, 3), (152, .getfield 247, 3), (155, .ireturn, 1), (156, .aload_n 0, 1), (157, .getfield 12, 3), (160, .invokevirtual 124, 3), (163, .ireturn, 1), (164, .aload_n 0, 1), (165, .getfield 12, 3), (168, .getfield 194, 3), (171, .ireturn, 1), (172, .bipush (-2), 2), (174, .ireturn, 1)]
set_option maxRecDepth 20000 in
theorem zX5_told_0 : tX5_told_0.all (fun x => decide (decode cX5_told x.1 = .ok x.2)) = true := by decide +kernel
def tX5_imageOf_0 : List (Nat × Instr × Nat) := [(0, .iload_n 1, 1), (1, .ifCond .ne 10, 3), (4, .aload_n 0, 1), (5, .getfield 16, 3), (8, .goto 7, 3), (11, .aload_n 0, 1), (12, .getfield 19, 3), (15, .areturn, 1)]
set_option maxRecDepth 20000 in
theorem zX5_imageOf_0 : tX5_imageOf_0.all (fun x => decide (decode cX5_imageOf x.1 = .ok x.2)) = true := by decide +kernel
def tX5_isWithin_0 : List (Nat × Instr × Nat) := [(0, .iload_n 0, 1), (1, .iload_n 1, 1), (2, .if_icmp .lt 12, 3), (5, .iload_n 0, 1), (6, .iload_n 2, 1), (7, .if_icmp .gt 7, 3), (10, .iconst 1, 1), (11, .goto 4, 3), (14, .iconst 0, 1), (15, .ireturn, 1)]
set_option maxRecDepth 20000 in
theorem zX5_isWithin_0 : tX5_isWithin_0.all (fun x => decide (decode cX5_isWithin x.1 = .ok x.2)) = true := by decide +kernel
def tX5_isFlag_0 : List (Nat × Instr × Nat) := [(0, .iload_n 0, 1), (1, .ifCond .eq 8, 3), (4, .iload_n 0, 1), (5, .iconst 1, 1), (6, .if_icmp .ne 7, 3), (9, .iconst 1, 1), (10, .goto 4, 3), (13, .iconst 0, 1), (14, .ireturn, 1)]
set_option maxRecDepth 20000 in
theorem zX5_isFlag_0 : tX5_isFlag_0.all (fun x => decide (decode cX5_isFlag x.1 = .ok x.2)) = true := by decide +kernel
def tX5_isOne_0 : List (Nat × Instr × Nat) := [(0, .iload_n 0, 1), (1, .ifCond .lt 13, 3), (4, .iload_n 0, 1), (5, .bipush 10, 2), (7, .if_icmp .ge 7, 3), (10, .iconst 1, 1), (11, .goto 4, 3), (14, .iconst 0, 1), (15, .ireturn, 1)]
set_option maxRecDepth 20000 in
theorem zX5_isOne_0 : tX5_isOne_0.all (fun x => decide (decode cX5_isOne x.1 = .ok x.2)) = true := by decide +kernel
def tX5_isLetter_0 : List (Nat × Instr × Nat) := [(0, .iload_n 0, 1), (1, .bipush 65, 2), (3, .isub, 1), (4, .invokestatic 54, 3), (7, .ireturn, 1)]
set_option maxRecDepth 20000 in
theorem zX5_isLetter_0 : tX5_isLetter_0.all (fun x => decide (decode cX5_isLetter x.1 = .ok x.2)) = true := by decide +kernel
def tX5_isLawful_0 : List (Nat × Instr × Nat) := [(0, .iload_n 0, 1), (1, .ifCond .eq 8, 3), (4, .iload_n 0, 1), (5, .iconst 1, 1), (6, .if_icmp .ne 13, 3), (9, .iload_n 1, 1), (10, .iconst 1, 1), (11, .bipush 9, 2), (13, .invokestatic 58, 3), (16, .goto 7, 3), (19, .iload_n 1, 1), (20, .invokestatic 70, 3), (23, .ireturn, 1)]
set_option maxRecDepth 20000 in
theorem zX5_isLawful_0 : tX5_isLawful_0.all (fun x => decide (decode cX5_isLawful x.1 = .ok x.2)) = true := by decide +kernel
def tX5_holds_0 : List (Nat × Instr × Nat) := [(0, .iload_n 0, 1), (1, .iload_n 1, 1), (2, .ishr, 1), (3, .iconst 1, 1), (4, .iand, 1), (5, .iconst 1, 1), (6, .if_icmp .ne 7, 3), (9, .iconst 1, 1), (10, .goto 4, 3), (13, .iconst 0, 1), (14, .ireturn, 1)]
set_option maxRecDepth 20000 in
theorem zX5_holds_0 : tX5_holds_0.all (fun x => decide (decode cX5_holds x.1 = .ok x.2)) = true := by decide +kernel
def tX5_leastOf_0 : List (Nat × Instr × Nat) := [(0, .iconst 0, 1), (1, .istore_n 2, 1), (2, .iload_n 1, 1), (3, .istore_n 3, 1), (4, .iconst 0, 1), (5, .istore 4, 2), (7, .iload 4, 2), (9, .bipush 10, 2), (11, .if_icmp .ge 32, 3), (14, .iload_n 3, 1), (15, .ifCond .le 28, 3), (18, .iload_n 0, 1), (19, .iload 4, 2), (21, .invokestatic 238, 3), (24, .ifCond .eq 13, 3), (27, .iload_n 2, 1), (28, .iconst 1, 1), (29, .iload 4, 2), (31, .ishl, 1), (32, .ior, 1), (33, .istore_n 2, 1), (34, .iinc 3 (-1), 3), (37, .iinc 4 1, 3), (40, .goto (-33), 3), (43, .iload_n 2, 1), (44, .ireturn, 1)]
set_option maxRecDepth 20000 in
theorem zX5_leastOf_0 : tX5_leastOf_0.all (fun x => decide (decode cX5_leastOf x.1 = .ok x.2)) = true := by decide +kernel
def tX5_leastOne_0 : List (Nat × Instr × Nat) := [(0, .iconst 0, 1), (1, .istore_n 1, 1), (2, .iload_n 1, 1), (3, .bipush 10, 2), (5, .if_icmp .ge 19, 3), (8, .iload_n 0, 1), (9, .iload_n 1, 1), (10, .invokestatic 238, 3), (13, .ifCond .eq 5, 3), (16, .iload_n 1, 1), (17, .ireturn, 1), (18, .iinc 1 1, 3), (21, .goto (-19), 3), (24, .bipush (-6), 2), (26, .ireturn, 1)]
set_option maxRecDepth 20000 in
theorem zX5_leastOne_0 : tX5_leastOne_0.all (fun x => decide (decode cX5_leastOne x.1 = .ok x.2)) = true := by decide +kernel
def tX5_digit_0 : List (Nat × Instr × Nat) := [(0, .iload_n 1, 1), (1, .ifCond .lt 24, 3), (4, .iload_n 1, 1), (5, .getstatic 250, 3), (8, .arraylength, 1), (9, .if_icmp .ge 16, 3), (12, .iload_n 0, 1), (13, .getstatic 250, 3), (16, .iload_n 1, 1), (17, .iaload, 1), (18, .idiv, 1), (19, .bipush 10, 2), (21, .irem, 1), (22, .goto 4, 3), (25, .iconst 0, 1), (26, .ireturn, 1)]
set_option maxRecDepth 20000 in
theorem zX5_digit_0 : tX5_digit_0.all (fun x => decide (decode cX5_digit x.1 = .ok x.2)) = true := by decide +kernel
def tX5_likeliest_0 : List (Nat × Instr × Nat) := [(0, .bipush 6, 2), (2, .istore_n 2, 1), (3, .iconst 0, 1), (4, .istore_n 3, 1), (5, .iload_n 3, 1), (6, .bipush 6, 2), (8, .if_icmp .ge 50, 3), (11, .iload_n 2, 1), (12, .bipush 6, 2), (14, .if_icmp .eq 16, 3), (17, .iload_n 0, 1), (18, .iload_n 3, 1), (19, .invokestatic 181, 3), (22, .iload_n 0, 1), (23, .iload_n 2, 1), (24, .invokestatic 181, 3), (27, .if_icmp .le 7, 3), (30, .iconst 1, 1), (31, .goto 4, 3), (34, .iconst 0, 1), (35, .istore 4, 2), (37, .iload_n 1, 1), (38, .iload_n 3, 1), (39, .invokestatic 238, 3), (42, .ifCond .ne 10, 3), (45, .iload 4, 2), (47, .ifCond .eq 5, 3), (50, .iload_n 3, 1), (51, .istore_n 2, 1), (52, .iinc 3 1, 3), (55, .goto (-50), 3), (58, .iload_n 2, 1), (59, .ireturn, 1)]
set_option maxRecDepth 20000 in
theorem zX5_likeliest_0 : tX5_likeliest_0.all (fun x => decide (decode cX5_likeliest x.1 = .ok x.2)) = true := by decide +kernel
def tX5_drawnDeed_0 : List (Nat × Instr × Nat) := [(0, .iload_n 0, 1), (1, .ifCond .lt 19, 3), (4, .iload_n 0, 1), (5, .getstatic 254, 3), (8, .arraylength, 1), (9, .if_icmp .ge 11, 3), (12, .getstatic 254, 3), (15, .iload_n 0, 1), (16, .iaload, 1), (17, .goto 5, 3), (20, .bipush 126, 2), (22, .ireturn, 1)]
set_option maxRecDepth 20000 in
theorem zX5_drawnDeed_0 : tX5_drawnDeed_0.all (fun x => decide (decode cX5_drawnDeed x.1 = .ok x.2)) = true := by decide +kernel
def tX5_partOf_0 : List (Nat × Instr × Nat) := [(0, .lload_n 0, 1), (1, .lload_n 2, 1), (2, .invokestatic 257, 3), (5, .lstore 5, 2), (7, .lload 5, 2), (9, .lconst 0, 1), (10, .lcmp, 1), (11, .ifCond .ne 14, 3), (14, .iload 4, 2), (16, .ifCond .ne 7, 3), (19, .lload_n 0, 1), (20, .goto 4, 3), (23, .lload_n 2, 1), (24, .lreturn, 1), (25, .iload 4, 2), (27, .ifCond .ne 7, 3), (30, .lload_n 0, 1), (31, .goto 4, 3), (34, .lload_n 2, 1), (35, .lload 5, 2), (37, .ldiv, 1), (38, .lreturn, 1)]
set_option maxRecDepth 20000 in
theorem zX5_partOf_0 : tX5_partOf_0.all (fun x => decide (decode cX5_partOf x.1 = .ok x.2)) = true := by decide +kernel
def tX5_commonDivisor_0 : List (Nat × Instr × Nat) := [(0, .lload_n 0, 1), (1, .lstore 4, 2), (3, .lload_n 2, 1), (4, .lstore 6, 2), (6, .iconst 0, 1), (7, .istore 8, 2), (9, .iload 8, 2), (11, .sipush 200, 3), (14, .if_icmp .ge 31, 3), (17, .lload 6, 2), (19, .lconst 0, 1), (20, .lcmp, 1), (21, .ifCond .eq 24, 3), (24, .lload 4, 2), (26, .lload 6, 2), (28, .lrem, 1), (29, .lstore 9, 2), (31, .lload 6, 2), (33, .lstore 4, 2), (35, .lload 9, 2), (37, .lstore 6, 2), (39, .iinc 8 1, 3), (42, .goto (-33), 3), (45, .lload 4, 2), (47, .lreturn, 1)]
set_option maxRecDepth 20000 in
theorem zX5_commonDivisor_0 : tX5_commonDivisor_0.all (fun x => decide (decode cX5_commonDivisor x.1 = .ok x.2)) = true := by decide +kernel
def tX6_init_0 : List (Nat × Instr × Nat) := [(0, .aload_n 0, 1), (1, .invokespecial 1, 3), (4, .aload_n 0, 1), (5, .bipush 100, 2), (7, .newarray .int, 2), (9, .putfield 7, 3), (12, .aload_n 0, 1), (13, .bipush 100, 2), (15, .newarray .int, 2), (17, .putfield 13, 3), (20, .aload_n 0, 1), (21, .iconst 4, 1), (22, .newarray .int, 2), (24, .putfield 16, 3), (27, .aload_n 0, 1), (28, .bipush 8, 2), (30, .newarray .int, 2), (32, .putfield 19, 3), (35, .aload_n 0, 1), (36, .bipush 8, 2), (38, .newarray .int, 2), (40, .putfield 22, 3), (43, .aload_n 0, 1), (44, .bipush 60, 2), (46, .newarray .int, 2), (48, .putfield 25, 3), (51, .aload_n 0, 1), (52, .bipush 60, 2), (54, .newarray .int, 2), (56, .putfield 28, 3), (59, .aload_n 0, 1), (60, .bipush 60, 2), (62, .newarray .int, 2), (64, .putfield 31, 3), (67, .aload_n 0, 1), (68, .bipush 60, 2), (70, .newarray .int, 2), (72, .putfield 34, 3), (75, .aload_n 0, 1), (76, .sipush 203, 3), (79, .newarray .int, 2), (81, .putfield 37, 3), (84, .aload_n 0, 1), (85, .bipush 6, 2), (87, .newarray .int, 2), (89, .putfield 40, 3), (92, .aload_n 0, 1), (93, .bipush 6, 2), (95, .newarray .int, 2), (97, .putfield 43, 3), (100, .aload_n 0, 1), (101, .bipush 10, 2), (103, .newarray .long, 2), (105, .putfield 46, 3), (108, .aload_n 0, 1), (109, .sipush 1000, 3), (112, .newarray .int, 2), (114, .putfield 50, 3), (117, .aload_n 0, 1), (118, .sipush 480, 3), (121, .newarray .int, 2), (123, .putfield 53, 3), (126, .aload_n 0, 1), (127, .iconst 2, 1), (128, .newarray .boolean, 2), (130, .putfield 56, 3), (133, .aload_n 0, 1), (134, .sipush 1023, 3), (137, .putfield 60, 3), (140, .iconst 0, 1), (141, .istore_n 1, 1), (142, .iload_n 1, 1), (143, .bipush 100, 2), (145, .if_icmp .ge 16, 3), (148, .aload_n 0, 1), (149, .getfield 13, 3), (152, .iload_n 1, 1), (153, .iconst 2, 1), (154, .iastore, 1), (155, .iinc 1 1, 3), (158, .goto (-16), 3), (161, .iconst 0, 1), (162, .istore_n 1, 1), (163, .iload_n 1, 1), (164, .iconst 4, 1), (165, .if_icmp .ge 16, 3), (168, .aload_n 0, 1), (169, .getfield 16, 3), (172, .iload_n 1, 1), (173, .iconst 1, 1), (174, .iastore, 1), (175, .iinc 1 1, 3), (178, .goto (-15), 3), (181, .return_, 1)]
set_option maxRecDepth 20000 in
theorem zX6_init_0 : tX6_init_0.all (fun x => decide (decode cX6_init x.1 = .ok x.2)) = true := by decide +kernel
def tX6_in_0 : List (Nat × Instr × Nat) := [(0, .lload_n 0, 1), (1, .lload_n 2, 1), (2, .lcmp, 1), (3, .ifCond .lt 14, 3), (6, .lload_n 0, 1), (7, .lload 4, 2), (9, .lcmp, 1), (10, .ifCond .gt 7, 3), (13, .iconst 1, 1), (14, .goto 4, 3), (17, .iconst 0, 1), (18, .ireturn, 1)]
set_option maxRecDepth 20000 in
theorem zX6_in_0 : tX6_in_0.all (fun x => decide (decode cX6_in x.1 = .ok x.2)) = true := by decide +kernel
def tX6_ones_0 : List (Nat × Instr × Nat) := [(0, .iconst 0, 1), (1, .istore_n 1, 1), (2, .iload_n 0, 1), (3, .istore_n 2, 1), (4, .iload_n 2, 1), (5, .ifCond .eq 15, 3), (8, .iinc 1 1, 3), (11, .iload_n 2, 1), (12, .iload_n 2, 1), (13, .iconst 1, 1), (14, .isub, 1), (15, .iand, 1), (16, .istore_n 2, 1), (17, .goto (-13), 3), (20, .iload_n 1, 1), (21, .ireturn, 1)]
set_option maxRecDepth 20000 in
theorem zX6_ones_0 : tX6_ones_0.all (fun x => decide (decode cX6_ones x.1 = .ok x.2)) = true := by decide +kernel
def tX6_isOne_0 : List (Nat × Instr × Nat) := [(0, .iload_n 0, 1), (1, .i2l, 1), (2, .lconst 0, 1), (3, .ldc2_w 64, 3), (6, .invokestatic 66, 3), (9, .ireturn, 1)]
set_option maxRecDepth 20000 in
theorem zX6_isOne_0 : tX6_isOne_0.all (fun x => decide (decode cX6_isOne x.1 = .ok x.2)) = true := by decide +kernel
def tX6_has_0 : List (Nat × Instr × Nat) := [(0, .iload_n 0, 1), (1, .iload_n 1, 1), (2, .ishr, 1), (3, .iconst 1, 1), (4, .iand, 1), (5, .iconst 1, 1), (6, .if_icmp .ne 7, 3), (9, .iconst 1, 1), (10, .goto 4, 3), (13, .iconst 0, 1), (14, .ireturn, 1)]
set_option maxRecDepth 20000 in
theorem zX6_has_0 : tX6_has_0.all (fun x => decide (decode cX6_has x.1 = .ok x.2)) = true := by decide +kernel
def tX6_setTie_0 : List (Nat × Instr × Nat) := [(0, .aload_n 0, 1), (1, .getfield 7, 3), (4, .bipush 10, 2), (6, .iload_n 1, 1), (7, .imul, 1), (8, .iload_n 2, 1), (9, .iadd, 1), (10, .iload 4, 2), (12, .iastore, 1), (13, .aload_n 0, 1), (14, .getfield 7, 3), (17, .bipush 10, 2), (19, .iload_n 2, 1), (20, .imul, 1), (21, .iload_n 1, 1), (22, .iadd, 1), (23, .iload 4, 2), (25, .iastore, 1), (26, .aload_n 0, 1), (27, .getfield 13, 3), (30, .bipush 10, 2), (32, .iload_n 1, 1), (33, .imul, 1), (34, .iload_n 2, 1), (35, .iadd, 1), (36, .iload_n 3, 1), (37, .iastore, 1), (38, .aload_n 0, 1), (39, .getfield 13, 3), (42, .bipush 10, 2), (44, .iload_n 2, 1), (45, .imul, 1), (46, .iload_n 1, 1), (47, .iadd, 1), (48, .iload_n 3, 1), (49, .iastore, 1), (50, .return_, 1)]
set_option maxRecDepth 20000 in
theorem zX6_setTie_0 : tX6_setTie_0.all (fun x => decide (decode cX6_setTie x.1 = .ok x.2)) = true := by decide +kernel
def tX6_tie_0 : List (Nat × Instr × Nat) := [(0, .iload_n 1, 1), (1, .invokestatic 70, 3), (4, .ifCond .eq 15, 3), (7, .iload_n 2, 1), (8, .invokestatic 70, 3), (11, .ifCond .eq 8, 3), (14, .iload_n 1, 1), (15, .iload_n 2, 1), (16, .if_icmp .ne 5, 3), (19, .iconst (-1), 1), (20, .ireturn, 1), (21, .iload_n 3, 1), (22, .i2l, 1), (23, .lconst 0, 1), (24, .ldc2_w 74, 3), (27, .invokestatic 66, 3), (30, .ifCond .eq 16, 3), (33, .iload 4, 2), (35, .i2l, 1), (36, .lconst 0, 1), (37, .ldc2_w 64, 3), (40, .invokestatic 66, 3), (43, .ifCond .ne 6, 3), (46, .bipush (-2), 2), (48, .ireturn, 1), (49, .aload_n 0, 1), (50, .getfield 7, 3), (53, .bipush 10, 2), (55, .iload_n 1, 1), (56, .imul, 1), (57, .iload_n 2, 1), (58, .iadd, 1), (59, .iaload, 1), (60, .istore 5, 2), (62, .aload_n 0, 1), (63, .iload_n 1, 1), (64, .iload_n 2, 1), (65, .iload_n 3, 1), (66, .iload 4, 2), (68, .invokevirtual 76, 3), (71, .iload 5, 2), (73, .ireturn, 1)]
set_option maxRecDepth 20000 in
theorem zX6_tie_0 : tX6_tie_0.all (fun x => decide (decode cX6_tie x.1 = .ok x.2)) = true := by decide +kernel
def tX6_with_0 : List (Nat × Instr × Nat) := [(0, .iload_n 2, 1), (1, .iconst 1, 1), (2, .if_icmp .ne 11, 3), (5, .iload_n 0, 1), (6, .iconst 1, 1), (7, .iload_n 1, 1), (8, .ishl, 1), (9, .ior, 1), (10, .goto 10, 3), (13, .iload_n 0, 1), (14, .iconst 1, 1), (15, .iload_n 1, 1), (16, .ishl, 1), (17, .iconst (-1), 1), (18, .ixor, 1), (19, .iand, 1), (20, .ireturn, 1)]
set_option maxRecDepth 20000 in
theorem zX6_with_0 : tX6_with_0.all (fun x => decide (decode cX6_with x.1 = .ok x.2)) = true := by decide +kernel
def tX6_one_0 : List (Nat × Instr × Nat) := [(0, .iload_n 1, 1), (1, .invokestatic 70, 3), (4, .ifCond .ne 5, 3), (7, .iconst (-1), 1), (8, .ireturn, 1), (9, .iload_n 2, 1), (10, .i2l, 1), (11, .lconst 0, 1), (12, .lconst 1, 1), (13, .invokestatic 66, 3), (16, .ifCond .eq 13, 3), (19, .iload_n 3, 1), (20, .i2l, 1), (21, .lconst 0, 1), (22, .lconst 1, 1), (23, .invokestatic 66, 3), (26, .ifCond .ne 6, 3), (29, .bipush (-2), 2), (31, .ireturn, 1), (32, .aload_n 0, 1), (33, .aload_n 0, 1), (34, .getfield 60, 3), (37, .iload_n 1, 1), (38, .iload_n 2, 1), (39, .invokestatic 80, 3), (42, .putfield 60, 3), (45, .aload_n 0, 1), (46, .aload_n 0, 1), (47, .getfield 84, 3), (50, .iload_n 1, 1), (51, .iload_n 3, 1), (52, .invokestatic 80, 3), (55, .putfield 84, 3), (58, .aload_n 0, 1), (59, .aload_n 0, 1), (60, .getfield 87, 3), (63, .iload_n 1, 1), (64, .iconst 0, 1), (65, .invokestatic 80, 3), (68, .putfield 87, 3), (71, .aload_n 0, 1), (72, .getfield 60, 3), (75, .invokestatic 90, 3), (78, .ireturn, 1)]
set_option maxRecDepth 20000 in
theorem zX6_one_0 : tX6_one_0.all (fun x => decide (decode cX6_one x.1 = .ok x.2)) = true := by decide +kernel
def tX6_law_0 : List (Nat × Instr × Nat) := [(0, .iload_n 1, 1), (1, .i2l, 1), (2, .lconst 0, 1), (3, .ldc2_w 74, 3), (6, .invokestatic 66, 3), (9, .ifCond .eq 33, 3), (12, .iload_n 2, 1), (13, .i2l, 1), (14, .iload_n 1, 1), (15, .iconst 2, 1), (16, .if_icmp .ge 7, 3), (19, .lconst 1, 1), (20, .goto 4, 3), (23, .lconst 0, 1), (24, .iload_n 1, 1), (25, .iconst 2, 1), (26, .if_icmp .ge 9, 3), (29, .ldc2_w 64, 3), (32, .goto 4, 3), (35, .lconst 1, 1), (36, .invokestatic 66, 3), (39, .ifCond .ne 6, 3), (42, .bipush (-2), 2), (44, .ireturn, 1), (45, .aload_n 0, 1), (46, .getfield 16, 3), (49, .iload_n 1, 1), (50, .iaload, 1), (51, .istore_n 3, 1), (52, .aload_n 0, 1), (53, .getfield 16, 3), (56, .iload_n 1, 1), (57, .iload_n 2, 1), (58, .iastore, 1), (59, .iload_n 3, 1), (60, .ireturn, 1)]
set_option maxRecDepth 20000 in
theorem zX6_law_0 : tX6_law_0.all (fun x => decide (decode cX6_law x.1 = .ok x.2)) = true := by decide +kernel
def tX6_say_0 : List (Nat × Instr × Nat) := [(0, .iload_n 1, 1), (1, .i2l, 1), (2, .ldc2_w 94, 3), (5, .ldc2_w 96, 3), (8, .invokestatic 66, 3), (11, .ifCond .ne 6, 3), (14, .bipush (-2), 2), (16, .ireturn, 1), (17, .aload_n 0, 1), (18, .getfield 98, 3), (21, .bipush 60, 2), (23, .if_icmp .ne 6, 3), (26, .bipush (-4), 2), (28, .ireturn, 1), (29, .aload_n 0, 1), (30, .getfield 25, 3), (33, .aload_n 0, 1), (34, .getfield 98, 3), (37, .iload_n 1, 1), (38, .iastore, 1), (39, .aload_n 0, 1), (40, .dup, 1), (41, .getfield 98, 3), (44, .iconst 1, 1), (45, .iadd, 1), (46, .putfield 98, 3), (49, .aload_n 0, 1), (50, .getfield 98, 3), (53, .ireturn, 1)]
set_option maxRecDepth 20000 in
theorem zX6_say_0 : tX6_say_0.all (fun x => decide (decode cX6_say x.1 = .ok x.2)) = true := by decide +kernel
def tX6_wipe_0 : List (Nat × Instr × Nat) := [(0, .aload_n 0, 1), (1, .getfield 98, 3), (4, .istore_n 1, 1), (5, .aload_n 0, 1), (6, .iconst 0, 1), (7, .putfield 98, 3), (10, .iload_n 1, 1), (11, .ireturn, 1)]
set_option maxRecDepth 20000 in
theorem zX6_wipe_0 : tX6_wipe_0.all (fun x => decide (decode cX6_wipe x.1 = .ok x.2)) = true := by decide +kernel
def tX6_close_0 : List (Nat × Instr × Nat) := [(0, .aload_n 0, 1), (1, .getfield 28, 3), (4, .aload_n 0, 1), (5, .getfield 101, 3), (8, .iload_n 1, 1), (9, .iastore, 1), (10, .aload_n 0, 1), (11, .dup, 1), (12, .getfield 101, 3), (15, .iconst 1, 1), (16, .iadd, 1), (17, .putfield 101, 3), (20, .iconst 0, 1), (21, .ireturn, 1)]
set_option maxRecDepth 20000 in
theorem zX6_close_0 : tX6_close_0.all (fun x => decide (decode cX6_close x.1 = .ok x.2)) = true := by decide +kernel
def tX6_isLetter_0 : List (Nat × Instr × Nat) := [(0, .iload_n 0, 1), (1, .i2l, 1), (2, .ldc2_w 104, 3), (5, .ldc2_w 106, 3), (8, .invokestatic 66, 3), (11, .ireturn, 1)]
set_option maxRecDepth 20000 in
theorem zX6_isLetter_0 : tX6_isLetter_0.all (fun x => decide (decode cX6_isLetter x.1 = .ok x.2)) = true := by decide +kernel
def tX6_begin_0 : List (Nat × Instr × Nat) := [(0, .aload_n 0, 1), (1, .getfield 31, 3), (4, .aload_n 0, 1), (5, .getfield 101, 3), (8, .iload_n 1, 1), (9, .invokestatic 108, 3), (12, .ifCond .eq 10, 3), (15, .iload_n 1, 1), (16, .bipush 65, 2), (18, .isub, 1), (19, .goto 4, 3), (22, .iconst 0, 1), (23, .iastore, 1), (24, .aload_n 0, 1), (25, .getfield 34, 3), (28, .aload_n 0, 1), (29, .getfield 101, 3), (32, .iconst 0, 1), (33, .iastore, 1), (34, .iload_n 1, 1), (35, .invokestatic 108, 3), (38, .ifCond .eq 7, 3), (41, .iconst 1, 1), (42, .goto 34, 3), (45, .iload_n 1, 1), (46, .bipush 46, 2), (48, .if_icmp .ne 11, 3), (51, .aload_n 0, 1), (52, .iconst 5, 1), (53, .invokevirtual 111, 3), (56, .goto 20, 3), (59, .iload_n 1, 1), (60, .bipush 126, 2), (62, .if_icmp .ne 12, 3), (65, .aload_n 0, 1), (66, .bipush 6, 2), (68, .invokevirtual 111, 3), (71, .goto 5, 3), (74, .bipush (-6), 2), (76, .ireturn, 1)]
set_option maxRecDepth 20000 in
theorem zX6_begin_0 : tX6_begin_0.all (fun x => decide (decode cX6_begin x.1 = .ok x.2)) = true := by decide +kernel
def tX6_deed_0 : List (Nat × Instr × Nat) := [(0, .iload_n 1, 1), (1, .lookupswitch 69 #[(36, 55), (43, 51), (45, 53), (62, 63), (100, 57)], 51), (52, .iconst 2, 1), (53, .ireturn, 1), (54, .iconst 3, 1), (55, .ireturn, 1), (56, .iconst 4, 1), (57, .ireturn, 1), (58, .aload_n 0, 1), (59, .iconst 3, 1), (60, .invokevirtual 111, 3), (63, .ireturn, 1), (64, .aload_n 0, 1), (65, .iconst 4, 1), (66, .invokevirtual 111, 3), (69, .ireturn, 1), (70, .bipush (-6), 2), (72, .ireturn, 1)]
set_option maxRecDepth 20000 in
theorem zX6_deed_0 : tX6_deed_0.all (fun x => decide (decode cX6_deed x.1 = .ok x.2)) = true := by decide +kernel
def tX6_readOn_0 : List (Nat × Instr × Nat) := [(0, .iload_n 1, 1), (1, .ifCond .ne 9, 3), (4, .aload_n 0, 1), (5, .iload_n 2, 1), (6, .invokevirtual 114, 3), (9, .ireturn, 1), (10, .iload_n 1, 1), (11, .iconst 1, 1), (12, .if_icmp .ne 9, 3), (15, .aload_n 0, 1), (16, .iload_n 2, 1), (17, .invokevirtual 117, 3), (20, .ireturn, 1), (21, .aload_n 0, 1), (22, .getfield 34, 3), (25, .aload_n 0, 1), (26, .getfield 101, 3), (29, .iload_n 2, 1), (30, .bipush 65, 2), (32, .isub, 1), (33, .iastore, 1), (34, .iload_n 2, 1), (35, .invokestatic 108, 3), (38, .ifCond .eq 29, 3), (41, .aload_n 0, 1), (42, .iload_n 1, 1), (43, .iconst 2, 1), (44, .if_icmp .ne 7, 3), (47, .iconst 0, 1), (48, .goto 13, 3), (51, .iload_n 1, 1), (52, .iconst 3, 1), (53, .if_icmp .ne 7, 3), (56, .iconst 1, 1), (57, .goto 4, 3), (60, .iconst 2, 1), (61, .invokevirtual 111, 3), (64, .goto 5, 3), (67, .bipush (-6), 2), (69, .ireturn, 1)]
set_option maxRecDepth 20000 in
theorem zX6_readOn_0 : tX6_readOn_0.all (fun x => decide (decode cX6_readOn x.1 = .ok x.2)) = true := by decide +kernel
def tX6_fault_0 : List (Nat × Instr × Nat) := [(0, .aload_n 0, 1), (1, .iconst 0, 1), (2, .putfield 101, 3), (5, .iconst 0, 1), (6, .istore_n 1, 1), (7, .iconst 0, 1), (8, .istore_n 2, 1), (9, .iload_n 2, 1), (10, .aload_n 0, 1), (11, .getfield 98, 3), (14, .if_icmp .ge 27, 3), (17, .aload_n 0, 1), (18, .iload_n 1, 1), (19, .aload_n 0, 1), (20, .getfield 25, 3), (23, .iload_n 2, 1), (24, .iaload, 1), (25, .invokevirtual 120, 3), (28, .istore_n 1, 1), (29, .iload_n 1, 1), (30, .ifCond .ge 5, 3), (33, .iload_n 2, 1), (34, .ireturn, 1), (35, .iinc 2 1, 3), (38, .goto (-29), 3), (41, .iload_n 1, 1), (42, .ifCond .ne 8, 3), (45, .bipush (-6), 2), (47, .goto 7, 3), (50, .aload_n 0, 1), (51, .getfield 98, 3), (54, .ireturn, 1)]
set_option maxRecDepth 20000 in
theorem zX6_fault_0 : tX6_fault_0.all (fun x => decide (decode cX6_fault x.1 = .ok x.2)) = true := by decide +kernel
def tX6_counts_0 : List (Nat × Instr × Nat) := [(0, .bipush 10, 2), (2, .iload_n 1, 1), (3, .imul, 1), (4, .iload_n 2, 1), (5, .iadd, 1), (6, .istore_n 3, 1), (7, .iload_n 1, 1), (8, .iload_n 2, 1), (9, .if_icmp .eq 42, 3), (12, .aload_n 0, 1), (13, .getfield 7, 3), (16, .iload_n 3, 1), (17, .iaload, 1), (18, .aload_n 0, 1), (19, .getfield 16, 3), (22, .iconst 1, 1), (23, .iaload, 1), (24, .if_icmp .lt 27, 3), (27, .aload_n 0, 1), (28, .getfield 13, 3), (31, .iload_n 3, 1), (32, .iaload, 1), (33, .iconst 3, 1), (34, .if_icmp .ne 13, 3), (37, .aload_n 0, 1), (38, .getfield 16, 3), (41, .iconst 2, 1), (42, .iaload, 1), (43, .iconst 1, 1), (44, .if_icmp .ne 7, 3), (47, .iconst 1, 1), (48, .goto 4, 3), (51, .iconst 0, 1), (52, .ireturn, 1)]
set_option maxRecDepth 20000 in
theorem zX6_counts_0 : tX6_counts_0.all (fun x => decide (decode cX6_counts x.1 = .ok x.2)) = true := by decide +kernel
def tX6_tiesThatCount_0 : List (Nat × Instr × Nat) := [(0, .iconst 0, 1), (1, .istore_n 3, 1), (2, .iconst 0, 1), (3, .istore 4, 2), (5, .iload 4, 2), (7, .bipush 10, 2), (9, .if_icmp .ge 36, 3), (12, .iload_n 3, 1), (13, .iload_n 1, 1), (14, .iload 4, 2), (16, .invokestatic 124, 3), (19, .ifCond .eq 17, 3), (22, .aload_n 0, 1), (23, .iload_n 2, 1), (24, .iload 4, 2), (26, .invokevirtual 128, 3), (29, .ifCond .eq 7, 3), (32, .iconst 1, 1), (33, .goto 4, 3), (36, .iconst 0, 1), (37, .iadd, 1), (38, .istore_n 3, 1), (39, .iinc 4 1, 3), (42, .goto (-37), 3), (45, .iload_n 3, 1), (46, .ireturn, 1)]
set_option maxRecDepth 20000 in
theorem zX6_tiesThatCount_0 : tX6_tiesThatCount_0.all (fun x => decide (decode cX6_tiesThatCount x.1 = .ok x.2)) = true := by decide +kernel
def tX6_dogOf_0 : List (Nat × Instr × Nat) := [(0, .aload_n 0, 1), (1, .getfield 16, 3), (4, .iconst 3, 1), (5, .iaload, 1), (6, .iconst 1, 1), (7, .if_icmp .ne 18, 3), (10, .aload_n 0, 1), (11, .getfield 84, 3), (14, .iload_n 1, 1), (15, .invokestatic 124, 3), (18, .ifCond .eq 7, 3), (21, .iconst 1, 1), (22, .goto 4, 3), (25, .iconst 0, 1), (26, .ireturn, 1)]
set_option maxRecDepth 20000 in
theorem zX6_dogOf_0 : tX6_dogOf_0.all (fun x => decide (decode cX6_dogOf x.1 = .ok x.2)) = true := by decide +kernel
def tX6_isMissedIn_0 : List (Nat × Instr × Nat) := [(0, .aload_n 0, 1), (1, .iload_n 1, 1), (2, .iload_n 2, 1), (3, .invokevirtual 131, 3), (6, .aload_n 0, 1), (7, .iload_n 2, 1), (8, .invokevirtual 134, 3), (11, .iadd, 1), (12, .aload_n 0, 1), (13, .getfield 16, 3), (16, .iconst 0, 1), (17, .iaload, 1), (18, .if_icmp .lt 7, 3), (21, .iconst 1, 1), (22, .goto 4, 3), (25, .iconst 0, 1), (26, .ireturn, 1)]
set_option maxRecDepth 20000 in
theorem zX6_isMissedIn_0 : tX6_isMissedIn_0.all (fun x => decide (decode cX6_isMissedIn x.1 = .ok x.2)) = true := by decide +kernel
def tX6_missedIn_0 : List (Nat × Instr × Nat) := [(0, .iconst 0, 1), (1, .istore_n 2, 1), (2, .iconst 0, 1), (3, .istore_n 3, 1), (4, .iload_n 3, 1), (5, .bipush 10, 2), (7, .if_icmp .ge 36, 3), (10, .iload_n 2, 1), (11, .iload_n 1, 1), (12, .iload_n 3, 1), (13, .invokestatic 124, 3), (16, .ifCond .eq 18, 3), (19, .aload_n 0, 1), (20, .iload_n 1, 1), (21, .iload_n 3, 1), (22, .invokevirtual 137, 3), (25, .ifCond .eq 9, 3), (28, .iconst 1, 1), (29, .iload_n 3, 1), (30, .ishl, 1), (31, .goto 4, 3), (34, .iconst 0, 1), (35, .ior, 1), (36, .istore_n 2, 1), (37, .iinc 3 1, 3), (40, .goto (-36), 3), (43, .iload_n 2, 1), (44, .ireturn, 1)]
set_option maxRecDepth 20000 in
theorem zX6_missedIn_0 : tX6_missedIn_0.all (fun x => decide (decode cX6_missedIn x.1 = .ok x.2)) = true := by decide +kernel
def tX6_canFade_0 : List (Nat × Instr × Nat) := [(0, .bipush 10, 2), (2, .iload_n 1, 1), (3, .imul, 1), (4, .iload_n 2, 1), (5, .iadd, 1), (6, .istore_n 3, 1), (7, .iload_n 1, 1), (8, .iload_n 2, 1), (9, .if_icmp .ge 48, 3), (12, .aload_n 0, 1), (13, .getfield 60, 3), (16, .iload_n 1, 1), (17, .invokestatic 124, 3), (20, .ifCond .eq 37, 3), (23, .aload_n 0, 1), (24, .getfield 60, 3), (27, .iload_n 2, 1), (28, .invokestatic 124, 3), (31, .ifCond .eq 26, 3), (34, .aload_n 0, 1), (35, .getfield 13, 3), (38, .iload_n 3, 1), (39, .iaload, 1), (40, .iconst 3, 1), (41, .if_icmp .eq 16, 3), (44, .aload_n 0, 1), (45, .getfield 7, 3), (48, .iload_n 3, 1), (49, .iaload, 1), (50, .ifCond .le 7, 3), (53, .iconst 1, 1), (54, .goto 4, 3), (57, .iconst 0, 1), (58, .ireturn, 1)]
set_option maxRecDepth 20000 in
theorem zX6_canFade_0 : tX6_canFade_0.all (fun x => decide (decode cX6_canFade x.1 = .ok x.2)) = true := by decide +kernel
def tX6_canAnyFade_0 : List (Nat × Instr × Nat) := [(0, .iconst 0, 1), (1, .istore_n 1, 1), (2, .iconst 0, 1), (3, .istore_n 2, 1), (4, .iload_n 2, 1), (5, .bipush 100, 2), (7, .if_icmp .ge 34, 3), (10, .iload_n 1, 1), (11, .ifCond .ne 18, 3), (14, .aload_n 0, 1), (15, .iload_n 2, 1), (16, .bipush 10, 2), (18, .idiv, 1), (19, .iload_n 2, 1), (20, .bipush 10, 2), (22, .irem, 1), (23, .invokevirtual 140, 3), (26, .ifCond .eq 7, 3), (29, .iconst 1, 1), (30, .goto 4, 3), (33, .iconst 0, 1), (34, .istore_n 1, 1), (35, .iinc 2 1, 3), (38, .goto (-34), 3), (41, .iload_n 1, 1), (42, .ireturn, 1)]
set_option maxRecDepth 20000 in
theorem zX6_canAnyFade_0 : tX6_canAnyFade_0.all (fun x => decide (decode cX6_canAnyFade x.1 = .ok x.2)) = true := by decide +kernel
def tX6_whyNoTie_0 : List (Nat × Instr × Nat) := [(0, .aload_n 0, 1), (1, .getfield 60, 3), (4, .iload_n 3, 1), (5, .invokestatic 124, 3), (8, .ifCond .ne 5, 3), (11, .iconst 1, 1), (12, .ireturn, 1), (13, .iload_n 2, 1), (14, .iload_n 3, 1), (15, .if_icmp .ne 5, 3), (18, .iconst 2, 1), (19, .ireturn, 1), (20, .bipush 10, 2), (22, .iload_n 2, 1), (23, .imul, 1), (24, .iload_n 3, 1), (25, .iadd, 1), (26, .istore 4, 2), (28, .iload_n 1, 1), (29, .ifCond .ne 23, 3), (32, .aload_n 0, 1), (33, .getfield 7, 3), (36, .iload 4, 2), (38, .iaload, 1), (39, .bipush 9, 2), (41, .if_icmp .ne 7, 3), (44, .iconst 1, 1), (45, .goto 58, 3), (48, .iconst 0, 1), (49, .goto 54, 3), (52, .iload_n 1, 1), (53, .iconst 1, 1), (54, .if_icmp .ne 21, 3), (57, .aload_n 0, 1), (58, .getfield 7, 3), (61, .iload 4, 2), (63, .iaload, 1), (64, .ifCond .ne 7, 3), (67, .iconst 1, 1), (68, .goto 35, 3), (71, .iconst 0, 1), (72, .goto 31, 3), (75, .aload_n 0, 1), (76, .getfield 7, 3), (79, .iload 4, 2), (81, .iaload, 1), (82, .bipush 9, 2), (84, .if_icmp .ne 18, 3), (87, .aload_n 0, 1), (88, .getfield 13, 3), (91, .iload 4, 2), (93, .iaload, 1), (94, .iconst 3, 1), (95, .if_icmp .ne 7, 3), (98, .iconst 1, 1), (99, .goto 4, 3), (102, .iconst 0, 1), (103, .istore 5, 2), (105, .iload 5, 2), (107, .ifCond .eq 7, 3), (110, .iconst 3, 1), (111, .goto 4, 3), (114, .iconst 0, 1), (115, .ireturn, 1)]
set_option maxRecDepth 20000 in
theorem zX6_whyNoTie_0 : tX6_whyNoTie_0.all (fun x => decide (decode cX6_whyNoTie x.1 = .ok x.2)) = true := by decide +kernel
def tX6_whyNot_0 : List (Nat × Instr × Nat) := [(0, .iload_n 1, 1), (1, .iconst 5, 1), (2, .if_icmp .ne 16, 3), (5, .aload_n 0, 1), (6, .getfield 87, 3), (9, .ifCond .ne 7, 3), (12, .iconst 4, 1), (13, .goto 4, 3), (16, .iconst 0, 1), (17, .ireturn, 1), (18, .iload_n 1, 1), (19, .bipush 6, 2), (21, .if_icmp .ne 16, 3), (24, .aload_n 0, 1), (25, .invokevirtual 143, 3), (28, .ifCond .eq 7, 3), (31, .iconst 0, 1), (32, .goto 4, 3), (35, .iconst 5, 1), (36, .ireturn, 1), (37, .aload_n 0, 1), (38, .getfield 60, 3), (41, .iload_n 2, 1), (42, .invokestatic 124, 3), (45, .ifCond .ne 5, 3), (48, .iconst 1, 1), (49, .ireturn, 1), (50, .iload_n 1, 1), (51, .iconst 3, 1), (52, .if_icmp .ge 13, 3), (55, .aload_n 0, 1), (56, .iload_n 1, 1), (57, .iload_n 2, 1), (58, .iload_n 3, 1), (59, .invokevirtual 147, 3), (62, .goto 4, 3), (65, .iconst 0, 1), (66, .ireturn, 1)]
set_option maxRecDepth 20000 in
theorem zX6_whyNot_0 : tX6_whyNot_0.all (fun x => decide (decode cX6_whyNot x.1 = .ok x.2)) = true := by decide +kernel
def tX6_tiesBetween_0 : List (Nat × Instr × Nat) := [(0, .iconst 0, 1), (1, .istore_n 3, 1), (2, .iconst 0, 1), (3, .istore 4, 2), (5, .iload 4, 2), (7, .bipush 100, 2), (9, .if_icmp .ge 47, 3), (12, .iload_n 3, 1), (13, .iload_n 1, 1), (14, .iload 4, 2), (16, .bipush 10, 2), (18, .idiv, 1), (19, .invokestatic 124, 3), (22, .ifCond .eq 25, 3), (25, .iload_n 2, 1), (26, .iload 4, 2), (28, .bipush 10, 2), (30, .irem, 1), (31, .invokestatic 124, 3), (34, .ifCond .eq 13, 3), (37, .aload_n 0, 1), (38, .getfield 7, 3), (41, .iload 4, 2), (43, .iaload, 1), (44, .goto 4, 3), (47, .iconst 0, 1), (48, .iadd, 1), (49, .istore_n 3, 1), (50, .iinc 4 1, 3), (53, .goto (-48), 3), (56, .iload_n 3, 1), (57, .ireturn, 1)]
set_option maxRecDepth 20000 in
theorem zX6_tiesBetween_0 : tX6_tiesBetween_0.all (fun x => decide (decode cX6_tiesBetween x.1 = .ok x.2)) = true := by decide +kernel
def tX6_night_0 : List (Nat × Instr × Nat) := [(0, .aload_n 0, 1), (1, .getfield 87, 3), (4, .aload_n 0, 1), (5, .aload_n 0, 1), (6, .getfield 60, 3), (9, .invokevirtual 150, 3), (12, .iconst (-1), 1), (13, .ixor, 1), (14, .iand, 1), (15, .istore_n 1, 1), (16, .aload_n 0, 1), (17, .dup, 1), (18, .getfield 60, 3), (21, .iload_n 1, 1), (22, .iconst (-1), 1), (23, .ixor, 1), (24, .iand, 1), (25, .putfield 60, 3), (28, .aload_n 0, 1), (29, .iconst 0, 1), (30, .putfield 87, 3), (33, .aload_n 0, 1), (34, .dup, 1), (35, .getfield 153, 3), (38, .iload_n 1, 1), (39, .invokestatic 90, 3), (42, .iadd, 1), (43, .putfield 153, 3), (46, .aload_n 0, 1), (47, .dup, 1), (48, .getfield 156, 3), (51, .aload_n 0, 1), (52, .iload_n 1, 1), (53, .aload_n 0, 1), (54, .getfield 60, 3), (57, .invokevirtual 159, 3), (60, .iadd, 1), (61, .putfield 156, 3), (64, .aload_n 0, 1), (65, .iload_n 1, 1), (66, .putfield 162, 3), (69, .return_, 1)]
set_option maxRecDepth 20000 in
theorem zX6_night_0 : tX6_night_0.all (fun x => decide (decode cX6_night x.1 = .ok x.2)) = true := by decide +kernel
def tX6_month_0 : List (Nat × Instr × Nat) := [(0, .iconst 0, 1), (1, .istore_n 1, 1), (2, .iload_n 1, 1), (3, .bipush 100, 2), (5, .if_icmp .ge 50, 3), (8, .aload_n 0, 1), (9, .iload_n 1, 1), (10, .bipush 10, 2), (12, .idiv, 1), (13, .iload_n 1, 1), (14, .bipush 10, 2), (16, .irem, 1), (17, .invokevirtual 140, 3), (20, .ifCond .eq 29, 3), (23, .aload_n 0, 1), (24, .iload_n 1, 1), (25, .bipush 10, 2), (27, .idiv, 1), (28, .iload_n 1, 1), (29, .bipush 10, 2), (31, .irem, 1), (32, .aload_n 0, 1), (33, .getfield 13, 3), (36, .iload_n 1, 1), (37, .iaload, 1), (38, .aload_n 0, 1), (39, .getfield 7, 3), (42, .iload_n 1, 1), (43, .iaload, 1), (44, .iconst 1, 1), (45, .isub, 1), (46, .invokevirtual 76, 3), (49, .iinc 1 1, 3), (52, .goto (-50), 3), (55, .return_, 1)]
set_option maxRecDepth 20000 in
theorem zX6_month_0 : tX6_month_0.all (fun x => decide (decode cX6_month x.1 = .ok x.2)) = true := by decide +kernel
def tX6_meet_0 : List (Nat × Instr × Nat) := [(0, .aload_n 0, 1), (1, .getfield 7, 3), (4, .bipush 10, 2), (6, .iload_n 1, 1), (7, .imul, 1), (8, .iload_n 2, 1), (9, .iadd, 1), (10, .iaload, 1), (11, .iconst 2, 1), (12, .iadd, 1), (13, .istore_n 3, 1), (14, .aload_n 0, 1), (15, .iload_n 1, 1), (16, .iload_n 2, 1), (17, .aload_n 0, 1), (18, .getfield 13, 3), (21, .bipush 10, 2), (23, .iload_n 1, 1), (24, .imul, 1), (25, .iload_n 2, 1), (26, .iadd, 1), (27, .iaload, 1), (28, .iload_n 3, 1), (29, .bipush 9, 2), (31, .if_icmp .le 8, 3), (34, .bipush 9, 2), (36, .goto 4, 3), (39, .iload_n 3, 1), (40, .invokevirtual 76, 3), (43, .return_, 1)]
set_option maxRecDepth 20000 in
theorem zX6_meet_0 : tX6_meet_0.all (fun x => decide (decode cX6_meet x.1 = .ok x.2)) = true := by decide +kernel
def tX6_quarrel_0 : List (Nat × Instr × Nat) := [(0, .aload_n 0, 1), (1, .getfield 7, 3), (4, .bipush 10, 2), (6, .iload_n 1, 1), (7, .imul, 1), (8, .iload_n 2, 1), (9, .iadd, 1), (10, .iaload, 1), (11, .iconst 3, 1), (12, .isub, 1), (13, .istore_n 3, 1), (14, .aload_n 0, 1), (15, .iload_n 1, 1), (16, .iload_n 2, 1), (17, .aload_n 0, 1), (18, .getfield 13, 3), (21, .bipush 10, 2), (23, .iload_n 1, 1), (24, .imul, 1), (25, .iload_n 2, 1), (26, .iadd, 1), (27, .iaload, 1), (28, .iload_n 3, 1), (29, .ifCond .ge 7, 3), (32, .iconst 0, 1), (33, .goto 4, 3), (36, .iload_n 3, 1), (37, .invokevirtual 76, 3), (40, .return_, 1)]
set_option maxRecDepth 20000 in
theorem zX6_quarrel_0 : tX6_quarrel_0.all (fun x => decide (decode cX6_quarrel x.1 = .ok x.2)) = true := by decide +kernel
def tX6_happen_0 : List (Nat × Instr × Nat) := [(0, .aload_n 0, 1), (1, .iconst 0, 1), (2, .putfield 162, 3), (5, .iload_n 1, 1), (6, .tableswitch 105 0 5 #[38, 47, 56, 68, 83, 98], 38), (44, .aload_n 0, 1), (45, .iload_n 2, 1), (46, .iload_n 3, 1), (47, .invokevirtual 165, 3), (50, .goto 65, 3), (53, .aload_n 0, 1), (54, .iload_n 2, 1), (55, .iload_n 3, 1), (56, .invokevirtual 169, 3), (59, .goto 56, 3), (62, .aload_n 0, 1), (63, .iload_n 2, 1), (64, .iload_n 3, 1), (65, .iconst 3, 1), (66, .bipush 9, 2), (68, .invokevirtual 76, 3), (71, .goto 44, 3), (74, .aload_n 0, 1), (75, .dup, 1), (76, .getfield 84, 3), (79, .iconst 1, 1), (80, .iload_n 2, 1), (81, .ishl, 1), (82, .ixor, 1), (83, .putfield 84, 3), (86, .goto 29, 3), (89, .aload_n 0, 1), (90, .dup, 1), (91, .getfield 87, 3), (94, .iconst 1, 1), (95, .iload_n 2, 1), (96, .ishl, 1), (97, .ixor, 1), (98, .putfield 87, 3), (101, .goto 14, 3), (104, .aload_n 0, 1), (105, .invokevirtual 172, 3), (108, .goto 7, 3), (111, .aload_n 0, 1), (112, .invokevirtual 175, 3), (115, .return_, 1)]
set_option maxRecDepth 20000 in
theorem zX6_happen_0 : tX6_happen_0.all (fun x => decide (decode cX6_happen x.1 = .ok x.2)) = true := by decide +kernel
def tX6_keepNow_0 : List (Nat × Instr × Nat) := [(0, .iconst 0, 1), (1, .istore_n 1, 1), (2, .iload_n 1, 1), (3, .bipush 100, 2), (5, .if_icmp .ge 36, 3), (8, .aload_n 0, 1), (9, .getfield 37, 3), (12, .iload_n 1, 1), (13, .aload_n 0, 1), (14, .getfield 7, 3), (17, .iload_n 1, 1), (18, .iaload, 1), (19, .iastore, 1), (20, .aload_n 0, 1), (21, .getfield 37, 3), (24, .bipush 100, 2), (26, .iload_n 1, 1), (27, .iadd, 1), (28, .aload_n 0, 1), (29, .getfield 13, 3), (32, .iload_n 1, 1), (33, .iaload, 1), (34, .iastore, 1), (35, .iinc 1 1, 3), (38, .goto (-36), 3), (41, .aload_n 0, 1), (42, .getfield 37, 3), (45, .sipush 200, 3), (48, .aload_n 0, 1), (49, .getfield 60, 3), (52, .iastore, 1), (53, .aload_n 0, 1), (54, .getfield 37, 3), (57, .sipush 201, 3), (60, .aload_n 0, 1), (61, .getfield 84, 3), (64, .iastore, 1), (65, .aload_n 0, 1), (66, .getfield 37, 3), (69, .sipush 202, 3), (72, .aload_n 0, 1), (73, .getfield 87, 3), (76, .iastore, 1), (77, .return_, 1)]
set_option maxRecDepth 20000 in
theorem zX6_keepNow_0 : tX6_keepNow_0.all (fun x => decide (decode cX6_keepNow x.1 = .ok x.2)) = true := by decide +kernel
def tX6_back_0 : List (Nat × Instr × Nat) := [(0, .iconst 0, 1), (1, .istore_n 2, 1), (2, .iload_n 2, 1), (3, .bipush 100, 2), (5, .if_icmp .ge 36, 3), (8, .aload_n 0, 1), (9, .getfield 7, 3), (12, .iload_n 2, 1), (13, .aload_n 0, 1), (14, .getfield 37, 3), (17, .iload_n 2, 1), (18, .iaload, 1), (19, .iastore, 1), (20, .aload_n 0, 1), (21, .getfield 13, 3), (24, .iload_n 2, 1), (25, .aload_n 0, 1), (26, .getfield 37, 3), (29, .bipush 100, 2), (31, .iload_n 2, 1), (32, .iadd, 1), (33, .iaload, 1), (34, .iastore, 1), (35, .iinc 2 1, 3), (38, .goto (-36), 3), (41, .aload_n 0, 1), (42, .aload_n 0, 1), (43, .getfield 37, 3), (46, .sipush 200, 3), (49, .iaload, 1), (50, .putfield 60, 3), (53, .aload_n 0, 1), (54, .aload_n 0, 1), (55, .getfield 37, 3), (58, .sipush 201, 3), (61, .iaload, 1), (62, .putfield 84, 3), (65, .aload_n 0, 1), (66, .aload_n 0, 1), (67, .getfield 37, 3), (70, .sipush 202, 3), (73, .iaload, 1), (74, .putfield 87, 3), (77, .iload_n 1, 1), (78, .ireturn, 1)]
set_option maxRecDepth 20000 in
theorem zX6_back_0 : tX6_back_0.all (fun x => decide (decode cX6_back x.1 = .ok x.2)) = true := by decide +kernel
def tX6_leastOf_0 : List (Nat × Instr × Nat) := [(0, .bipush (-6), 2), (2, .istore_n 1, 1), (3, .bipush 9, 2), (5, .istore_n 2, 1), (6, .iload_n 2, 1), (7, .ifCond .lt 23, 3), (10, .iload_n 0, 1), (11, .iload_n 2, 1), (12, .invokestatic 124, 3), (15, .ifCond .eq 7, 3), (18, .iload_n 2, 1), (19, .goto 4, 3), (22, .iload_n 1, 1), (23, .istore_n 1, 1), (24, .iinc 2 (-1), 3), (27, .goto (-21), 3), (30, .iload_n 1, 1), (31, .ireturn, 1)]
set_option maxRecDepth 20000 in
theorem zX6_leastOf_0 : tX6_leastOf_0.all (fun x => decide (decode cX6_leastOf x.1 = .ok x.2)) = true := by decide +kernel
def tX6_goOne_0 : List (Nat × Instr × Nat) := [(0, .aload_n 0, 1), (1, .aload_n 0, 1), (2, .getfield 28, 3), (5, .iload_n 1, 1), (6, .iaload, 1), (7, .aload_n 0, 1), (8, .getfield 31, 3), (11, .iload_n 1, 1), (12, .iaload, 1), (13, .aload_n 0, 1), (14, .getfield 34, 3), (17, .iload_n 1, 1), (18, .iaload, 1), (19, .invokevirtual 178, 3), (22, .aload_n 0, 1), (23, .getfield 162, 3), (26, .ifCond .eq 26, 3), (29, .aload_n 0, 1), (30, .getfield 182, 3), (33, .ifCond .ge 19, 3), (36, .aload_n 0, 1), (37, .iload_n 1, 1), (38, .putfield 182, 3), (41, .aload_n 0, 1), (42, .aload_n 0, 1), (43, .getfield 162, 3), (46, .invokestatic 185, 3), (49, .putfield 188, 3), (52, .return_, 1)]
set_option maxRecDepth 20000 in
theorem zX6_goOne_0 : tX6_goOne_0.all (fun x => decide (decode cX6_goOne x.1 = .ok x.2)) = true := by decide +kernel
def tX6_goMonths_0 : List (Nat × Instr × Nat) := [(0, .aload_n 0, 1), (1, .bipush (-6), 2), (3, .putfield 191, 3), (6, .aload_n 0, 1), (7, .bipush (-6), 2), (9, .putfield 194, 3), (12, .aload_n 0, 1), (13, .iconst 0, 1), (14, .putfield 153, 3), (17, .aload_n 0, 1), (18, .iconst 0, 1), (19, .putfield 156, 3), (22, .aload_n 0, 1), (23, .bipush (-6), 2), (25, .putfield 182, 3), (28, .aload_n 0, 1), (29, .bipush (-6), 2), (31, .putfield 188, 3), (34, .iconst 0, 1), (35, .istore_n 1, 1), (36, .iload_n 1, 1), (37, .aload_n 0, 1), (38, .getfield 101, 3), (41, .if_icmp .ge 76, 3), (44, .aload_n 0, 1), (45, .getfield 191, 3), (48, .ifCond .ge 69, 3), (51, .aload_n 0, 1), (52, .aload_n 0, 1), (53, .getfield 28, 3), (56, .iload_n 1, 1), (57, .iaload, 1), (58, .aload_n 0, 1), (59, .getfield 31, 3), (62, .iload_n 1, 1), (63, .iaload, 1), (64, .aload_n 0, 1), (65, .getfield 34, 3), (68, .iload_n 1, 1), (69, .iaload, 1), (70, .invokevirtual 197, 3), (73, .istore_n 2, 1), (74, .aload_n 0, 1), (75, .iload_n 2, 1), (76, .ifCond .le 7, 3), (79, .iload_n 1, 1), (80, .goto 5, 3), (83, .bipush (-6), 2), (85, .putfield 191, 3), (88, .aload_n 0, 1), (89, .iload_n 2, 1), (90, .ifCond .le 7, 3), (93, .iload_n 2, 1), (94, .goto 5, 3), (97, .bipush (-6), 2), (99, .putfield 194, 3), (102, .iload_n 2, 1), (103, .ifCond .ne 8, 3), (106, .aload_n 0, 1), (107, .iload_n 1, 1), (108, .invokevirtual 200, 3), (111, .iinc 1 1, 3), (114, .goto (-78), 3), (117, .return_, 1)]
set_option maxRecDepth 20000 in
theorem zX6_goMonths_0 : tX6_goMonths_0.all (fun x => decide (decode cX6_goMonths x.1 = .ok x.2)) = true := by decide +kernel
def tX6_refusal_0 : List (Nat × Instr × Nat) := [(0, .aload_n 0, 1), (1, .invokevirtual 204, 3), (4, .aload_n 0, 1), (5, .invokevirtual 207, 3), (8, .ifCond .lt 6, 3), (11, .bipush (-5), 2), (13, .ireturn, 1), (14, .aload_n 0, 1), (15, .invokevirtual 211, 3), (18, .aload_n 0, 1), (19, .getfield 191, 3), (22, .ifCond .lt 8, 3), (25, .bipush (-3), 2), (27, .goto 5, 3), (30, .bipush (-6), 2), (32, .ireturn, 1)]
set_option maxRecDepth 20000 in
theorem zX6_refusal_0 : tX6_refusal_0.all (fun x => decide (decode cX6_refusal x.1 = .ok x.2)) = true := by decide +kernel
def tX6_judge_0 : List (Nat × Instr × Nat) := [(0, .iload_n 1, 1), (1, .i2l, 1), (2, .lconst 0, 1), (3, .ldc2_w 214, 3), (6, .invokestatic 66, 3), (9, .ifCond .ne 6, 3), (12, .bipush (-2), 2), (14, .ireturn, 1), (15, .aload_n 0, 1), (16, .aload_n 0, 1), (17, .invokevirtual 216, 3), (20, .invokevirtual 219, 3), (23, .istore_n 2, 1), (24, .iload_n 2, 1), (25, .bipush (-5), 2), (27, .if_icmp .eq 14, 3), (30, .iload_n 1, 1), (31, .iconst 1, 1), (32, .if_icmp .le 11, 3), (35, .iload_n 2, 1), (36, .bipush (-3), 2), (38, .if_icmp .ne 5, 3), (41, .iload_n 2, 1), (42, .ireturn, 1), (43, .iload_n 1, 1), (44, .ifCond .ne 10, 3), (47, .aload_n 0, 1), (48, .getfield 191, 3), (51, .goto 19, 3), (54, .iload_n 1, 1), (55, .iconst 1, 1), (56, .if_icmp .ne 10, 3), (59, .aload_n 0, 1), (60, .getfield 194, 3), (63, .goto 7, 3), (66, .aload_n 0, 1), (67, .getfield 153, 3), (70, .ireturn, 1)]
set_option maxRecDepth 20000 in
theorem zX6_judge_0 : tX6_judge_0.all (fun x => decide (decode cX6_judge x.1 = .ok x.2)) = true := by decide +kernel
def tX6_ofOne_0 : List (Nat × Instr × Nat) := [(0, .iload_n 2, 1), (1, .tableswitch 92 0 3 #[31, 40, 49, 58], 31), (32, .aload_n 0, 1), (33, .getfield 60, 3), (36, .iload_n 1, 1), (37, .ishr, 1), (38, .iconst 1, 1), (39, .iand, 1), (40, .ireturn, 1), (41, .aload_n 0, 1), (42, .getfield 84, 3), (45, .iload_n 1, 1), (46, .ishr, 1), (47, .iconst 1, 1), (48, .iand, 1), (49, .ireturn, 1), (50, .aload_n 0, 1), (51, .getfield 87, 3), (54, .iload_n 1, 1), (55, .ishr, 1), (56, .iconst 1, 1), (57, .iand, 1), (58, .ireturn, 1), (59, .aload_n 0, 1), (60, .getfield 60, 3), (63, .iload_n 1, 1), (64, .invokestatic 124, 3), (67, .ifCond .ne 8, 3), (70, .bipush (-6), 2), (72, .goto 20, 3), (75, .aload_n 0, 1), (76, .aload_n 0, 1), (77, .getfield 60, 3), (80, .iload_n 1, 1), (81, .invokevirtual 137, 3), (84, .ifCond .eq 7, 3), (87, .iconst 1, 1), (88, .goto 4, 3), (91, .iconst 0, 1), (92, .ireturn, 1), (93, .aload_n 0, 1), (94, .iconst 1, 1), (95, .iload_n 1, 1), (96, .ishl, 1), (97, .aload_n 0, 1), (98, .getfield 60, 3), (101, .iconst 1, 1), (102, .iload_n 1, 1), (103, .ishl, 1), (104, .iconst (-1), 1), (105, .ixor, 1), (106, .iand, 1), (107, .invokevirtual 159, 3), (110, .ireturn, 1)]
set_option maxRecDepth 20000 in
theorem zX6_ofOne_0 : tX6_ofOne_0.all (fun x => decide (decode cX6_ofOne x.1 = .ok x.2)) = true := by decide +kernel
def tX6_behind_0 : List (Nat × Instr × Nat) := [(0, .iload_n 1, 1), (1, .invokestatic 70, 3), (4, .ifCond .ne 5, 3), (7, .iconst (-1), 1), (8, .ireturn, 1), (9, .iload_n 2, 1), (10, .i2l, 1), (11, .lconst 0, 1), (12, .ldc2_w 222, 3), (15, .invokestatic 66, 3), (18, .ifCond .ne 6, 3), (21, .bipush (-2), 2), (23, .ireturn, 1), (24, .aload_n 0, 1), (25, .invokevirtual 216, 3), (28, .istore_n 3, 1), (29, .aload_n 0, 1), (30, .iload_n 3, 1), (31, .bipush (-6), 2), (33, .if_icmp .eq 7, 3), (36, .iload_n 3, 1), (37, .goto 9, 3), (40, .aload_n 0, 1), (41, .iload_n 1, 1), (42, .iload_n 2, 1), (43, .invokevirtual 224, 3), (46, .invokevirtual 219, 3), (49, .ireturn, 1)]
set_option maxRecDepth 20000 in
theorem zX6_behind_0 : tX6_behind_0.all (fun x => decide (decode cX6_behind x.1 = .ok x.2)) = true := by decide +kernel
def tX6_city_0 : List (Nat × Instr × Nat) := [(0, .iload_n 1, 1), (1, .i2l, 1), (2, .lconst 0, 1), (3, .ldc2_w 214, 3), (6, .invokestatic 66, 3), (9, .ifCond .ne 6, 3), (12, .bipush (-2), 2), (14, .ireturn, 1), (15, .aload_n 0, 1), (16, .invokevirtual 216, 3), (19, .istore_n 2, 1), (20, .iload_n 1, 1), (21, .ifCond .ne 10, 3), (24, .aload_n 0, 1), (25, .getfield 60, 3), (28, .goto 23, 3), (31, .iload_n 1, 1), (32, .iconst 1, 1), (33, .if_icmp .ne 14, 3), (36, .aload_n 0, 1), (37, .aload_n 0, 1), (38, .getfield 60, 3), (41, .invokevirtual 150, 3), (44, .goto 7, 3), (47, .aload_n 0, 1), (48, .getfield 156, 3), (51, .istore_n 3, 1), (52, .aload_n 0, 1), (53, .iload_n 2, 1), (54, .bipush (-6), 2), (56, .if_icmp .eq 7, 3), (59, .iload_n 2, 1), (60, .goto 4, 3), (63, .iload_n 3, 1), (64, .invokevirtual 219, 3), (67, .ireturn, 1)]
set_option maxRecDepth 20000 in
theorem zX6_city_0 : tX6_city_0.all (fun x => decide (decode cX6_city x.1 = .ok x.2)) = true := by decide +kernel
def tX6_taken_0 : List (Nat × Instr × Nat) := [(0, .iload_n 1, 1), (1, .i2l, 1), (2, .lconst 0, 1), (3, .lconst 1, 1), (4, .invokestatic 66, 3), (7, .ifCond .ne 6, 3), (10, .bipush (-2), 2), (12, .ireturn, 1), (13, .aload_n 0, 1), (14, .aload_n 0, 1), (15, .invokevirtual 216, 3), (18, .invokevirtual 219, 3), (21, .istore_n 2, 1), (22, .iload_n 2, 1), (23, .bipush (-6), 2), (25, .if_icmp .eq 7, 3), (28, .iload_n 2, 1), (29, .goto 18, 3), (32, .iload_n 1, 1), (33, .ifCond .ne 10, 3), (36, .aload_n 0, 1), (37, .getfield 182, 3), (40, .goto 7, 3), (43, .aload_n 0, 1), (44, .getfield 188, 3), (47, .ireturn, 1)]
set_option maxRecDepth 20000 in
theorem zX6_taken_0 : tX6_taken_0.all (fun x => decide (decode cX6_taken x.1 = .ok x.2)) = true := by decide +kernel
def tX6_done_0 : List (Nat × Instr × Nat) := [(0, .aload_n 0, 1), (1, .invokevirtual 216, 3), (4, .istore_n 1, 1), (5, .iload_n 1, 1), (6, .bipush (-6), 2), (8, .if_icmp .eq 9, 3), (11, .aload_n 0, 1), (12, .iload_n 1, 1), (13, .invokevirtual 219, 3), (16, .ireturn, 1), (17, .aload_n 0, 1), (18, .iconst 0, 1), (19, .putfield 98, 3), (22, .aload_n 0, 1), (23, .getfield 101, 3), (26, .ireturn, 1)]
set_option maxRecDepth 20000 in
theorem zX6_done_0 : tX6_done_0.all (fun x => decide (decode cX6_done x.1 = .ok x.2)) = true := by decide +kernel
def tX6_staysBy_0 : List (Nat × Instr × Nat) := [(0, .aload_n 0, 1), (1, .getfield 60, 3), (4, .istore_n 2, 1), (5, .aload_n 0, 1), (6, .iconst 0, 1), (7, .putfield 227, 3), (10, .iload_n 2, 1), (11, .aload_n 0, 1), (12, .iload_n 2, 1), (13, .invokevirtual 150, 3), (16, .iconst (-1), 1), (17, .ixor, 1), (18, .iand, 1), (19, .iload_n 1, 1), (20, .iconst (-1), 1), (21, .ixor, 1), (22, .iand, 1), (23, .istore_n 3, 1), (24, .iload_n 3, 1), (25, .ifCond .eq 36, 3), (28, .iload_n 2, 1), (29, .iload_n 3, 1), (30, .iconst (-1), 1), (31, .ixor, 1), (32, .iand, 1), (33, .istore_n 2, 1), (34, .aload_n 0, 1), (35, .dup, 1), (36, .getfield 227, 3), (39, .iconst 1, 1), (40, .iadd, 1), (41, .putfield 227, 3), (44, .iload_n 2, 1), (45, .aload_n 0, 1), (46, .iload_n 2, 1), (47, .invokevirtual 150, 3), (50, .iconst (-1), 1), (51, .ixor, 1), (52, .iand, 1), (53, .iload_n 1, 1), (54, .iconst (-1), 1), (55, .ixor, 1), (56, .iand, 1), (57, .istore_n 3, 1), (58, .goto (-34), 3), (61, .iload_n 2, 1), (62, .ireturn, 1)]
set_option maxRecDepth 20000 in
theorem zX6_staysBy_0 : tX6_staysBy_0.all (fun x => decide (decode cX6_staysBy x.1 = .ok x.2)) = true := by decide +kernel
def tX6_stays_0 : List (Nat × Instr × Nat) := [(0, .iload_n 1, 1), (1, .i2l, 1), (2, .lconst 0, 1), (3, .lconst 1, 1), (4, .invokestatic 66, 3), (7, .ifCond .ne 6, 3), (10, .bipush (-2), 2), (12, .ireturn, 1), (13, .aload_n 0, 1), (14, .iconst 0, 1), (15, .invokevirtual 230, 3), (18, .istore_n 2, 1), (19, .iload_n 1, 1), (20, .ifCond .ne 7, 3), (23, .iload_n 2, 1), (24, .goto 7, 3), (27, .aload_n 0, 1), (28, .getfield 227, 3), (31, .ireturn, 1)]
set_option maxRecDepth 20000 in
theorem zX6_stays_0 : tX6_stays_0.all (fun x => decide (decode cX6_stays x.1 = .ok x.2)) = true := by decide +kernel
def tX6_isHere_0 : List (Nat × Instr × Nat) := [(0, .iload_n 1, 1), (1, .invokestatic 70, 3), (4, .ifCond .eq 18, 3), (7, .aload_n 0, 1), (8, .getfield 60, 3), (11, .iload_n 1, 1), (12, .invokestatic 124, 3), (15, .ifCond .eq 7, 3), (18, .iconst 1, 1), (19, .goto 4, 3), (22, .iconst 0, 1), (23, .ireturn, 1)]
set_option maxRecDepth 20000 in
theorem zX6_isHere_0 : tX6_isHere_0.all (fun x => decide (decode cX6_isHere x.1 = .ok x.2)) = true := by decide +kernel
def tX6_keep_0 : List (Nat × Instr × Nat) := [(0, .aload_n 0, 1), (1, .iload_n 1, 1), (2, .invokevirtual 233, 3), (5, .ifCond .ne 5, 3), (8, .iconst (-1), 1), (9, .ireturn, 1), (10, .iload_n 2, 1), (11, .i2l, 1), (12, .lconst 0, 1), (13, .lconst 1, 1), (14, .invokestatic 66, 3), (17, .ifCond .ne 6, 3), (20, .bipush (-2), 2), (22, .ireturn, 1), (23, .bipush (-6), 2), (25, .istore_n 3, 1), (26, .iconst 0, 1), (27, .istore 4, 2), (29, .iload 4, 2), (31, .sipush 1023, 3), (34, .if_icmp .gt 90, 3), (37, .iload 4, 2), (39, .aload_n 0, 1), (40, .getfield 60, 3), (43, .iconst (-1), 1), (44, .ixor, 1), (45, .iand, 1), (46, .ifCond .ne 16, 3), (49, .iload 4, 2), (51, .iload_n 1, 1), (52, .invokestatic 124, 3), (55, .ifCond .ne 7, 3), (58, .iconst 1, 1), (59, .goto 4, 3), (62, .iconst 0, 1), (63, .istore 5, 2), (65, .iload_n 3, 1), (66, .ifCond .lt 15, 3), (69, .iload 4, 2), (71, .invokestatic 90, 3), (74, .iload_n 3, 1), (75, .invokestatic 90, 3), (78, .if_icmp .ge 7, 3), (81, .iconst 1, 1), (82, .goto 4, 3), (85, .iconst 0, 1), (86, .istore 6, 2), (88, .iload 5, 2), (90, .ifCond .eq 26, 3), (93, .iload 6, 2), (95, .ifCond .eq 21, 3), (98, .aload_n 0, 1), (99, .iload 4, 2), (101, .invokevirtual 230, 3), (104, .iload_n 1, 1), (105, .invokestatic 124, 3), (108, .ifCond .eq 8, 3), (111, .iload 4, 2), (113, .goto 4, 3), (116, .iload_n 3, 1), (117, .istore_n 3, 1), (118, .iinc 4 1, 3), (121, .goto (-92), 3), (124, .iload_n 3, 1), (125, .ifCond .lt 8, 3), (128, .iload_n 2, 1), (129, .iconst 1, 1), (130, .if_icmp .ne 7, 3), (133, .iload_n 3, 1), (134, .goto 7, 3), (137, .iload_n 3, 1), (138, .invokestatic 90, 3), (141, .ireturn, 1)]
set_option maxRecDepth 20000 in
theorem zX6_keep_0 : tX6_keep_0.all (fun x => decide (decode cX6_keep x.1 = .ok x.2)) = true := by decide +kernel
def tX6_loose_0 : List (Nat × Instr × Nat) := [(0, .aload_n 0, 1), (1, .iload_n 1, 1), (2, .invokevirtual 233, 3), (5, .ifCond .ne 5, 3), (8, .iconst (-1), 1), (9, .ireturn, 1), (10, .iload_n 2, 1), (11, .i2l, 1), (12, .lconst 0, 1), (13, .lconst 1, 1), (14, .invokestatic 66, 3), (17, .ifCond .ne 6, 3), (20, .bipush (-2), 2), (22, .ireturn, 1), (23, .aload_n 0, 1), (24, .aload_n 0, 1), (25, .getfield 60, 3), (28, .iload_n 1, 1), (29, .invokevirtual 131, 3), (32, .istore_n 3, 1), (33, .iload_n 3, 1), (34, .aload_n 0, 1), (35, .iload_n 1, 1), (36, .invokevirtual 134, 3), (39, .iadd, 1), (40, .aload_n 0, 1), (41, .getfield 16, 3), (44, .iconst 0, 1), (45, .iaload, 1), (46, .isub, 1), (47, .iconst 1, 1), (48, .iadd, 1), (49, .istore 4, 2), (51, .iload 4, 2), (53, .iload_n 3, 1), (54, .if_icmp .le 6, 3), (57, .bipush (-6), 2), (59, .ireturn, 1), (60, .iconst 0, 1), (61, .istore 5, 2), (63, .iconst 0, 1), (64, .istore 6, 2), (66, .iload 6, 2), (68, .bipush 10, 2), (70, .if_icmp .ge 66, 3), (73, .aload_n 0, 1), (74, .getfield 60, 3), (77, .iload 6, 2), (79, .invokestatic 124, 3), (82, .ifCond .eq 27, 3), (85, .aload_n 0, 1), (86, .iload_n 1, 1), (87, .iload 6, 2), (89, .invokevirtual 128, 3), (92, .ifCond .eq 17, 3), (95, .iload 5, 2), (97, .invokestatic 90, 3), (100, .iload 4, 2), (102, .if_icmp .ge 7, 3), (105, .iconst 1, 1), (106, .goto 4, 3), (109, .iconst 0, 1), (110, .istore 7, 2), (112, .iload 5, 2), (114, .iload 7, 2), (116, .ifCond .eq 10, 3), (119, .iconst 1, 1), (120, .iload 6, 2), (122, .ishl, 1), (123, .goto 4, 3), (126, .iconst 0, 1), (127, .ior, 1), (128, .istore 5, 2), (130, .iinc 6 1, 3), (133, .goto (-67), 3), (136, .iload_n 2, 1), (137, .iconst 1, 1), (138, .if_icmp .ne 8, 3), (141, .iload 5, 2), (143, .goto 8, 3), (146, .iload 5, 2), (148, .invokestatic 90, 3), (151, .ireturn, 1)]
set_option maxRecDepth 20000 in
theorem zX6_loose_0 : tX6_loose_0.all (fun x => decide (decode cX6_loose x.1 = .ok x.2)) = true := by decide +kernel
def tX6_areApart_0 : List (Nat × Instr × Nat) := [(0, .iconst 1, 1), (1, .istore_n 2, 1), (2, .iconst 0, 1), (3, .istore_n 3, 1), (4, .iload_n 3, 1), (5, .bipush 100, 2), (7, .if_icmp .ge 50, 3), (10, .iload_n 2, 1), (11, .ifCond .eq 38, 3), (14, .iload_n 1, 1), (15, .iload_n 3, 1), (16, .bipush 10, 2), (18, .idiv, 1), (19, .invokestatic 124, 3), (22, .ifCond .eq 23, 3), (25, .iload_n 1, 1), (26, .iload_n 3, 1), (27, .bipush 10, 2), (29, .irem, 1), (30, .invokestatic 124, 3), (33, .ifCond .eq 12, 3), (36, .aload_n 0, 1), (37, .getfield 7, 3), (40, .iload_n 3, 1), (41, .iaload, 1), (42, .ifCond .gt 7, 3), (45, .iconst 1, 1), (46, .goto 4, 3), (49, .iconst 0, 1), (50, .istore_n 2, 1), (51, .iinc 3 1, 3), (54, .goto (-50), 3), (57, .iload_n 2, 1), (58, .ireturn, 1)]
set_option maxRecDepth 20000 in
theorem zX6_areApart_0 : tX6_areApart_0.all (fun x => decide (decode cX6_areApart x.1 = .ok x.2)) = true := by decide +kernel
def tX6_seats_0 : List (Nat × Instr × Nat) := [(0, .iload_n 1, 1), (1, .i2l, 1), (2, .lconst 0, 1), (3, .ldc2_w 64, 3), (6, .invokestatic 66, 3), (9, .ifCond .eq 13, 3), (12, .iload_n 2, 1), (13, .i2l, 1), (14, .lconst 0, 1), (15, .lconst 1, 1), (16, .invokestatic 66, 3), (19, .ifCond .ne 6, 3), (22, .bipush (-2), 2), (24, .ireturn, 1), (25, .aload_n 0, 1), (26, .getfield 60, 3), (29, .aload_n 0, 1), (30, .aload_n 0, 1), (31, .getfield 60, 3), (34, .invokevirtual 150, 3), (37, .iconst (-1), 1), (38, .ixor, 1), (39, .iand, 1), (40, .istore_n 3, 1), (41, .iconst 0, 1), (42, .istore 4, 2), (44, .iconst 1, 1), (45, .istore 5, 2), (47, .iload 5, 2), (49, .sipush 1023, 3), (52, .if_icmp .gt 70, 3), (55, .iload 5, 2), (57, .iload_n 3, 1), (58, .iconst (-1), 1), (59, .ixor, 1), (60, .iand, 1), (61, .ifCond .ne 29, 3), (64, .iload 5, 2), (66, .invokestatic 90, 3), (69, .iload_n 1, 1), (70, .if_icmp .gt 20, 3), (73, .iload 5, 2), (75, .invokestatic 90, 3), (78, .iload 4, 2), (80, .invokestatic 90, 3), (83, .if_icmp .le 7, 3), (86, .iconst 1, 1), (87, .goto 4, 3), (90, .iconst 0, 1), (91, .istore 6, 2), (93, .iload 6, 2), (95, .ifCond .eq 17, 3), (98, .aload_n 0, 1), (99, .iload 5, 2), (101, .invokevirtual 236, 3), (104, .ifCond .eq 8, 3), (107, .iload 5, 2), (109, .goto 5, 3), (112, .iload 4, 2), (114, .istore 4, 2), (116, .iinc 5 1, 3), (119, .goto (-72), 3), (122, .iload_n 2, 1), (123, .ifCond .ne 11, 3), (126, .iload 4, 2), (128, .invokestatic 90, 3), (131, .goto 5, 3), (134, .iload 4, 2), (136, .ireturn, 1)]
set_option maxRecDepth 20000 in
theorem zX6_seats_0 : tX6_seats_0.all (fun x => decide (decode cX6_seats x.1 = .ok x.2)) = true := by decide +kernel
def tX6_readOdds_0 : List (Nat × Instr × Nat) := [(0, .iload_n 1, 1), (1, .istore_n 2, 1), (2, .iconst 5, 1), (3, .istore_n 3, 1), (4, .iload_n 3, 1), (5, .ifCond .lt 24, 3), (8, .aload_n 0, 1), (9, .getfield 40, 3), (12, .iload_n 3, 1), (13, .iload_n 2, 1), (14, .bipush 10, 2), (16, .irem, 1), (17, .iastore, 1), (18, .iload_n 2, 1), (19, .bipush 10, 2), (21, .idiv, 1), (22, .istore_n 2, 1), (23, .iinc 3 (-1), 3), (26, .goto (-22), 3), (29, .iconst 0, 1), (30, .istore_n 3, 1), (31, .iconst 0, 1), (32, .istore 4, 2), (34, .iload 4, 2), (36, .bipush 6, 2), (38, .if_icmp .ge 85, 3), (41, .bipush (-6), 2), (43, .istore 5, 2), (45, .iconst 0, 1), (46, .istore 6, 2), (48, .iload 6, 2), (50, .bipush 6, 2), (52, .if_icmp .ge 49, 3), (55, .iload_n 3, 1), (56, .iload 6, 2), (58, .invokestatic 124, 3), (61, .ifCond .ne 30, 3), (64, .iload 5, 2), (66, .ifCond .lt 20, 3), (69, .aload_n 0, 1), (70, .getfield 40, 3), (73, .iload 6, 2), (75, .iaload, 1), (76, .aload_n 0, 1), (77, .getfield 40, 3), (80, .iload 5, 2), (82, .iaload, 1), (83, .if_icmp .le 8, 3), (86, .iload 6, 2), (88, .goto 5, 3), (91, .iload 5, 2), (93, .istore 5, 2), (95, .iinc 6 1, 3), (98, .goto (-50), 3), (101, .iload_n 3, 1), (102, .iconst 1, 1), (103, .iload 5, 2), (105, .ishl, 1), (106, .ior, 1), (107, .istore_n 3, 1), (108, .aload_n 0, 1), (109, .getfield 43, 3), (112, .iload 4, 2), (114, .iload 5, 2), (116, .iastore, 1), (117, .iinc 4 1, 3), (120, .goto (-86), 3), (123, .return_, 1)]
set_option maxRecDepth 20000 in
theorem zX6_readOdds_0 : tX6_readOdds_0.all (fun x => decide (decode cX6_readOdds x.1 = .ok x.2)) = true := by decide +kernel
def tX6_lowest_0 : List (Nat × Instr × Nat) := [(0, .lload_n 2, 1), (1, .lstore 5, 2), (3, .lload_n 0, 1), (4, .lstore 7, 2), (6, .lload 7, 2), (8, .lconst 0, 1), (9, .lcmp, 1), (10, .ifCond .eq 21, 3), (13, .lload 5, 2), (15, .lload 7, 2), (17, .lrem, 1), (18, .lstore 9, 2), (20, .lload 7, 2), (22, .lstore 5, 2), (24, .lload 9, 2), (26, .lstore 7, 2), (28, .goto (-22), 3), (31, .iload 4, 2), (33, .ifCond .ne 10, 3), (36, .lload_n 0, 1), (37, .lload 5, 2), (39, .ldiv, 1), (40, .goto 7, 3), (43, .lload_n 2, 1), (44, .lload 5, 2), (46, .ldiv, 1), (47, .lreturn, 1)]
set_option maxRecDepth 20000 in
theorem zX6_lowest_0 : tX6_lowest_0.all (fun x => decide (decode cX6_lowest x.1 = .ok x.2)) = true := by decide +kernel
def tX6_calls_0 : List (Nat × Instr × Nat) := [(0, .iload_n 1, 1), (1, .i2l, 1), (2, .lconst 0, 1), (3, .ldc2_w 239, 3), (6, .invokestatic 66, 3), (9, .ifCond .eq 13, 3), (12, .iload_n 2, 1), (13, .i2l, 1), (14, .lconst 0, 1), (15, .lconst 1, 1), (16, .invokestatic 66, 3), (19, .ifCond .ne 7, 3), (22, .ldc2_w 241, 3), (25, .lreturn, 1), (26, .aload_n 0, 1), (27, .iload_n 1, 1), (28, .invokevirtual 243, 3), (31, .lconst 1, 1), (32, .lstore_n 3, 1), (33, .lconst 1, 1), (34, .lstore 5, 2), (36, .lconst 1, 1), (37, .lstore 7, 2), (39, .iconst 0, 1), (40, .istore 9, 2), (42, .iload 9, 2), (44, .iconst 5, 1), (45, .if_icmp .ge 48, 3), (48, .lload_n 3, 1), (49, .ldc2_w 246, 3), (52, .lmul, 1), (53, .lstore_n 3, 1), (54, .lload 5, 2), (56, .ldc2_w 246, 3), (59, .aload_n 0, 1), (60, .getfield 40, 3), (63, .aload_n 0, 1), (64, .getfield 43, 3), (67, .iload 9, 2), (69, .iaload, 1), (70, .iaload, 1), (71, .i2l, 1), (72, .lsub, 1), (73, .lmul, 1), (74, .lstore 5, 2), (76, .ldc2_w 246, 3), (79, .lload 7, 2), (81, .lmul, 1), (82, .lload 5, 2), (84, .ladd, 1), (85, .lstore 7, 2), (87, .iinc 9 1, 3), (90, .goto (-48), 3), (93, .lload 7, 2), (95, .lload_n 3, 1), (96, .iload_n 2, 1), (97, .invokestatic 248, 3), (100, .lreturn, 1)]
set_option maxRecDepth 20000 in
theorem zX6_calls_0 : tX6_calls_0.all (fun x => decide (decode cX6_calls x.1 = .ok x.2)) = true := by decide +kernel
def tX6_order_0 : List (Nat × Instr × Nat) := [(0, .iload_n 1, 1), (1, .i2l, 1), (2, .lconst 0, 1), (3, .ldc2_w 239, 3), (6, .invokestatic 66, 3), (9, .ifCond .ne 6, 3), (12, .bipush (-2), 2), (14, .ireturn, 1), (15, .aload_n 0, 1), (16, .iload_n 1, 1), (17, .invokevirtual 243, 3), (20, .iconst 0, 1), (21, .istore_n 2, 1), (22, .iconst 0, 1), (23, .istore_n 3, 1), (24, .iload_n 3, 1), (25, .bipush 6, 2), (27, .if_icmp .ge 21, 3), (30, .bipush 10, 2), (32, .iload_n 2, 1), (33, .imul, 1), (34, .aload_n 0, 1), (35, .getfield 43, 3), (38, .iload_n 3, 1), (39, .iaload, 1), (40, .iadd, 1), (41, .istore_n 2, 1), (42, .iinc 3 1, 3), (45, .goto (-21), 3), (48, .iload_n 2, 1), (49, .ireturn, 1)]
set_option maxRecDepth 20000 in
theorem zX6_order_0 : tX6_order_0.all (fun x => decide (decode cX6_order x.1 = .ok x.2)) = true := by decide +kernel
def tX6_rung_0 : List (Nat × Instr × Nat) := [(0, .iload_n 1, 1), (1, .invokestatic 70, 3), (4, .ifCond .ne 5, 3), (7, .iconst (-1), 1), (8, .ireturn, 1), (9, .aload_n 0, 1), (10, .getfield 252, 3), (13, .bipush 8, 2), (15, .if_icmp .ne 6, 3), (18, .bipush (-4), 2), (20, .ireturn, 1), (21, .aload_n 0, 1), (22, .getfield 19, 3), (25, .aload_n 0, 1), (26, .getfield 252, 3), (29, .iload_n 1, 1), (30, .iastore, 1), (31, .aload_n 0, 1), (32, .getfield 22, 3), (35, .aload_n 0, 1), (36, .getfield 252, 3), (39, .iload_n 2, 1), (40, .ifCond .eq 7, 3), (43, .iconst 1, 1), (44, .goto 4, 3), (47, .iconst 0, 1), (48, .iastore, 1), (49, .aload_n 0, 1), (50, .dup, 1), (51, .getfield 252, 3), (54, .iconst 1, 1), (55, .iadd, 1), (56, .putfield 252, 3), (59, .aload_n 0, 1), (60, .getfield 252, 3), (63, .ireturn, 1)]
set_option maxRecDepth 20000 in
theorem zX6_rung_0 : tX6_rung_0.all (fun x => decide (decode cX6_rung x.1 = .ok x.2)) = true := by decide +kernel
def tX6_forget_0 : List (Nat × Instr × Nat) := [(0, .aload_n 0, 1), (1, .getfield 252, 3), (4, .istore_n 1, 1), (5, .aload_n 0, 1), (6, .iconst 0, 1), (7, .putfield 252, 3), (10, .iload_n 1, 1), (11, .ireturn, 1)]
set_option maxRecDepth 20000 in
theorem zX6_forget_0 : tX6_forget_0.all (fun x => decide (decode cX6_forget x.1 = .ok x.2)) = true := by decide +kernel
def tX6_yesBy_0 : List (Nat × Instr × Nat) := [(0, .iconst 0, 1), (1, .istore_n 2, 1), (2, .iconst 0, 1), (3, .istore_n 3, 1), (4, .iload_n 3, 1), (5, .bipush 10, 2), (7, .if_icmp .ge 44, 3), (10, .iload_n 2, 1), (11, .iload_n 3, 1), (12, .iload_n 1, 1), (13, .if_icmp .eq 29, 3), (16, .aload_n 0, 1), (17, .getfield 7, 3), (20, .bipush 10, 2), (22, .iload_n 1, 1), (23, .imul, 1), (24, .iload_n 3, 1), (25, .iadd, 1), (26, .iaload, 1), (27, .aload_n 0, 1), (28, .getfield 16, 3), (31, .iconst 1, 1), (32, .iaload, 1), (33, .if_icmp .lt 9, 3), (36, .iconst 1, 1), (37, .iload_n 3, 1), (38, .ishl, 1), (39, .goto 4, 3), (42, .iconst 0, 1), (43, .ior, 1), (44, .istore_n 2, 1), (45, .iinc 3 1, 3), (48, .goto (-44), 3), (51, .iload_n 2, 1), (52, .ireturn, 1)]
set_option maxRecDepth 20000 in
theorem zX6_yesBy_0 : tX6_yesBy_0.all (fun x => decide (decode cX6_yesBy x.1 = .ok x.2)) = true := by decide +kernel
def tX6_who_0 : List (Nat × Instr × Nat) := [(0, .sipush 1023, 3), (3, .istore_n 1, 1), (4, .iconst 0, 1), (5, .istore_n 2, 1), (6, .iload_n 2, 1), (7, .aload_n 0, 1), (8, .getfield 252, 3), (11, .if_icmp .ge 44, 3), (14, .aload_n 0, 1), (15, .aload_n 0, 1), (16, .getfield 19, 3), (19, .iload_n 2, 1), (20, .iaload, 1), (21, .invokevirtual 255, 3), (24, .istore_n 3, 1), (25, .iload_n 1, 1), (26, .aload_n 0, 1), (27, .getfield 22, 3), (30, .iload_n 2, 1), (31, .iaload, 1), (32, .iconst 1, 1), (33, .if_icmp .ne 7, 3), (36, .iload_n 3, 1), (37, .goto 10, 3), (40, .sipush 1023, 3), (43, .iload_n 3, 1), (44, .iconst (-1), 1), (45, .ixor, 1), (46, .iand, 1), (47, .iand, 1), (48, .istore_n 1, 1), (49, .iinc 2 1, 3), (52, .goto (-46), 3), (55, .iload_n 1, 1), (56, .ireturn, 1)]
set_option maxRecDepth 20000 in
theorem zX6_who_0 : tX6_who_0.all (fun x => decide (decode cX6_who x.1 = .ok x.2)) = true := by decide +kernel
def tX6_more_0 : List (Nat × Instr × Nat) := [(0, .iload_n 0, 1), (1, .iload_n 1, 1), (2, .if_icmp .le 7, 3), (5, .iload_n 0, 1), (6, .goto 4, 3), (9, .iload_n 1, 1), (10, .ireturn, 1)]
set_option maxRecDepth 20000 in
theorem zX6_more_0 : tX6_more_0.all (fun x => decide (decode cX6_more x.1 = .ok x.2)) = true := by decide +kernel
def tX6_ring_0 : List (Nat × Instr × Nat) := [(0, .iload_n 1, 1), (1, .i2l, 1), (2, .lconst 0, 1), (3, .lconst 1, 1), (4, .invokestatic 66, 3), (7, .ifCond .ne 6, 3), (10, .bipush (-2), 2), (12, .ireturn, 1), (13, .aload_n 0, 1), (14, .invokevirtual 258, 3), (17, .istore_n 2, 1), (18, .iload_n 2, 1), (19, .ifCond .ne 6, 3), (22, .bipush (-6), 2), (24, .ireturn, 1), (25, .iconst 0, 1), (26, .istore_n 3, 1), (27, .bipush 11, 2), (29, .istore 4, 2), (31, .iconst 0, 1), (32, .istore 5, 2), (34, .iload 5, 2), (36, .bipush 10, 2), (38, .if_icmp .ge 66, 3), (41, .iload_n 2, 1), (42, .aload_n 0, 1), (43, .iload 5, 2), (45, .invokevirtual 255, 3), (48, .iand, 1), (49, .invokestatic 90, 3), (52, .istore 6, 2), (54, .iload 6, 2), (56, .iload_n 2, 1), (57, .invokestatic 90, 3), (60, .iload 6, 2), (62, .isub, 1), (63, .invokestatic 260, 3), (66, .istore 7, 2), (68, .iload 7, 2), (70, .iload 4, 2), (72, .if_icmp .ge 8, 3), (75, .iload 5, 2), (77, .goto 4, 3), (80, .iload_n 3, 1), (81, .istore_n 3, 1), (82, .iload 7, 2), (84, .iload 4, 2), (86, .if_icmp .ge 8, 3), (89, .iload 7, 2), (91, .goto 5, 3), (94, .iload 4, 2), (96, .istore 4, 2), (98, .iinc 5 1, 3), (101, .goto (-67), 3), (104, .iload_n 1, 1), (105, .ifCond .ne 7, 3), (108, .iload_n 3, 1), (109, .goto 5, 3), (112, .iload 4, 2), (114, .ireturn, 1)]
set_option maxRecDepth 20000 in
theorem zX6_ring_0 : tX6_ring_0.all (fun x => decide (decode cX6_ring x.1 = .ok x.2)) = true := by decide +kernel
def tX6_answers_0 : List (Nat × Instr × Nat) := [(0, .iload_n 1, 1), (1, .i2l, 1), (2, .lconst 0, 1), (3, .ldc2_w 246, 3), (6, .invokestatic 66, 3), (9, .ifCond .eq 36, 3), (12, .iload_n 2, 1), (13, .i2l, 1), (14, .lconst 0, 1), (15, .ldc2_w 246, 3), (18, .invokestatic 66, 3), (21, .ifCond .eq 24, 3), (24, .iload_n 3, 1), (25, .i2l, 1), (26, .lconst 0, 1), (27, .lconst 1, 1), (28, .invokestatic 66, 3), (31, .ifCond .eq 14, 3), (34, .iload 4, 2), (36, .i2l, 1), (37, .lconst 0, 1), (38, .lconst 1, 1), (39, .invokestatic 66, 3), (42, .ifCond .ne 7, 3), (45, .ldc2_w 241, 3), (48, .lreturn, 1), (49, .aload_n 0, 1), (50, .getfield 16, 3), (53, .iconst 0, 1), (54, .iaload, 1), (55, .istore 5, 2), (57, .iconst 0, 1), (58, .istore 6, 2), (60, .iload 6, 2), (62, .bipush 10, 2), (64, .if_icmp .ge 26, 3), (67, .aload_n 0, 1), (68, .getfield 46, 3), (71, .iload 6, 2), (73, .iload 6, 2), (75, .ifCond .ne 7, 3), (78, .lconst 1, 1), (79, .goto 4, 3), (82, .lconst 0, 1), (83, .lastore, 1), (84, .iinc 6 1, 3), (87, .goto (-27), 3), (90, .lconst 1, 1), (91, .lstore 6, 2), (93, .lconst 0, 1), (94, .lstore 8, 2), (96, .iconst 0, 1), (97, .istore 10, 2), (99, .iload 10, 2), (101, .iload_n 1, 1), (102, .if_icmp .ge 127, 3), (105, .ldc2_w 246, 3), (108, .lload 8, 2), (110, .lload 6, 2), (112, .ladd, 1), (113, .aload_n 0, 1), (114, .getfield 46, 3), (117, .iload 5, 2), (119, .laload, 1), (120, .lsub, 1), (121, .lmul, 1), (122, .lstore 8, 2), (124, .lload 6, 2), (126, .ldc2_w 246, 3), (129, .lmul, 1), (130, .lstore 6, 2), (132, .aload_n 0, 1), (133, .getfield 46, 3), (136, .iload 5, 2), (138, .ldc2_w 246, 3), (141, .aload_n 0, 1), (142, .getfield 46, 3), (145, .iload 5, 2), (147, .laload, 1), (148, .lmul, 1), (149, .iload_n 2, 1), (150, .i2l, 1), (151, .aload_n 0, 1), (152, .getfield 46, 3), (155, .iload 5, 2), (157, .iconst 1, 1), (158, .isub, 1), (159, .laload, 1), (160, .lmul, 1), (161, .ladd, 1), (162, .lastore, 1), (163, .iload 5, 2), (165, .iconst 1, 1), (166, .isub, 1), (167, .istore 11, 2), (169, .iload 11, 2), (171, .ifCond .lt 52, 3), (174, .aload_n 0, 1), (175, .getfield 46, 3), (178, .iload 11, 2)]
set_option maxRecDepth 20000 in
theorem zX6_answers_0 : tX6_answers_0.all (fun x => decide (decode cX6_answers x.1 = .ok x.2)) = true := by decide +kernel
def tX6_answers_1 : List (Nat × Instr × Nat) := [(180, .ldc2_w 246, 3), (183, .iload_n 2, 1), (184, .i2l, 1), (185, .lsub, 1), (186, .aload_n 0, 1), (187, .getfield 46, 3), (190, .iload 11, 2), (192, .laload, 1), (193, .lmul, 1), (194, .iload 11, 2), (196, .ifCond .le 18, 3), (199, .iload_n 2, 1), (200, .i2l, 1), (201, .aload_n 0, 1), (202, .getfield 46, 3), (205, .iload 11, 2), (207, .iconst 1, 1), (208, .isub, 1), (209, .laload, 1), (210, .lmul, 1), (211, .goto 4, 3), (214, .lconst 0, 1), (215, .ladd, 1), (216, .lastore, 1), (217, .iinc 11 (-1), 3), (220, .goto (-51), 3), (223, .iinc 10 1, 3), (226, .goto (-127), 3), (229, .iload_n 3, 1), (230, .ifCond .ne 13, 3), (233, .aload_n 0, 1), (234, .getfield 46, 3), (237, .iload 5, 2), (239, .laload, 1), (240, .goto 5, 3), (243, .lload 8, 2), (245, .lload 6, 2), (247, .iload 4, 2), (249, .invokestatic 248, 3), (252, .lreturn, 1)]
set_option maxRecDepth 20000 in
theorem zX6_answers_1 : tX6_answers_1.all (fun x => decide (decode cX6_answers x.1 = .ok x.2)) = true := by decide +kernel
def tX6_bestTake_0 : List (Nat × Instr × Nat) := [(0, .iconst 0, 1), (1, .istore_n 2, 1), (2, .bipush 9, 2), (4, .istore_n 3, 1), (5, .iload_n 3, 1), (6, .ifCond .le 74, 3), (9, .iload_n 1, 1), (10, .bipush 10, 2), (12, .irem, 1), (13, .iload_n 3, 1), (14, .if_icmp .eq 22, 3), (17, .iload_n 1, 1), (18, .bipush 10, 2), (20, .idiv, 1), (21, .bipush 10, 2), (23, .irem, 1), (24, .iload_n 3, 1), (25, .if_icmp .eq 11, 3), (28, .iload_n 1, 1), (29, .bipush 100, 2), (31, .idiv, 1), (32, .iload_n 3, 1), (33, .if_icmp .ne 7, 3), (36, .iconst 1, 1), (37, .goto 4, 3), (40, .iconst 0, 1), (41, .istore 4, 2), (43, .iload 4, 2), (45, .ifCond .eq 27, 3), (48, .aload_n 0, 1), (49, .getfield 50, 3), (52, .iload_n 1, 1), (53, .iload 4, 2), (55, .ifCond .eq 7, 3), (58, .iload_n 3, 1), (59, .goto 4, 3), (62, .iconst 0, 1), (63, .isub, 1), (64, .iaload, 1), (65, .ifCond .ne 7, 3), (68, .iload_n 3, 1), (69, .goto 4, 3), (72, .iload_n 2, 1), (73, .istore_n 2, 1), (74, .iinc 3 (-1), 3), (77, .goto (-72), 3), (80, .iload_n 2, 1), (81, .ireturn, 1)]
set_option maxRecDepth 20000 in
theorem zX6_bestTake_0 : tX6_bestTake_0.all (fun x => decide (decode cX6_bestTake x.1 = .ok x.2)) = true := by decide +kernel
def tX6_number_0 : List (Nat × Instr × Nat) := [(0, .iload_n 1, 1), (1, .i2l, 1), (2, .lconst 0, 1), (3, .ldc2_w 263, 3), (6, .invokestatic 66, 3), (9, .ifCond .eq 13, 3), (12, .iload_n 2, 1), (13, .i2l, 1), (14, .lconst 0, 1), (15, .lconst 1, 1), (16, .invokestatic 66, 3), (19, .ifCond .ne 6, 3), (22, .bipush (-2), 2), (24, .ireturn, 1), (25, .iconst 0, 1), (26, .istore_n 3, 1), (27, .iload_n 3, 1), (28, .iload_n 1, 1), (29, .if_icmp .gt 20, 3), (32, .aload_n 0, 1), (33, .getfield 50, 3), (36, .iload_n 3, 1), (37, .aload_n 0, 1), (38, .iload_n 3, 1), (39, .invokevirtual 265, 3), (42, .iastore, 1), (43, .iinc 3 1, 3), (46, .goto (-19), 3), (49, .aload_n 0, 1), (50, .getfield 50, 3), (53, .iload_n 1, 1), (54, .iaload, 1), (55, .istore_n 3, 1), (56, .iload_n 2, 1), (57, .ifCond .ne 15, 3), (60, .iload_n 3, 1), (61, .ifCond .le 7, 3), (64, .iconst 1, 1), (65, .goto 17, 3), (68, .iconst 0, 1), (69, .goto 13, 3), (72, .iload_n 3, 1), (73, .ifCond .le 7, 3), (76, .iload_n 3, 1), (77, .goto 5, 3), (80, .bipush (-6), 2), (82, .ireturn, 1)]
set_option maxRecDepth 20000 in
theorem zX6_number_0 : tX6_number_0.all (fun x => decide (decode cX6_number x.1 = .ok x.2)) = true := by decide +kernel
def tX6_actBy_0 : List (Nat × Instr × Nat) := [(0, .iload_n 0, 1), (1, .iconst 2, 1), (2, .if_icmp .ge 7, 3), (5, .iconst 0, 1), (6, .goto 43, 3), (9, .iload_n 0, 1), (10, .iconst 2, 1), (11, .if_icmp .ne 7, 3), (14, .iconst 1, 1), (15, .goto 34, 3), (18, .iload_n 0, 1), (19, .iconst 3, 1), (20, .if_icmp .ne 7, 3), (23, .iconst 2, 1), (24, .goto 25, 3), (27, .iload_n 0, 1), (28, .bipush 6, 2), (30, .if_icmp .ge 7, 3), (33, .iconst 4, 1), (34, .goto 15, 3), (37, .iload_n 0, 1), (38, .bipush 6, 2), (40, .if_icmp .ne 7, 3), (43, .iconst 5, 1), (44, .goto 5, 3), (47, .bipush 6, 2), (49, .ireturn, 1)]
set_option maxRecDepth 20000 in
theorem zX6_actBy_0 : tX6_actBy_0.all (fun x => decide (decode cX6_actBy x.1 = .ok x.2)) = true := by decide +kernel
def tX6_year_0 : List (Nat × Instr × Nat) := [(0, .iload_n 1, 1), (1, .i2l, 1), (2, .lconst 0, 1), (3, .ldc2_w 268, 3), (6, .invokestatic 66, 3), (9, .ifCond .eq 27, 3), (12, .iload_n 2, 1), (13, .i2l, 1), (14, .lconst 1, 1), (15, .ldc2_w 270, 3), (18, .invokestatic 66, 3), (21, .ifCond .eq 15, 3), (24, .iload_n 3, 1), (25, .i2l, 1), (26, .lconst 0, 1), (27, .ldc2_w 214, 3), (30, .invokestatic 66, 3), (33, .ifCond .ne 6, 3), (36, .bipush (-2), 2), (38, .ireturn, 1), (39, .aload_n 0, 1), (40, .invokevirtual 204, 3), (43, .aload_n 0, 1), (44, .iconst 0, 1), (45, .putfield 156, 3), (48, .iload_n 1, 1), (49, .istore 4, 2), (51, .iconst 0, 1), (52, .istore 5, 2), (54, .iload 5, 2), (56, .iload_n 2, 1), (57, .if_icmp .ge 80, 3), (60, .ldc2_w 272, 3), (63, .iload 4, 2), (65, .i2l, 1), (66, .lmul, 1), (67, .ldc2_w 106, 3), (70, .ladd, 1), (71, .ldc2_w 274, 3), (74, .lrem, 1), (75, .l2i, 1), (76, .istore 4, 2), (78, .iload 4, 2), (80, .bipush 100, 2), (82, .idiv, 1), (83, .bipush 8, 2), (85, .irem, 1), (86, .invokestatic 276, 3), (89, .istore 6, 2), (91, .iload 4, 2), (93, .bipush 10, 2), (95, .irem, 1), (96, .istore 7, 2), (98, .iload 4, 2), (100, .bipush 10, 2), (102, .idiv, 1), (103, .bipush 10, 2), (105, .irem, 1), (106, .istore 8, 2), (108, .aload_n 0, 1), (109, .iload 6, 2), (111, .iload 7, 2), (113, .iload 8, 2), (115, .invokevirtual 197, 3), (118, .ifCond .ne 13, 3), (121, .aload_n 0, 1), (122, .iload 6, 2), (124, .iload 7, 2), (126, .iload 8, 2), (128, .invokevirtual 178, 3), (131, .iinc 5 1, 3), (134, .goto (-80), 3), (137, .iload_n 3, 1), (138, .ifCond .ne 13, 3), (141, .aload_n 0, 1), (142, .getfield 60, 3), (145, .invokestatic 90, 3), (148, .goto 27, 3), (151, .iload_n 3, 1), (152, .iconst 1, 1), (153, .if_icmp .ne 18, 3), (156, .aload_n 0, 1), (157, .sipush 1023, 3), (160, .sipush 1023, 3), (163, .invokevirtual 159, 3), (166, .iconst 2, 1), (167, .idiv, 1), (168, .goto 7, 3), (171, .aload_n 0, 1), (172, .getfield 156, 3), (175, .istore 5, 2), (177, .aload_n 0, 1), (178, .iload 5, 2), (180, .invokevirtual 219, 3), (183, .ireturn, 1)]
set_option maxRecDepth 20000 in
theorem zX6_year_0 : tX6_year_0.all (fun x => decide (decode cX6_year x.1 = .ok x.2)) = true := by decide +kernel
def tX6_pass_0 : List (Nat × Instr × Nat) := [(0, .aload_n 0, 1), (1, .getfield 279, 3), (4, .ifCond .eq 7, 3), (7, .iload_n 1, 1), (8, .goto 12, 3), (11, .aload_n 0, 1), (12, .getfield 53, 3), (15, .aload_n 0, 1), (16, .getfield 283, 3), (19, .iaload, 1), (20, .istore_n 2, 1), (21, .aload_n 0, 1), (22, .getfield 53, 3), (25, .aload_n 0, 1), (26, .getfield 283, 3), (29, .iload_n 2, 1), (30, .iastore, 1), (31, .aload_n 0, 1), (32, .dup, 1), (33, .getfield 283, 3), (36, .iconst 1, 1), (37, .iadd, 1), (38, .putfield 283, 3), (41, .iload_n 2, 1), (42, .ireturn, 1)]
set_option maxRecDepth 20000 in
theorem zX6_pass_0 : tX6_pass_0.all (fun x => decide (decode cX6_pass x.1 = .ok x.2)) = true := by decide +kernel
def tX6_passRow_0 : List (Nat × Instr × Nat) := [(0, .iconst 0, 1), (1, .istore_n 3, 1), (2, .iload_n 3, 1), (3, .iload_n 2, 1), (4, .if_icmp .ge 19, 3), (7, .aload_n 1, 1), (8, .iload_n 3, 1), (9, .aload_n 0, 1), (10, .aload_n 1, 1), (11, .iload_n 3, 1), (12, .iaload, 1), (13, .invokevirtual 286, 3), (16, .iastore, 1), (17, .iinc 3 1, 3), (20, .goto (-18), 3), (23, .return_, 1)]
set_option maxRecDepth 20000 in
theorem zX6_passRow_0 : tX6_passRow_0.all (fun x => decide (decode cX6_passRow x.1 = .ok x.2)) = true := by decide +kernel
def tX6_passAll_0 : List (Nat × Instr × Nat) := [(0, .aload_n 0, 1), (1, .aload_n 0, 1), (2, .aload_n 0, 1), (3, .getfield 60, 3), (6, .invokevirtual 286, 3), (9, .putfield 60, 3), (12, .aload_n 0, 1), (13, .aload_n 0, 1), (14, .aload_n 0, 1), (15, .getfield 84, 3), (18, .invokevirtual 286, 3), (21, .putfield 84, 3), (24, .aload_n 0, 1), (25, .aload_n 0, 1), (26, .aload_n 0, 1), (27, .getfield 87, 3), (30, .invokevirtual 286, 3), (33, .putfield 87, 3), (36, .aload_n 0, 1), (37, .aload_n 0, 1), (38, .aload_n 0, 1), (39, .getfield 252, 3), (42, .invokevirtual 286, 3), (45, .putfield 252, 3), (48, .aload_n 0, 1), (49, .aload_n 0, 1), (50, .getfield 7, 3), (53, .bipush 100, 2), (55, .invokevirtual 289, 3), (58, .aload_n 0, 1), (59, .aload_n 0, 1), (60, .getfield 13, 3), (63, .bipush 100, 2), (65, .invokevirtual 289, 3), (68, .aload_n 0, 1), (69, .aload_n 0, 1), (70, .getfield 16, 3), (73, .iconst 4, 1), (74, .invokevirtual 289, 3), (77, .aload_n 0, 1), (78, .aload_n 0, 1), (79, .getfield 19, 3), (82, .bipush 8, 2), (84, .invokevirtual 289, 3), (87, .aload_n 0, 1), (88, .aload_n 0, 1), (89, .getfield 22, 3), (92, .bipush 8, 2), (94, .invokevirtual 289, 3), (97, .return_, 1)]
set_option maxRecDepth 20000 in
theorem zX6_passAll_0 : tX6_passAll_0.all (fun x => decide (decode cX6_passAll x.1 = .ok x.2)) = true := by decide +kernel
def tX6_image_0 : List (Nat × Instr × Nat) := [(0, .iload_n 1, 1), (1, .i2l, 1), (2, .lconst 0, 1), (3, .lconst 1, 1), (4, .invokestatic 66, 3), (7, .ifCond .ne 6, 3), (10, .bipush (-2), 2), (12, .ireturn, 1), (13, .aload_n 0, 1), (14, .sipush 240, 3), (17, .iload_n 1, 1), (18, .imul, 1), (19, .putfield 283, 3), (22, .aload_n 0, 1), (23, .iconst 1, 1), (24, .putfield 279, 3), (27, .aload_n 0, 1), (28, .invokevirtual 293, 3), (31, .aload_n 0, 1), (32, .getfield 56, 3), (35, .iload_n 1, 1), (36, .iconst 1, 1), (37, .bastore, 1), (38, .iconst 1, 1), (39, .ireturn, 1)]
set_option maxRecDepth 20000 in
theorem zX6_image_0 : tX6_image_0.all (fun x => decide (decode cX6_image x.1 = .ok x.2)) = true := by decide +kernel
def tX6_restore_0 : List (Nat × Instr × Nat) := [(0, .iload_n 1, 1), (1, .i2l, 1), (2, .lconst 0, 1), (3, .lconst 1, 1), (4, .invokestatic 66, 3), (7, .ifCond .ne 6, 3), (10, .bipush (-2), 2), (12, .ireturn, 1), (13, .aload_n 0, 1), (14, .getfield 56, 3), (17, .iload_n 1, 1), (18, .baload, 1), (19, .ifCond .ne 6, 3), (22, .bipush (-3), 2), (24, .ireturn, 1), (25, .aload_n 0, 1), (26, .sipush 240, 3), (29, .iload_n 1, 1), (30, .imul, 1), (31, .putfield 283, 3), (34, .aload_n 0, 1), (35, .iconst 0, 1), (36, .putfield 279, 3), (39, .aload_n 0, 1), (40, .invokevirtual 293, 3), (43, .iconst 1, 1), (44, .ireturn, 1)]
set_option maxRecDepth 20000 in
theorem zX6_restore_0 : tX6_restore_0.all (fun x => decide (decode cX6_restore x.1 = .ok x.2)) = true := by decide +kernel
def tX6_toldOfAll_0 : List (Nat × Instr × Nat) := [(0, .iload_n 1, 1), (1, .tableswitch 73 0 5 #[39, 44, 49, 54, 59, 68], 39), (40, .aload_n 0, 1), (41, .getfield 98, 3), (44, .ireturn, 1), (45, .aload_n 0, 1), (46, .getfield 60, 3), (49, .ireturn, 1), (50, .aload_n 0, 1), (51, .getfield 84, 3), (54, .ireturn, 1), (55, .aload_n 0, 1), (56, .getfield 87, 3), (59, .ireturn, 1), (60, .aload_n 0, 1), (61, .aload_n 0, 1), (62, .getfield 60, 3), (65, .invokevirtual 150, 3), (68, .ireturn, 1), (69, .aload_n 0, 1), (70, .getfield 252, 3), (73, .ireturn, 1), (74, .bipush (-2), 2), (76, .ireturn, 1)]
set_option maxRecDepth 20000 in
theorem zX6_toldOfAll_0 : tX6_toldOfAll_0.all (fun x => decide (decode cX6_toldOfAll x.1 = .ok x.2)) = true := by decide +kernel
def tX6_told_0 : List (Nat × Instr × Nat) := [(0, .iload_n 1, 1), (1, .i2l, 1), (2, .ldc2_w 296, 3), (5, .ldc2_w 298, 3), (8, .invokestatic 66, 3), (11, .ifCond .eq 13, 3), (14, .aload_n 0, 1), (15, .getfield 7, 3), (18, .iload_n 1, 1), (19, .bipush 100, 2), (21, .isub, 1), (22, .iaload, 1), (23, .ireturn, 1), (24, .iload_n 1, 1), (25, .i2l, 1), (26, .ldc2_w 300, 3), (29, .ldc2_w 302, 3), (32, .invokestatic 66, 3), (35, .ifCond .eq 32, 3), (38, .iload_n 1, 1), (39, .sipush 200, 3), (42, .isub, 1), (43, .istore_n 2, 1), (44, .iload_n 2, 1), (45, .bipush 10, 2), (47, .idiv, 1), (48, .iload_n 2, 1), (49, .bipush 10, 2), (51, .irem, 1), (52, .if_icmp .ne 8, 3), (55, .bipush (-6), 2), (57, .goto 9, 3), (60, .aload_n 0, 1), (61, .getfield 13, 3), (64, .iload_n 2, 1), (65, .iaload, 1), (66, .ireturn, 1), (67, .iload_n 1, 1), (68, .i2l, 1), (69, .ldc2_w 246, 3), (72, .ldc2_w 304, 3), (75, .invokestatic 66, 3), (78, .ifCond .eq 15, 3), (81, .aload_n 0, 1), (82, .getfield 16, 3), (85, .iload_n 1, 1), (86, .bipush 10, 2), (88, .isub, 1), (89, .iaload, 1), (90, .goto 8, 3), (93, .aload_n 0, 1), (94, .iload_n 1, 1), (95, .invokevirtual 306, 3), (98, .ireturn, 1)]
set_option maxRecDepth 20000 in
theorem zX6_told_0 : tX6_told_0.all (fun x => decide (decode cX6_told x.1 = .ok x.2)) = true := by decide +kernel
def tJ6_bitCount_0f7a4_0 : List (Nat × Instr × Nat) := [(0, .iload_n 0, 1), (1, .iload_n 0, 1), (2, .iconst 1, 1), (3, .iushr, 1), (4, .ldc_w 265, 3), (7, .iand, 1), (8, .isub, 1), (9, .istore_n 0, 1), (10, .iload_n 0, 1), (11, .ldc_w 266, 3), (14, .iand, 1), (15, .iload_n 0, 1), (16, .iconst 2, 1), (17, .iushr, 1), (18, .ldc_w 266, 3), (21, .iand, 1), (22, .iadd, 1), (23, .istore_n 0, 1), (24, .iload_n 0, 1), (25, .iload_n 0, 1), (26, .iconst 4, 1), (27, .iushr, 1), (28, .iadd, 1), (29, .ldc_w 267, 3), (32, .iand, 1), (33, .istore_n 0, 1), (34, .iload_n 0, 1), (35, .iload_n 0, 1), (36, .bipush 8, 2), (38, .iushr, 1), (39, .iadd, 1), (40, .istore_n 0, 1), (41, .iload_n 0, 1), (42, .iload_n 0, 1), (43, .bipush 16, 2), (45, .iushr, 1), (46, .iadd, 1), (47, .istore_n 0, 1), (48, .iload_n 0, 1), (49, .bipush 63, 2), (51, .iand, 1), (52, .ireturn, 1)]
set_option maxRecDepth 20000 in
theorem zJ6_bitCount_0f7a4_0 : tJ6_bitCount_0f7a4_0.all (fun x => decide (decode cJ6_bitCount_0f7a4 x.1 = .ok x.2)) = true := by decide +kernel
def tJ9_max_7cf53_0 : List (Nat × Instr × Nat) := [(0, .iload_n 0, 1), (1, .iload_n 1, 1), (2, .if_icmp .lt 7, 3), (5, .iload_n 0, 1), (6, .goto 4, 3), (9, .iload_n 1, 1), (10, .ireturn, 1)]
set_option maxRecDepth 20000 in
theorem zJ9_max_7cf53_0 : tJ9_max_7cf53_0.all (fun x => decide (decode cJ9_max_7cf53 x.1 = .ok x.2)) = true := by decide +kernel
def tJ9_min_7cf53_0 : List (Nat × Instr × Nat) := [(0, .iload_n 0, 1), (1, .iload_n 1, 1), (2, .if_icmp .gt 7, 3), (5, .iload_n 0, 1), (6, .goto 4, 3), (9, .iload_n 1, 1), (10, .ireturn, 1)]
set_option maxRecDepth 20000 in
theorem zJ9_min_7cf53_0 : tJ9_min_7cf53_0.all (fun x => decide (decode cJ9_min_7cf53 x.1 = .ok x.2)) = true := by decide +kernel
def tL_law_0 : List (Nat × Instr × Nat) := [(0, .new 7, 3), (3, .dup, 1), (4, .invokespecial 9, 3), (7, .astore_n 1, 1), (8, .new 10, 3), (11, .dup, 1), (12, .invokespecial 12, 3), (15, .astore_n 2, 1), (16, .iconst 0, 1), (17, .istore_n 3, 1), (18, .iload_n 3, 1), (19, .aload_n 0, 1), (20, .arraylength, 1), (21, .iconst 5, 1), (22, .isub, 1), (23, .if_icmp .gt 908, 3), (26, .aload_n 0, 1), (27, .iload_n 3, 1), (28, .iaload, 1), (29, .bipush 31, 2), (31, .iand, 1), (32, .tableswitch 893 0 26 #[124, 177, 220, 253, 276, 289, 302, 325, 358, 381, 404, 417, 440, 473, 506, 539, 573, 596, 645, 658, 671, 694, 748, 781, 824, 847, 870], 124), (156, .aload_n 1, 1), (157, .aload_n 0, 1), (158, .iload_n 3, 1), (159, .iconst 1, 1), (160, .iadd, 1), (161, .iaload, 1), (162, .aload_n 0, 1), (163, .iload_n 3, 1), (164, .iconst 2, 1), (165, .iadd, 1), (166, .iaload, 1), (167, .aload_n 0, 1), (168, .iload_n 3, 1), (169, .iconst 3, 1), (170, .iadd, 1), (171, .iaload, 1), (172, .aload_n 0, 1), (173, .iload_n 3, 1), (174, .iconst 4, 1), (175, .iadd, 1), (176, .iaload, 1), (177, .invokevirtual 13, 3), (180, .aload_n 2, 1), (181, .aload_n 0, 1), (182, .iload_n 3, 1), (183, .iconst 1, 1), (184, .iadd, 1), (185, .iaload, 1), (186, .aload_n 0, 1), (187, .iload_n 3, 1), (188, .iconst 2, 1), (189, .iadd, 1), (190, .iaload, 1), (191, .aload_n 0, 1), (192, .iload_n 3, 1), (193, .iconst 3, 1), (194, .iadd, 1), (195, .iaload, 1), (196, .aload_n 0, 1), (197, .iload_n 3, 1), (198, .iconst 4, 1), (199, .iadd, 1), (200, .iaload, 1), (201, .invokevirtual 17, 3), (204, .if_icmp .eq 721, 3), (207, .iconst 0, 1), (208, .ireturn, 1), (209, .aload_n 1, 1), (210, .aload_n 0, 1), (211, .iload_n 3, 1), (212, .iconst 1, 1), (213, .iadd, 1), (214, .iaload, 1), (215, .aload_n 0, 1), (216, .iload_n 3, 1), (217, .iconst 2, 1), (218, .iadd, 1), (219, .iaload, 1), (220, .aload_n 0, 1), (221, .iload_n 3, 1), (222, .iconst 3, 1), (223, .iadd, 1), (224, .iaload, 1), (225, .invokevirtual 18, 3), (228, .aload_n 2, 1), (229, .aload_n 0, 1), (230, .iload_n 3, 1), (231, .iconst 1, 1), (232, .iadd, 1), (233, .iaload, 1), (234, .aload_n 0, 1), (235, .iload_n 3, 1), (236, .iconst 2, 1), (237, .iadd, 1), (238, .iaload, 1), (239, .aload_n 0, 1), (240, .iload_n 3, 1), (241, .iconst 3, 1)]
set_option maxRecDepth 20000 in
theorem zL_law_0 : tL_law_0.all (fun x => decide (decode cL_law x.1 = .ok x.2)) = true := by decide +kernel
def tL_law_1 : List (Nat × Instr × Nat) := [(242, .iadd, 1), (243, .iaload, 1), (244, .invokevirtual 22, 3), (247, .if_icmp .eq 678, 3), (250, .iconst 0, 1), (251, .ireturn, 1), (252, .aload_n 1, 1), (253, .aload_n 0, 1), (254, .iload_n 3, 1), (255, .iconst 1, 1), (256, .iadd, 1), (257, .iaload, 1), (258, .aload_n 0, 1), (259, .iload_n 3, 1), (260, .iconst 2, 1), (261, .iadd, 1), (262, .iaload, 1), (263, .invokevirtual 23, 3), (266, .aload_n 2, 1), (267, .aload_n 0, 1), (268, .iload_n 3, 1), (269, .iconst 1, 1), (270, .iadd, 1), (271, .iaload, 1), (272, .aload_n 0, 1), (273, .iload_n 3, 1), (274, .iconst 2, 1), (275, .iadd, 1), (276, .iaload, 1), (277, .invokevirtual 27, 3), (280, .if_icmp .eq 645, 3), (283, .iconst 0, 1), (284, .ireturn, 1), (285, .aload_n 1, 1), (286, .aload_n 0, 1), (287, .iload_n 3, 1), (288, .iconst 1, 1), (289, .iadd, 1), (290, .iaload, 1), (291, .invokevirtual 28, 3), (294, .aload_n 2, 1), (295, .aload_n 0, 1), (296, .iload_n 3, 1), (297, .iconst 1, 1), (298, .iadd, 1), (299, .iaload, 1), (300, .invokevirtual 32, 3), (303, .if_icmp .eq 622, 3), (306, .iconst 0, 1), (307, .ireturn, 1), (308, .aload_n 1, 1), (309, .invokevirtual 33, 3), (312, .aload_n 2, 1), (313, .invokevirtual 37, 3), (316, .if_icmp .eq 609, 3), (319, .iconst 0, 1), (320, .ireturn, 1), (321, .aload_n 1, 1), (322, .invokevirtual 38, 3), (325, .aload_n 2, 1), (326, .invokevirtual 41, 3), (329, .if_icmp .eq 596, 3), (332, .iconst 0, 1), (333, .ireturn, 1), (334, .aload_n 1, 1), (335, .aload_n 0, 1), (336, .iload_n 3, 1), (337, .iconst 1, 1), (338, .iadd, 1), (339, .iaload, 1), (340, .invokevirtual 42, 3), (343, .aload_n 2, 1), (344, .aload_n 0, 1), (345, .iload_n 3, 1), (346, .iconst 1, 1), (347, .iadd, 1), (348, .iaload, 1), (349, .invokevirtual 45, 3), (352, .if_icmp .eq 573, 3), (355, .iconst 0, 1), (356, .ireturn, 1), (357, .aload_n 1, 1), (358, .aload_n 0, 1), (359, .iload_n 3, 1), (360, .iconst 1, 1), (361, .iadd, 1), (362, .iaload, 1), (363, .aload_n 0, 1), (364, .iload_n 3, 1), (365, .iconst 2, 1), (366, .iadd, 1), (367, .iaload, 1), (368, .invokevirtual 46, 3), (371, .aload_n 2, 1), (372, .aload_n 0, 1), (373, .iload_n 3, 1), (374, .iconst 1, 1), (375, .iadd, 1), (376, .iaload, 1), (377, .aload_n 0, 1)]
set_option maxRecDepth 20000 in
theorem zL_law_1 : tL_law_1.all (fun x => decide (decode cL_law x.1 = .ok x.2)) = true := by decide +kernel
def tL_law_2 : List (Nat × Instr × Nat) := [(378, .iload_n 3, 1), (379, .iconst 2, 1), (380, .iadd, 1), (381, .iaload, 1), (382, .invokevirtual 49, 3), (385, .if_icmp .eq 540, 3), (388, .iconst 0, 1), (389, .ireturn, 1), (390, .aload_n 1, 1), (391, .aload_n 0, 1), (392, .iload_n 3, 1), (393, .iconst 1, 1), (394, .iadd, 1), (395, .iaload, 1), (396, .invokevirtual 50, 3), (399, .aload_n 2, 1), (400, .aload_n 0, 1), (401, .iload_n 3, 1), (402, .iconst 1, 1), (403, .iadd, 1), (404, .iaload, 1), (405, .invokevirtual 53, 3), (408, .if_icmp .eq 517, 3), (411, .iconst 0, 1), (412, .ireturn, 1), (413, .aload_n 1, 1), (414, .aload_n 0, 1), (415, .iload_n 3, 1), (416, .iconst 1, 1), (417, .iadd, 1), (418, .iaload, 1), (419, .invokevirtual 54, 3), (422, .aload_n 2, 1), (423, .aload_n 0, 1), (424, .iload_n 3, 1), (425, .iconst 1, 1), (426, .iadd, 1), (427, .iaload, 1), (428, .invokevirtual 57, 3), (431, .if_icmp .eq 494, 3), (434, .iconst 0, 1), (435, .ireturn, 1), (436, .aload_n 1, 1), (437, .invokevirtual 58, 3), (440, .aload_n 2, 1), (441, .invokevirtual 61, 3), (444, .if_icmp .eq 481, 3), (447, .iconst 0, 1), (448, .ireturn, 1), (449, .aload_n 1, 1), (450, .aload_n 0, 1), (451, .iload_n 3, 1), (452, .iconst 1, 1), (453, .iadd, 1), (454, .iaload, 1), (455, .invokevirtual 62, 3), (458, .aload_n 2, 1), (459, .aload_n 0, 1), (460, .iload_n 3, 1), (461, .iconst 1, 1), (462, .iadd, 1), (463, .iaload, 1), (464, .invokevirtual 65, 3), (467, .if_icmp .eq 458, 3), (470, .iconst 0, 1), (471, .ireturn, 1), (472, .aload_n 1, 1), (473, .aload_n 0, 1), (474, .iload_n 3, 1), (475, .iconst 1, 1), (476, .iadd, 1), (477, .iaload, 1), (478, .aload_n 0, 1), (479, .iload_n 3, 1), (480, .iconst 2, 1), (481, .iadd, 1), (482, .iaload, 1), (483, .invokevirtual 66, 3), (486, .aload_n 2, 1), (487, .aload_n 0, 1), (488, .iload_n 3, 1), (489, .iconst 1, 1), (490, .iadd, 1), (491, .iaload, 1), (492, .aload_n 0, 1), (493, .iload_n 3, 1), (494, .iconst 2, 1), (495, .iadd, 1), (496, .iaload, 1), (497, .invokevirtual 69, 3), (500, .if_icmp .eq 425, 3), (503, .iconst 0, 1), (504, .ireturn, 1), (505, .aload_n 1, 1), (506, .aload_n 0, 1), (507, .iload_n 3, 1), (508, .iconst 1, 1), (509, .iadd, 1), (510, .iaload, 1), (511, .aload_n 0, 1)]
set_option maxRecDepth 20000 in
theorem zL_law_2 : tL_law_2.all (fun x => decide (decode cL_law x.1 = .ok x.2)) = true := by decide +kernel
def tL_law_3 : List (Nat × Instr × Nat) := [(512, .iload_n 3, 1), (513, .iconst 2, 1), (514, .iadd, 1), (515, .iaload, 1), (516, .invokevirtual 70, 3), (519, .aload_n 2, 1), (520, .aload_n 0, 1), (521, .iload_n 3, 1), (522, .iconst 1, 1), (523, .iadd, 1), (524, .iaload, 1), (525, .aload_n 0, 1), (526, .iload_n 3, 1), (527, .iconst 2, 1), (528, .iadd, 1), (529, .iaload, 1), (530, .invokevirtual 73, 3), (533, .if_icmp .eq 392, 3), (536, .iconst 0, 1), (537, .ireturn, 1), (538, .aload_n 1, 1), (539, .aload_n 0, 1), (540, .iload_n 3, 1), (541, .iconst 1, 1), (542, .iadd, 1), (543, .iaload, 1), (544, .aload_n 0, 1), (545, .iload_n 3, 1), (546, .iconst 2, 1), (547, .iadd, 1), (548, .iaload, 1), (549, .invokevirtual 74, 3), (552, .aload_n 2, 1), (553, .aload_n 0, 1), (554, .iload_n 3, 1), (555, .iconst 1, 1), (556, .iadd, 1), (557, .iaload, 1), (558, .aload_n 0, 1), (559, .iload_n 3, 1), (560, .iconst 2, 1), (561, .iadd, 1), (562, .iaload, 1), (563, .invokevirtual 77, 3), (566, .if_icmp .eq 359, 3), (569, .iconst 0, 1), (570, .ireturn, 1), (571, .aload_n 1, 1), (572, .aload_n 0, 1), (573, .iload_n 3, 1), (574, .iconst 1, 1), (575, .iadd, 1), (576, .iaload, 1), (577, .aload_n 0, 1), (578, .iload_n 3, 1), (579, .iconst 2, 1), (580, .iadd, 1), (581, .iaload, 1), (582, .invokevirtual 78, 3), (585, .aload_n 2, 1), (586, .aload_n 0, 1), (587, .iload_n 3, 1), (588, .iconst 1, 1), (589, .iadd, 1), (590, .iaload, 1), (591, .aload_n 0, 1), (592, .iload_n 3, 1), (593, .iconst 2, 1), (594, .iadd, 1), (595, .iaload, 1), (596, .invokevirtual 82, 3), (599, .lcmp, 1), (600, .ifCond .eq 325, 3), (603, .iconst 0, 1), (604, .ireturn, 1), (605, .aload_n 1, 1), (606, .aload_n 0, 1), (607, .iload_n 3, 1), (608, .iconst 1, 1), (609, .iadd, 1), (610, .iaload, 1), (611, .invokevirtual 83, 3), (614, .aload_n 2, 1), (615, .aload_n 0, 1), (616, .iload_n 3, 1), (617, .iconst 1, 1), (618, .iadd, 1), (619, .iaload, 1), (620, .invokevirtual 86, 3), (623, .if_icmp .eq 302, 3), (626, .iconst 0, 1), (627, .ireturn, 1), (628, .aload_n 1, 1), (629, .aload_n 0, 1), (630, .iload_n 3, 1), (631, .iconst 1, 1), (632, .iadd, 1), (633, .iaload, 1), (634, .aload_n 0, 1), (635, .iload_n 3, 1)]
set_option maxRecDepth 20000 in
theorem zL_law_3 : tL_law_3.all (fun x => decide (decode cL_law x.1 = .ok x.2)) = true := by decide +kernel
def tL_law_4 : List (Nat × Instr × Nat) := [(636, .iconst 2, 1), (637, .iadd, 1), (638, .iaload, 1), (639, .ifCond .eq 7, 3), (642, .iconst 1, 1), (643, .goto 4, 3), (646, .iconst 0, 1), (647, .invokevirtual 87, 3), (650, .aload_n 2, 1), (651, .aload_n 0, 1), (652, .iload_n 3, 1), (653, .iconst 1, 1), (654, .iadd, 1), (655, .iaload, 1), (656, .aload_n 0, 1), (657, .iload_n 3, 1), (658, .iconst 2, 1), (659, .iadd, 1), (660, .iaload, 1), (661, .ifCond .eq 7, 3), (664, .iconst 1, 1), (665, .goto 4, 3), (668, .iconst 0, 1), (669, .invokevirtual 91, 3), (672, .if_icmp .eq 253, 3), (675, .iconst 0, 1), (676, .ireturn, 1), (677, .aload_n 1, 1), (678, .invokevirtual 92, 3), (681, .aload_n 2, 1), (682, .invokevirtual 95, 3), (685, .if_icmp .eq 240, 3), (688, .iconst 0, 1), (689, .ireturn, 1), (690, .aload_n 1, 1), (691, .invokevirtual 96, 3), (694, .aload_n 2, 1), (695, .invokevirtual 99, 3), (698, .if_icmp .eq 227, 3), (701, .iconst 0, 1), (702, .ireturn, 1), (703, .aload_n 1, 1), (704, .aload_n 0, 1), (705, .iload_n 3, 1), (706, .iconst 1, 1), (707, .iadd, 1), (708, .iaload, 1), (709, .invokevirtual 100, 3), (712, .aload_n 2, 1), (713, .aload_n 0, 1), (714, .iload_n 3, 1), (715, .iconst 1, 1), (716, .iadd, 1), (717, .iaload, 1), (718, .invokevirtual 103, 3), (721, .if_icmp .eq 204, 3), (724, .iconst 0, 1), (725, .ireturn, 1), (726, .aload_n 1, 1), (727, .aload_n 0, 1), (728, .iload_n 3, 1), (729, .iconst 1, 1), (730, .iadd, 1), (731, .iaload, 1), (732, .aload_n 0, 1), (733, .iload_n 3, 1), (734, .iconst 2, 1), (735, .iadd, 1), (736, .iaload, 1), (737, .aload_n 0, 1), (738, .iload_n 3, 1), (739, .iconst 3, 1), (740, .iadd, 1), (741, .iaload, 1), (742, .aload_n 0, 1), (743, .iload_n 3, 1), (744, .iconst 4, 1), (745, .iadd, 1), (746, .iaload, 1), (747, .invokevirtual 104, 3), (750, .aload_n 2, 1), (751, .aload_n 0, 1), (752, .iload_n 3, 1), (753, .iconst 1, 1), (754, .iadd, 1), (755, .iaload, 1), (756, .aload_n 0, 1), (757, .iload_n 3, 1), (758, .iconst 2, 1), (759, .iadd, 1), (760, .iaload, 1), (761, .aload_n 0, 1), (762, .iload_n 3, 1), (763, .iconst 3, 1), (764, .iadd, 1), (765, .iaload, 1), (766, .aload_n 0, 1), (767, .iload_n 3, 1), (768, .iconst 4, 1), (769, .iadd, 1)]
set_option maxRecDepth 20000 in
theorem zL_law_4 : tL_law_4.all (fun x => decide (decode cL_law x.1 = .ok x.2)) = true := by decide +kernel
def tL_law_5 : List (Nat × Instr × Nat) := [(770, .iaload, 1), (771, .invokevirtual 108, 3), (774, .lcmp, 1), (775, .ifCond .eq 150, 3), (778, .iconst 0, 1), (779, .ireturn, 1), (780, .aload_n 1, 1), (781, .aload_n 0, 1), (782, .iload_n 3, 1), (783, .iconst 1, 1), (784, .iadd, 1), (785, .iaload, 1), (786, .aload_n 0, 1), (787, .iload_n 3, 1), (788, .iconst 2, 1), (789, .iadd, 1), (790, .iaload, 1), (791, .invokevirtual 109, 3), (794, .aload_n 2, 1), (795, .aload_n 0, 1), (796, .iload_n 3, 1), (797, .iconst 1, 1), (798, .iadd, 1), (799, .iaload, 1), (800, .aload_n 0, 1), (801, .iload_n 3, 1), (802, .iconst 2, 1), (803, .iadd, 1), (804, .iaload, 1), (805, .invokevirtual 112, 3), (808, .if_icmp .eq 117, 3), (811, .iconst 0, 1), (812, .ireturn, 1), (813, .aload_n 1, 1), (814, .aload_n 0, 1), (815, .iload_n 3, 1), (816, .iconst 1, 1), (817, .iadd, 1), (818, .iaload, 1), (819, .aload_n 0, 1), (820, .iload_n 3, 1), (821, .iconst 2, 1), (822, .iadd, 1), (823, .iaload, 1), (824, .aload_n 0, 1), (825, .iload_n 3, 1), (826, .iconst 3, 1), (827, .iadd, 1), (828, .iaload, 1), (829, .invokevirtual 113, 3), (832, .aload_n 2, 1), (833, .aload_n 0, 1), (834, .iload_n 3, 1), (835, .iconst 1, 1), (836, .iadd, 1), (837, .iaload, 1), (838, .aload_n 0, 1), (839, .iload_n 3, 1), (840, .iconst 2, 1), (841, .iadd, 1), (842, .iaload, 1), (843, .aload_n 0, 1), (844, .iload_n 3, 1), (845, .iconst 3, 1), (846, .iadd, 1), (847, .iaload, 1), (848, .invokevirtual 116, 3), (851, .if_icmp .eq 74, 3), (854, .iconst 0, 1), (855, .ireturn, 1), (856, .aload_n 1, 1), (857, .aload_n 0, 1), (858, .iload_n 3, 1), (859, .iconst 1, 1), (860, .iadd, 1), (861, .iaload, 1), (862, .invokevirtual 117, 3), (865, .aload_n 2, 1), (866, .aload_n 0, 1), (867, .iload_n 3, 1), (868, .iconst 1, 1), (869, .iadd, 1), (870, .iaload, 1), (871, .invokevirtual 120, 3), (874, .if_icmp .eq 51, 3), (877, .iconst 0, 1), (878, .ireturn, 1), (879, .aload_n 1, 1), (880, .aload_n 0, 1), (881, .iload_n 3, 1), (882, .iconst 1, 1), (883, .iadd, 1), (884, .iaload, 1), (885, .invokevirtual 121, 3), (888, .aload_n 2, 1), (889, .aload_n 0, 1), (890, .iload_n 3, 1), (891, .iconst 1, 1), (892, .iadd, 1), (893, .iaload, 1)]
set_option maxRecDepth 20000 in
theorem zL_law_5 : tL_law_5.all (fun x => decide (decode cL_law x.1 = .ok x.2)) = true := by decide +kernel
def tL_law_6 : List (Nat × Instr × Nat) := [(894, .invokevirtual 124, 3), (897, .if_icmp .eq 28, 3), (900, .iconst 0, 1), (901, .ireturn, 1), (902, .aload_n 1, 1), (903, .aload_n 0, 1), (904, .iload_n 3, 1), (905, .iconst 1, 1), (906, .iadd, 1), (907, .iaload, 1), (908, .invokevirtual 125, 3), (911, .aload_n 2, 1), (912, .aload_n 0, 1), (913, .iload_n 3, 1), (914, .iconst 1, 1), (915, .iadd, 1), (916, .iaload, 1), (917, .invokevirtual 128, 3), (920, .if_icmp .eq 5, 3), (923, .iconst 0, 1), (924, .ireturn, 1), (925, .iinc 3 5, 3), (928, .goto (-910), 3), (931, .iconst 1, 1), (932, .ireturn, 1)]
set_option maxRecDepth 20000 in
theorem zL_law_6 : tL_law_6.all (fun x => decide (decode cL_law x.1 = .ok x.2)) = true := by decide +kernel
end
section
theorem wr_1 : ∀ w ∈ wsL_law_r1, w ∈ wsL_law := fun _ h => List.mem_append_left _ (List.mem_append_left _ (List.mem_append_left _ (List.mem_append_left _ (List.mem_append_left _ (List.mem_append_left _ (List.mem_append_left _ (List.mem_append_left _ (List.mem_append_left _ h))))))))
theorem wr_2 : ∀ w ∈ wsL_law_r2, w ∈ wsL_law := fun _ h => List.mem_append_left _ (List.mem_append_left _ (List.mem_append_left _ (List.mem_append_left _ (List.mem_append_left _ (List.mem_append_left _ (List.mem_append_left _ (List.mem_append_left _ (List.mem_append_right _ (List.mem_append_left _ h)))))))))
theorem wr_3 : ∀ w ∈ wsL_law_r3, w ∈ wsL_law := fun _ h => List.mem_append_left _ (List.mem_append_left _ (List.mem_append_left _ (List.mem_append_left _ (List.mem_append_left _ (List.mem_append_left _ (List.mem_append_left _ (List.mem_append_left _ (List.mem_append_right _ (List.mem_append_right _ (List.mem_append_left _ h))))))))))
theorem wr_4 : ∀ w ∈ wsL_law_r4, w ∈ wsL_law := fun _ h => List.mem_append_left _ (List.mem_append_left _ (List.mem_append_left _ (List.mem_append_left _ (List.mem_append_left _ (List.mem_append_left _ (List.mem_append_left _ (List.mem_append_left _ (List.mem_append_right _ (List.mem_append_right _ (List.mem_append_right _ (List.mem_append_left _ h)))))))))))
theorem wr_5 : ∀ w ∈ wsL_law_r5, w ∈ wsL_law := fun _ h => List.mem_append_left _ (List.mem_append_left _ (List.mem_append_left _ (List.mem_append_left _ (List.mem_append_left _ (List.mem_append_left _ (List.mem_append_left _ (List.mem_append_left _ (List.mem_append_right _ (List.mem_append_right _ (List.mem_append_right _ (List.mem_append_right _ (List.mem_append_left _ h))))))))))))
theorem wr_6 : ∀ w ∈ wsL_law_r6, w ∈ wsL_law := fun _ h => List.mem_append_left _ (List.mem_append_left _ (List.mem_append_left _ (List.mem_append_left _ (List.mem_append_left _ (List.mem_append_left _ (List.mem_append_left _ (List.mem_append_left _ (List.mem_append_right _ (List.mem_append_right _ (List.mem_append_right _ (List.mem_append_right _ (List.mem_append_right _ (List.mem_append_left _ h)))))))))))))
theorem wr_7 : ∀ w ∈ wsL_law_r7, w ∈ wsL_law := fun _ h => List.mem_append_left _ (List.mem_append_left _ (List.mem_append_left _ (List.mem_append_left _ (List.mem_append_left _ (List.mem_append_left _ (List.mem_append_left _ (List.mem_append_left _ (List.mem_append_right _ (List.mem_append_right _ (List.mem_append_right _ (List.mem_append_right _ (List.mem_append_right _ (List.mem_append_right _ (List.mem_append_left _ h))))))))))))))
theorem wr_8 : ∀ w ∈ wsL_law_r8, w ∈ wsL_law := fun _ h => List.mem_append_left _ (List.mem_append_left _ (List.mem_append_left _ (List.mem_append_left _ (List.mem_append_left _ (List.mem_append_left _ (List.mem_append_left _ (List.mem_append_left _ (List.mem_append_right _ (List.mem_append_right _ (List.mem_append_right _ (List.mem_append_right _ (List.mem_append_right _ (List.mem_append_right _ (List.mem_append_right _ (List.mem_append_left _ h)))))))))))))))
theorem wr_9 : ∀ w ∈ wsL_law_r9, w ∈ wsL_law := fun _ h => List.mem_append_left _ (List.mem_append_left _ (List.mem_append_left _ (List.mem_append_left _ (List.mem_append_left _ (List.mem_append_left _ (List.mem_append_left _ (List.mem_append_left _ (List.mem_append_right _ (List.mem_append_right _ (List.mem_append_right _ (List.mem_append_right _ (List.mem_append_right _ (List.mem_append_right _ (List.mem_append_right _ (List.mem_append_right _ (List.mem_append_left _ h))))))))))))))))
theorem wr_10 : ∀ w ∈ wsL_law_r10, w ∈ wsL_law := fun _ h => List.mem_append_left _ (List.mem_append_left _ (List.mem_append_left _ (List.mem_append_left _ (List.mem_append_left _ (List.mem_append_left _ (List.mem_append_left _ (List.mem_append_left _ (List.mem_append_right _ (List.mem_append_right _ (List.mem_append_right _ (List.mem_append_right _ (List.mem_append_right _ (List.mem_append_right _ (List.mem_append_right _ (List.mem_append_right _ (List.mem_append_right _ (List.mem_append_left _ h)))))))))))))))))
theorem wr_11 : ∀ w ∈ wsL_law_r11, w ∈ wsL_law := fun _ h => List.mem_append_left _ (List.mem_append_left _ (List.mem_append_left _ (List.mem_append_left _ (List.mem_append_left _ (List.mem_append_left _ (List.mem_append_left _ (List.mem_append_left _ (List.mem_append_right _ (List.mem_append_right _ (List.mem_append_right _ (List.mem_append_right _ (List.mem_append_right _ (List.mem_append_right _ (List.mem_append_right _ (List.mem_append_right _ (List.mem_append_right _ (List.mem_append_right _ (List.mem_append_left _ h))))))))))))))))))
theorem wr_12 : ∀ w ∈ wsL_law_r12, w ∈ wsL_law := fun _ h => List.mem_append_left _ (List.mem_append_left _ (List.mem_append_left _ (List.mem_append_left _ (List.mem_append_left _ (List.mem_append_left _ (List.mem_append_left _ (List.mem_append_left _ (List.mem_append_right _ (List.mem_append_right _ (List.mem_append_right _ (List.mem_append_right _ (List.mem_append_right _ (List.mem_append_right _ (List.mem_append_right _ (List.mem_append_right _ (List.mem_append_right _ (List.mem_append_right _ (List.mem_append_right _ (List.mem_append_left _ h)))))))))))))))))))
theorem wr_13 : ∀ w ∈ wsL_law_r13, w ∈ wsL_law := fun _ h => List.mem_append_left _ (List.mem_append_left _ (List.mem_append_left _ (List.mem_append_left _ (List.mem_append_left _ (List.mem_append_left _ (List.mem_append_left _ (List.mem_append_left _ (List.mem_append_right _ (List.mem_append_right _ (List.mem_append_right _ (List.mem_append_right _ (List.mem_append_right _ (List.mem_append_right _ (List.mem_append_right _ (List.mem_append_right _ (List.mem_append_right _ (List.mem_append_right _ (List.mem_append_right _ (List.mem_append_right _ (List.mem_append_left _ h))))))))))))))))))))
theorem wr_14 : ∀ w ∈ wsL_law_r14, w ∈ wsL_law := fun _ h => List.mem_append_left _ (List.mem_append_left _ (List.mem_append_left _ (List.mem_append_left _ (List.mem_append_left _ (List.mem_append_left _ (List.mem_append_left _ (List.mem_append_left _ (List.mem_append_right _ (List.mem_append_right _ (List.mem_append_right _ (List.mem_append_right _ (List.mem_append_right _ (List.mem_append_right _ (List.mem_append_right _ (List.mem_append_right _ (List.mem_append_right _ (List.mem_append_right _ (List.mem_append_right _ (List.mem_append_right _ (List.mem_append_right _ (List.mem_append_left _ h)))))))))))))))))))))
theorem wr_15 : ∀ w ∈ wsL_law_r15, w ∈ wsL_law := fun _ h => List.mem_append_left _ (List.mem_append_left _ (List.mem_append_left _ (List.mem_append_left _ (List.mem_append_left _ (List.mem_append_left _ (List.mem_append_left _ (List.mem_append_left _ (List.mem_append_right _ (List.mem_append_right _ (List.mem_append_right _ (List.mem_append_right _ (List.mem_append_right _ (List.mem_append_right _ (List.mem_append_right _ (List.mem_append_right _ (List.mem_append_right _ (List.mem_append_right _ (List.mem_append_right _ (List.mem_append_right _ (List.mem_append_right _ (List.mem_append_right _ (List.mem_append_left _ h))))))))))))))))))))))
theorem wr_16 : ∀ w ∈ wsL_law_r16, w ∈ wsL_law := fun _ h => List.mem_append_left _ (List.mem_append_left _ (List.mem_append_left _ (List.mem_append_left _ (List.mem_append_left _ (List.mem_append_left _ (List.mem_append_left _ (List.mem_append_left _ (List.mem_append_right _ (List.mem_append_right _ (List.mem_append_right _ (List.mem_append_right _ (List.mem_append_right _ (List.mem_append_right _ (List.mem_append_right _ (List.mem_append_right _ (List.mem_append_right _ (List.mem_append_right _ (List.mem_append_right _ (List.mem_append_right _ (List.mem_append_right _ (List.mem_append_right _ (List.mem_append_right _ (List.mem_append_left _ h)))))))))))))))))))))))
theorem wr_17 : ∀ w ∈ wsL_law_r17, w ∈ wsL_law := fun _ h => List.mem_append_left _ (List.mem_append_left _ (List.mem_append_left _ (List.mem_append_left _ (List.mem_append_left _ (List.mem_append_left _ (List.mem_append_left _ (List.mem_append_left _ (List.mem_append_right _ (List.mem_append_right _ (List.mem_append_right _ (List.mem_append_right _ (List.mem_append_right _ (List.mem_append_right _ (List.mem_append_right _ (List.mem_append_right _ (List.mem_append_right _ (List.mem_append_right _ (List.mem_append_right _ (List.mem_append_right _ (List.mem_append_right _ (List.mem_append_right _ (List.mem_append_right _ (List.mem_append_right _ (List.mem_append_left _ h))))))))))))))))))))))))
theorem wr_18 : ∀ w ∈ wsL_law_r18, w ∈ wsL_law := fun _ h => List.mem_append_left _ (List.mem_append_left _ (List.mem_append_left _ (List.mem_append_left _ (List.mem_append_left _ (List.mem_append_left _ (List.mem_append_left _ (List.mem_append_left _ (List.mem_append_right _ (List.mem_append_right _ (List.mem_append_right _ (List.mem_append_right _ (List.mem_append_right _ (List.mem_append_right _ (List.mem_append_right _ (List.mem_append_right _ (List.mem_append_right _ (List.mem_append_right _ (List.mem_append_right _ (List.mem_append_right _ (List.mem_append_right _ (List.mem_append_right _ (List.mem_append_right _ (List.mem_append_right _ (List.mem_append_right _ (List.mem_append_left _ h)))))))))))))))))))))))))
theorem wr_19 : ∀ w ∈ wsL_law_r19, w ∈ wsL_law := fun _ h => List.mem_append_left _ (List.mem_append_left _ (List.mem_append_left _ (List.mem_append_left _ (List.mem_append_left _ (List.mem_append_left _ (List.mem_append_left _ (List.mem_append_left _ (List.mem_append_right _ (List.mem_append_right _ (List.mem_append_right _ (List.mem_append_right _ (List.mem_append_right _ (List.mem_append_right _ (List.mem_append_right _ (List.mem_append_right _ (List.mem_append_right _ (List.mem_append_right _ (List.mem_append_right _ (List.mem_append_right _ (List.mem_append_right _ (List.mem_append_right _ (List.mem_append_right _ (List.mem_append_right _ (List.mem_append_right _ (List.mem_append_right _ (List.mem_append_left _ h))))))))))))))))))))))))))
theorem wr_20 : ∀ w ∈ wsL_law_r20, w ∈ wsL_law := fun _ h => List.mem_append_left _ (List.mem_append_left _ (List.mem_append_left _ (List.mem_append_left _ (List.mem_append_left _ (List.mem_append_left _ (List.mem_append_left _ (List.mem_append_left _ (List.mem_append_right _ (List.mem_append_right _ (List.mem_append_right _ (List.mem_append_right _ (List.mem_append_right _ (List.mem_append_right _ (List.mem_append_right _ (List.mem_append_right _ (List.mem_append_right _ (List.mem_append_right _ (List.mem_append_right _ (List.mem_append_right _ (List.mem_append_right _ (List.mem_append_right _ (List.mem_append_right _ (List.mem_append_right _ (List.mem_append_right _ (List.mem_append_right _ (List.mem_append_right _ (List.mem_append_left _ h)))))))))))))))))))))))))))
theorem wr_21 : ∀ w ∈ wsL_law_r21, w ∈ wsL_law := fun _ h => List.mem_append_left _ (List.mem_append_left _ (List.mem_append_left _ (List.mem_append_left _ (List.mem_append_left _ (List.mem_append_left _ (List.mem_append_left _ (List.mem_append_left _ (List.mem_append_right _ (List.mem_append_right _ (List.mem_append_right _ (List.mem_append_right _ (List.mem_append_right _ (List.mem_append_right _ (List.mem_append_right _ (List.mem_append_right _ (List.mem_append_right _ (List.mem_append_right _ (List.mem_append_right _ (List.mem_append_right _ (List.mem_append_right _ (List.mem_append_right _ (List.mem_append_right _ (List.mem_append_right _ (List.mem_append_right _ (List.mem_append_right _ (List.mem_append_right _ (List.mem_append_right _ (List.mem_append_left _ h))))))))))))))))))))))))))))
theorem wr_22 : ∀ w ∈ wsL_law_r22, w ∈ wsL_law := fun _ h => List.mem_append_left _ (List.mem_append_left _ (List.mem_append_left _ (List.mem_append_left _ (List.mem_append_left _ (List.mem_append_left _ (List.mem_append_left _ (List.mem_append_left _ (List.mem_append_right _ (List.mem_append_right _ (List.mem_append_right _ (List.mem_append_right _ (List.mem_append_right _ (List.mem_append_right _ (List.mem_append_right _ (List.mem_append_right _ (List.mem_append_right _ (List.mem_append_right _ (List.mem_append_right _ (List.mem_append_right _ (List.mem_append_right _ (List.mem_append_right _ (List.mem_append_right _ (List.mem_append_right _ (List.mem_append_right _ (List.mem_append_right _ (List.mem_append_right _ (List.mem_append_right _ (List.mem_append_right _ (List.mem_append_left _ h)))))))))))))))))))))))))))))
theorem wr_23 : ∀ w ∈ wsL_law_r23, w ∈ wsL_law := fun _ h => List.mem_append_left _ (List.mem_append_left _ (List.mem_append_left _ (List.mem_append_left _ (List.mem_append_left _ (List.mem_append_left _ (List.mem_append_left _ (List.mem_append_left _ (List.mem_append_right _ (List.mem_append_right _ (List.mem_append_right _ (List.mem_append_right _ (List.mem_append_right _ (List.mem_append_right _ (List.mem_append_right _ (List.mem_append_right _ (List.mem_append_right _ (List.mem_append_right _ (List.mem_append_right _ (List.mem_append_right _ (List.mem_append_right _ (List.mem_append_right _ (List.mem_append_right _ (List.mem_append_right _ (List.mem_append_right _ (List.mem_append_right _ (List.mem_append_right _ (List.mem_append_right _ (List.mem_append_right _ (List.mem_append_right _ (List.mem_append_left _ h))))))))))))))))))))))))))))))
theorem wr_24 : ∀ w ∈ wsL_law_r24, w ∈ wsL_law := fun _ h => List.mem_append_left _ (List.mem_append_left _ (List.mem_append_left _ (List.mem_append_left _ (List.mem_append_left _ (List.mem_append_left _ (List.mem_append_left _ (List.mem_append_left _ (List.mem_append_right _ (List.mem_append_right _ (List.mem_append_right _ (List.mem_append_right _ (List.mem_append_right _ (List.mem_append_right _ (List.mem_append_right _ (List.mem_append_right _ (List.mem_append_right _ (List.mem_append_right _ (List.mem_append_right _ (List.mem_append_right _ (List.mem_append_right _ (List.mem_append_right _ (List.mem_append_right _ (List.mem_append_right _ (List.mem_append_right _ (List.mem_append_right _ (List.mem_append_right _ (List.mem_append_right _ (List.mem_append_right _ (List.mem_append_right _ (List.mem_append_right _ (List.mem_append_left _ h)))))))))))))))))))))))))))))))
theorem wr_25 : ∀ w ∈ wsL_law_r25, w ∈ wsL_law := fun _ h => List.mem_append_left _ (List.mem_append_left _ (List.mem_append_left _ (List.mem_append_left _ (List.mem_append_left _ (List.mem_append_left _ (List.mem_append_left _ (List.mem_append_left _ (List.mem_append_right _ (List.mem_append_right _ (List.mem_append_right _ (List.mem_append_right _ (List.mem_append_right _ (List.mem_append_right _ (List.mem_append_right _ (List.mem_append_right _ (List.mem_append_right _ (List.mem_append_right _ (List.mem_append_right _ (List.mem_append_right _ (List.mem_append_right _ (List.mem_append_right _ (List.mem_append_right _ (List.mem_append_right _ (List.mem_append_right _ (List.mem_append_right _ (List.mem_append_right _ (List.mem_append_right _ (List.mem_append_right _ (List.mem_append_right _ (List.mem_append_right _ (List.mem_append_right _ (List.mem_append_left _ h))))))))))))))))))))))))))))))))
theorem wr_26 : ∀ w ∈ wsL_law_r26, w ∈ wsL_law := fun _ h => List.mem_append_left _ (List.mem_append_left _ (List.mem_append_left _ (List.mem_append_left _ (List.mem_append_left _ (List.mem_append_left _ (List.mem_append_left _ (List.mem_append_left _ (List.mem_append_right _ (List.mem_append_right _ (List.mem_append_right _ (List.mem_append_right _ (List.mem_append_right _ (List.mem_append_right _ (List.mem_append_right _ (List.mem_append_right _ (List.mem_append_right _ (List.mem_append_right _ (List.mem_append_right _ (List.mem_append_right _ (List.mem_append_right _ (List.mem_append_right _ (List.mem_append_right _ (List.mem_append_right _ (List.mem_append_right _ (List.mem_append_right _ (List.mem_append_right _ (List.mem_append_right _ (List.mem_append_right _ (List.mem_append_right _ (List.mem_append_right _ (List.mem_append_right _ (List.mem_append_right _ (List.mem_append_left _ h)))))))))))))))))))))))))))))))))
theorem wr_27 : ∀ w ∈ wsL_law_r27, w ∈ wsL_law := fun _ h => List.mem_append_left _ (List.mem_append_left _ (List.mem_append_left _ (List.mem_append_left _ (List.mem_append_left _ (List.mem_append_left _ (List.mem_append_left _ (List.mem_append_left _ (List.mem_append_right _ (List.mem_append_right _ (List.mem_append_right _ (List.mem_append_right _ (List.mem_append_right _ (List.mem_append_right _ (List.mem_append_right _ (List.mem_append_right _ (List.mem_append_right _ (List.mem_append_right _ (List.mem_append_right _ (List.mem_append_right _ (List.mem_append_right _ (List.mem_append_right _ (List.mem_append_right _ (List.mem_append_right _ (List.mem_append_right _ (List.mem_append_right _ (List.mem_append_right _ (List.mem_append_right _ (List.mem_append_right _ (List.mem_append_right _ (List.mem_append_right _ (List.mem_append_right _ (List.mem_append_right _ (List.mem_append_right _ (List.mem_append_left _ h))))))))))))))))))))))))))))))))))
theorem wr_28 : ∀ w ∈ wsL_law_r28, w ∈ wsL_law := fun _ h => List.mem_append_left _ (List.mem_append_left _ (List.mem_append_left _ (List.mem_append_left _ (List.mem_append_left _ (List.mem_append_left _ (List.mem_append_left _ (List.mem_append_left _ (List.mem_append_right _ (List.mem_append_right _ (List.mem_append_right _ (List.mem_append_right _ (List.mem_append_right _ (List.mem_append_right _ (List.mem_append_right _ (List.mem_append_right _ (List.mem_append_right _ (List.mem_append_right _ (List.mem_append_right _ (List.mem_append_right _ (List.mem_append_right _ (List.mem_append_right _ (List.mem_append_right _ (List.mem_append_right _ (List.mem_append_right _ (List.mem_append_right _ (List.mem_append_right _ (List.mem_append_right _ (List.mem_append_right _ (List.mem_append_right _ (List.mem_append_right _ (List.mem_append_right _ (List.mem_append_right _ (List.mem_append_right _ (List.mem_append_right _ (List.mem_append_left _ h)))))))))))))))))))))))))))))))))))
theorem wr_29 : ∀ w ∈ wsL_law_r29, w ∈ wsL_law := fun _ h => List.mem_append_left _ (List.mem_append_left _ (List.mem_append_left _ (List.mem_append_left _ (List.mem_append_left _ (List.mem_append_left _ (List.mem_append_left _ (List.mem_append_left _ (List.mem_append_right _ (List.mem_append_right _ (List.mem_append_right _ (List.mem_append_right _ (List.mem_append_right _ (List.mem_append_right _ (List.mem_append_right _ (List.mem_append_right _ (List.mem_append_right _ (List.mem_append_right _ (List.mem_append_right _ (List.mem_append_right _ (List.mem_append_right _ (List.mem_append_right _ (List.mem_append_right _ (List.mem_append_right _ (List.mem_append_right _ (List.mem_append_right _ (List.mem_append_right _ (List.mem_append_right _ (List.mem_append_right _ (List.mem_append_right _ (List.mem_append_right _ (List.mem_append_right _ (List.mem_append_right _ (List.mem_append_right _ (List.mem_append_right _ (List.mem_append_right _ (List.mem_append_left _ h))))))))))))))))))))))))))))))))))))
theorem wr_30 : ∀ w ∈ wsL_law_r30, w ∈ wsL_law := fun _ h => List.mem_append_left _ (List.mem_append_left _ (List.mem_append_left _ (List.mem_append_left _ (List.mem_append_left _ (List.mem_append_left _ (List.mem_append_left _ (List.mem_append_left _ (List.mem_append_right _ (List.mem_append_right _ (List.mem_append_right _ (List.mem_append_right _ (List.mem_append_right _ (List.mem_append_right _ (List.mem_append_right _ (List.mem_append_right _ (List.mem_append_right _ (List.mem_append_right _ (List.mem_append_right _ (List.mem_append_right _ (List.mem_append_right _ (List.mem_append_right _ (List.mem_append_right _ (List.mem_append_right _ (List.mem_append_right _ (List.mem_append_right _ (List.mem_append_right _ (List.mem_append_right _ (List.mem_append_right _ (List.mem_append_right _ (List.mem_append_right _ (List.mem_append_right _ (List.mem_append_right _ (List.mem_append_right _ (List.mem_append_right _ (List.mem_append_right _ (List.mem_append_right _ (List.mem_append_left _ h)))))))))))))))))))))))))))))))))))))
theorem wr_31 : ∀ w ∈ wsL_law_r31, w ∈ wsL_law := fun _ h => List.mem_append_left _ (List.mem_append_left _ (List.mem_append_left _ (List.mem_append_left _ (List.mem_append_left _ (List.mem_append_left _ (List.mem_append_left _ (List.mem_append_left _ (List.mem_append_right _ (List.mem_append_right _ (List.mem_append_right _ (List.mem_append_right _ (List.mem_append_right _ (List.mem_append_right _ (List.mem_append_right _ (List.mem_append_right _ (List.mem_append_right _ (List.mem_append_right _ (List.mem_append_right _ (List.mem_append_right _ (List.mem_append_right _ (List.mem_append_right _ (List.mem_append_right _ (List.mem_append_right _ (List.mem_append_right _ (List.mem_append_right _ (List.mem_append_right _ (List.mem_append_right _ (List.mem_append_right _ (List.mem_append_right _ (List.mem_append_right _ (List.mem_append_right _ (List.mem_append_right _ (List.mem_append_right _ (List.mem_append_right _ (List.mem_append_right _ (List.mem_append_right _ (List.mem_append_right _ (List.mem_append_left _ h))))))))))))))))))))))))))))))))))))))
theorem wr_32 : ∀ w ∈ wsL_law_r32, w ∈ wsL_law := fun _ h => List.mem_append_left _ (List.mem_append_left _ (List.mem_append_left _ (List.mem_append_left _ (List.mem_append_left _ (List.mem_append_left _ (List.mem_append_left _ (List.mem_append_left _ (List.mem_append_right _ (List.mem_append_right _ (List.mem_append_right _ (List.mem_append_right _ (List.mem_append_right _ (List.mem_append_right _ (List.mem_append_right _ (List.mem_append_right _ (List.mem_append_right _ (List.mem_append_right _ (List.mem_append_right _ (List.mem_append_right _ (List.mem_append_right _ (List.mem_append_right _ (List.mem_append_right _ (List.mem_append_right _ (List.mem_append_right _ (List.mem_append_right _ (List.mem_append_right _ (List.mem_append_right _ (List.mem_append_right _ (List.mem_append_right _ (List.mem_append_right _ (List.mem_append_right _ (List.mem_append_right _ (List.mem_append_right _ (List.mem_append_right _ (List.mem_append_right _ (List.mem_append_right _ (List.mem_append_right _ (List.mem_append_right _ (List.mem_append_left _ h)))))))))))))))))))))))))))))))))))))))
theorem wr_33 : ∀ w ∈ wsL_law_r33, w ∈ wsL_law := fun _ h => List.mem_append_left _ (List.mem_append_left _ (List.mem_append_left _ (List.mem_append_left _ (List.mem_append_left _ (List.mem_append_left _ (List.mem_append_left _ (List.mem_append_left _ (List.mem_append_right _ (List.mem_append_right _ (List.mem_append_right _ (List.mem_append_right _ (List.mem_append_right _ (List.mem_append_right _ (List.mem_append_right _ (List.mem_append_right _ (List.mem_append_right _ (List.mem_append_right _ (List.mem_append_right _ (List.mem_append_right _ (List.mem_append_right _ (List.mem_append_right _ (List.mem_append_right _ (List.mem_append_right _ (List.mem_append_right _ (List.mem_append_right _ (List.mem_append_right _ (List.mem_append_right _ (List.mem_append_right _ (List.mem_append_right _ (List.mem_append_right _ (List.mem_append_right _ (List.mem_append_right _ (List.mem_append_right _ (List.mem_append_right _ (List.mem_append_right _ (List.mem_append_right _ (List.mem_append_right _ (List.mem_append_right _ (List.mem_append_right _ (List.mem_append_left _ h))))))))))))))))))))))))))))))))))))))))
theorem wr_34 : ∀ w ∈ wsL_law_r34, w ∈ wsL_law := fun _ h => List.mem_append_left _ (List.mem_append_left _ (List.mem_append_left _ (List.mem_append_left _ (List.mem_append_left _ (List.mem_append_left _ (List.mem_append_left _ (List.mem_append_left _ (List.mem_append_right _ (List.mem_append_right _ (List.mem_append_right _ (List.mem_append_right _ (List.mem_append_right _ (List.mem_append_right _ (List.mem_append_right _ (List.mem_append_right _ (List.mem_append_right _ (List.mem_append_right _ (List.mem_append_right _ (List.mem_append_right _ (List.mem_append_right _ (List.mem_append_right _ (List.mem_append_right _ (List.mem_append_right _ (List.mem_append_right _ (List.mem_append_right _ (List.mem_append_right _ (List.mem_append_right _ (List.mem_append_right _ (List.mem_append_right _ (List.mem_append_right _ (List.mem_append_right _ (List.mem_append_right _ (List.mem_append_right _ (List.mem_append_right _ (List.mem_append_right _ (List.mem_append_right _ (List.mem_append_right _ (List.mem_append_right _ (List.mem_append_right _ (List.mem_append_right _ (List.mem_append_left _ h)))))))))))))))))))))))))))))))))))))))))
theorem wr_35 : ∀ w ∈ wsL_law_r35, w ∈ wsL_law := fun _ h => List.mem_append_left _ (List.mem_append_left _ (List.mem_append_left _ (List.mem_append_left _ (List.mem_append_left _ (List.mem_append_left _ (List.mem_append_left _ (List.mem_append_left _ (List.mem_append_right _ (List.mem_append_right _ (List.mem_append_right _ (List.mem_append_right _ (List.mem_append_right _ (List.mem_append_right _ (List.mem_append_right _ (List.mem_append_right _ (List.mem_append_right _ (List.mem_append_right _ (List.mem_append_right _ (List.mem_append_right _ (List.mem_append_right _ (List.mem_append_right _ (List.mem_append_right _ (List.mem_append_right _ (List.mem_append_right _ (List.mem_append_right _ (List.mem_append_right _ (List.mem_append_right _ (List.mem_append_right _ (List.mem_append_right _ (List.mem_append_right _ (List.mem_append_right _ (List.mem_append_right _ (List.mem_append_right _ (List.mem_append_right _ (List.mem_append_right _ (List.mem_append_right _ (List.mem_append_right _ (List.mem_append_right _ (List.mem_append_right _ (List.mem_append_right _ (List.mem_append_right _ (h))))))))))))))))))))))))))))))))))))))))))
theorem W_0 : Cond.classLink RL 7 RX5 ∈ wsL_law := wr_1 _ (List.mem_of_getElem? (i := 0) rfl)
theorem W_1 : Cond.instantiable RX5 8 ∈ wsL_law := wr_1 _ (List.mem_of_getElem? (i := 1) rfl)
theorem W_2 : Cond.initialized RX5 ∈ wsL_law := wr_1 _ (List.mem_of_getElem? (i := 2) rfl)
theorem W_3 : Cond.classLink RL 10 RX6 ∈ wsL_law := wr_1 _ (List.mem_of_getElem? (i := 3) rfl)
theorem W_4 : Cond.instantiable RX6 32 ∈ wsL_law := wr_1 _ (List.mem_of_getElem? (i := 4) rfl)
theorem W_5 : Cond.initialized RX6 ∈ wsL_law := wr_1 _ (List.mem_of_getElem? (i := 5) rfl)
theorem W_6 : Cond.methodLink RL 9 yX5_init ∈ wsL_law := wr_1 _ (List.mem_of_getElem? (i := 6) rfl)
theorem W_7 : Cond.instanceMethod yX5_init ∈ wsL_law := wr_1 _ (List.mem_of_getElem? (i := 7) rfl)
theorem W_8 : Cond.code yX5_init cX5_init 1 none ∈ wsL_law := wr_1 _ (List.mem_of_getElem? (i := 8) rfl)
theorem W_9 : Cond.methodLink RX5 3 objectInit ∈ wsL_law := wr_1 _ (List.mem_of_getElem? (i := 9) rfl)
theorem W_10 : Cond.instanceMethod objectInit ∈ wsL_law := wr_1 _ (List.mem_of_getElem? (i := 10) rfl)
theorem W_11 : Cond.code objectInit ⟨#[0xb1]⟩ 1 none ∈ wsL_law := wr_1 _ (List.mem_of_getElem? (i := 11) rfl)
theorem W_12 : Cond.classLink RX5 9 RX4 ∈ wsL_law := wr_1 _ (List.mem_of_getElem? (i := 12) rfl)
theorem W_13 : Cond.instantiable RX4 9 ∈ wsL_law := wr_1 _ (List.mem_of_getElem? (i := 13) rfl)
theorem W_14 : Cond.initialized RX4 ∈ wsL_law := wr_1 _ (List.mem_of_getElem? (i := 14) rfl)
theorem W_15 : Cond.fieldLink RX5 12 "LastTrain" "town" "LLastTrain$Town;" ∈ wsL_law := wr_1 _ (List.mem_of_getElem? (i := 15) rfl)
theorem W_16 : Cond.fieldLink RX5 16 "LastTrain" "firstImage" "LLastTrain$Town;" ∈ wsL_law := wr_1 _ (List.mem_of_getElem? (i := 16) rfl)
theorem W_17 : Cond.fieldLink RX5 19 "LastTrain" "secondImage" "LLastTrain$Town;" ∈ wsL_law := wr_1 _ (List.mem_of_getElem? (i := 17) rfl)
theorem W_18 : Cond.fieldLink RX5 22 "LastTrain" "imagesKept" "I" ∈ wsL_law := wr_1 _ (List.mem_of_getElem? (i := 18) rfl)
theorem W_19 : Cond.classLink RX5 26 RX2 ∈ wsL_law := wr_1 _ (List.mem_of_getElem? (i := 19) rfl)
theorem W_20 : Cond.instantiable RX2 2 ∈ wsL_law := wr_1 _ (List.mem_of_getElem? (i := 20) rfl)
theorem W_21 : Cond.initialized RX2 ∈ wsL_law := wr_1 _ (List.mem_of_getElem? (i := 21) rfl)
theorem W_22 : Cond.fieldLink RX5 29 "LastTrain" "pad" "LLastTrain$Pad;" ∈ wsL_law := wr_1 _ (List.mem_of_getElem? (i := 22) rfl)
theorem W_23 : Cond.classLink RX5 33 RX1 ∈ wsL_law := wr_1 _ (List.mem_of_getElem? (i := 23) rfl)
theorem W_24 : Cond.instantiable RX1 7 ∈ wsL_law := wr_2 _ (List.mem_of_getElem? (i := 0) rfl)
theorem W_25 : Cond.initialized RX1 ∈ wsL_law := wr_2 _ (List.mem_of_getElem? (i := 1) rfl)
theorem W_26 : Cond.fieldLink RX5 36 "LastTrain" "course" "LLastTrain$Course;" ∈ wsL_law := wr_2 _ (List.mem_of_getElem? (i := 2) rfl)
theorem W_27 : Cond.classLink RX5 40 RX3 ∈ wsL_law := wr_2 _ (List.mem_of_getElem? (i := 3) rfl)
theorem W_28 : Cond.instantiable RX3 4 ∈ wsL_law := wr_2 _ (List.mem_of_getElem? (i := 4) rfl)
theorem W_29 : Cond.initialized RX3 ∈ wsL_law := wr_2 _ (List.mem_of_getElem? (i := 5) rfl)
theorem W_30 : Cond.fieldLink RX5 43 "LastTrain" "platform" "LLastTrain$Platform;" ∈ wsL_law := wr_2 _ (List.mem_of_getElem? (i := 6) rfl)
theorem W_31 : Cond.classLink RX5 47 RX0 ∈ wsL_law := wr_2 _ (List.mem_of_getElem? (i := 7) rfl)
theorem W_32 : Cond.instantiable RX0 4 ∈ wsL_law := wr_2 _ (List.mem_of_getElem? (i := 8) rfl)
theorem W_33 : Cond.initialized RX0 ∈ wsL_law := wr_2 _ (List.mem_of_getElem? (i := 9) rfl)
theorem W_34 : Cond.fieldLink RX5 50 "LastTrain" "round" "LLastTrain$Answers;" ∈ wsL_law := wr_2 _ (List.mem_of_getElem? (i := 10) rfl)
theorem W_35 : Cond.methodLink RX5 11 yX4_init ∈ wsL_law := wr_2 _ (List.mem_of_getElem? (i := 11) rfl)
theorem W_36 : Cond.instanceMethod yX4_init ∈ wsL_law := wr_2 _ (List.mem_of_getElem? (i := 12) rfl)
theorem W_37 : Cond.code yX4_init cX4_init 2 none ∈ wsL_law := wr_2 _ (List.mem_of_getElem? (i := 13) rfl)
theorem W_38 : Cond.methodLink RX4 3 objectInit ∈ wsL_law := wr_2 _ (List.mem_of_getElem? (i := 14) rfl)
theorem W_39 : Cond.fieldLink RX4 9 "LastTrain$Town" "here" "I" ∈ wsL_law := wr_2 _ (List.mem_of_getElem? (i := 15) rfl)
theorem W_40 : Cond.fieldLink RX4 15 "LastTrain$Town" "dogs" "I" ∈ wsL_law := wr_2 _ (List.mem_of_getElem? (i := 16) rfl)
theorem W_41 : Cond.fieldLink RX4 18 "LastTrain$Town" "waiting" "I" ∈ wsL_law := wr_2 _ (List.mem_of_getElem? (i := 17) rfl)
theorem W_42 : Cond.fieldLink RX4 21 "LastTrain$Town" "sights" "I" ∈ wsL_law := wr_2 _ (List.mem_of_getElem? (i := 18) rfl)
theorem W_43 : Cond.fieldLink RX4 24 "LastTrain$Town" "yeses" "I" ∈ wsL_law := wr_2 _ (List.mem_of_getElem? (i := 19) rfl)
theorem W_44 : Cond.arrayClass .int ∈ wsL_law := wr_2 _ (List.mem_of_getElem? (i := 20) rfl)
theorem W_45 : Cond.fieldLink RX4 27 "LastTrain$Town" "strengths" "[I" ∈ wsL_law := wr_2 _ (List.mem_of_getElem? (i := 21) rfl)
theorem W_46 : Cond.fieldLink RX4 31 "LastTrain$Town" "kinds" "[I" ∈ wsL_law := wr_2 _ (List.mem_of_getElem? (i := 22) rfl)
theorem W_47 : Cond.fieldLink RX4 34 "LastTrain$Town" "rules" "[I" ∈ wsL_law := wr_2 _ (List.mem_of_getElem? (i := 23) rfl)
theorem W_48 : Cond.fieldLink RX4 37 "LastTrain$Town" "rungOnes" "[I" ∈ wsL_law := wr_3 _ (List.mem_of_getElem? (i := 0) rfl)
theorem W_49 : Cond.instanceMethod yX2_init ∈ wsL_law := wr_3 _ (List.mem_of_getElem? (i := 1) rfl)
theorem W_50 : Cond.code yX2_init cX2_init 1 none ∈ wsL_law := wr_3 _ (List.mem_of_getElem? (i := 2) rfl)
theorem W_51 : Cond.methodLink RX2 3 objectInit ∈ wsL_law := wr_3 _ (List.mem_of_getElem? (i := 3) rfl)
theorem W_52 : Cond.fieldLink RX2 9 "LastTrain$Pad" "signs" "[I" ∈ wsL_law := wr_3 _ (List.mem_of_getElem? (i := 4) rfl)
theorem W_53 : Cond.fieldLink RX2 15 "LastTrain$Pad" "length" "I" ∈ wsL_law := wr_3 _ (List.mem_of_getElem? (i := 5) rfl)
theorem W_54 : Cond.instanceMethod yX1_init ∈ wsL_law := wr_3 _ (List.mem_of_getElem? (i := 6) rfl)
theorem W_55 : Cond.code yX1_init cX1_init 1 none ∈ wsL_law := wr_3 _ (List.mem_of_getElem? (i := 7) rfl)
theorem W_56 : Cond.methodLink RX1 3 objectInit ∈ wsL_law := wr_3 _ (List.mem_of_getElem? (i := 8) rfl)
theorem W_57 : Cond.classLink RX1 9 RX4 ∈ wsL_law := wr_3 _ (List.mem_of_getElem? (i := 9) rfl)
theorem W_58 : Cond.fieldLink RX1 12 "LastTrain$Course" "town" "LLastTrain$Town;" ∈ wsL_law := wr_3 _ (List.mem_of_getElem? (i := 10) rfl)
theorem W_59 : Cond.fieldLink RX1 18 "LastTrain$Course" "acts" "I" ∈ wsL_law := wr_3 _ (List.mem_of_getElem? (i := 11) rfl)
theorem W_60 : Cond.fieldLink RX1 22 "LastTrain$Course" "stuckReason" "I" ∈ wsL_law := wr_3 _ (List.mem_of_getElem? (i := 12) rfl)
theorem W_61 : Cond.fieldLink RX1 25 "LastTrain$Course" "wentCount" "I" ∈ wsL_law := wr_3 _ (List.mem_of_getElem? (i := 13) rfl)
theorem W_62 : Cond.fieldLink RX1 28 "LastTrain$Course" "cut" "I" ∈ wsL_law := wr_3 _ (List.mem_of_getElem? (i := 14) rfl)
theorem W_63 : Cond.fieldLink RX1 31 "LastTrain$Course" "takenAct" "I" ∈ wsL_law := wr_3 _ (List.mem_of_getElem? (i := 15) rfl)
theorem W_64 : Cond.fieldLink RX1 34 "LastTrain$Course" "takenOne" "I" ∈ wsL_law := wr_3 _ (List.mem_of_getElem? (i := 16) rfl)
theorem W_65 : Cond.methodLink RX1 11 yX4_init ∈ wsL_law := wr_3 _ (List.mem_of_getElem? (i := 17) rfl)
theorem W_66 : Cond.instanceMethod yX3_init ∈ wsL_law := wr_3 _ (List.mem_of_getElem? (i := 18) rfl)
theorem W_67 : Cond.code yX3_init cX3_init 1 none ∈ wsL_law := wr_3 _ (List.mem_of_getElem? (i := 19) rfl)
theorem W_68 : Cond.methodLink RX3 3 objectInit ∈ wsL_law := wr_3 _ (List.mem_of_getElem? (i := 20) rfl)
theorem W_69 : Cond.fieldLink RX3 9 "LastTrain$Platform" "missing" "[I" ∈ wsL_law := wr_3 _ (List.mem_of_getElem? (i := 21) rfl)
theorem W_70 : Cond.fieldLink RX3 15 "LastTrain$Platform" "needed" "[I" ∈ wsL_law := wr_3 _ (List.mem_of_getElem? (i := 22) rfl)
theorem W_71 : Cond.fieldLink RX3 18 "LastTrain$Platform" "tied" "[I" ∈ wsL_law := wr_3 _ (List.mem_of_getElem? (i := 23) rfl)
theorem W_72 : Cond.fieldLink RX3 21 "LastTrain$Platform" "here" "I" ∈ wsL_law := wr_4 _ (List.mem_of_getElem? (i := 0) rfl)
theorem W_73 : Cond.instanceMethod yX0_init ∈ wsL_law := wr_4 _ (List.mem_of_getElem? (i := 1) rfl)
theorem W_74 : Cond.code yX0_init cX0_init 1 none ∈ wsL_law := wr_4 _ (List.mem_of_getElem? (i := 2) rfl)
theorem W_75 : Cond.methodLink RX0 3 objectInit ∈ wsL_law := wr_4 _ (List.mem_of_getElem? (i := 3) rfl)
theorem W_76 : Cond.arrayClass .long ∈ wsL_law := wr_4 _ (List.mem_of_getElem? (i := 4) rfl)
theorem W_77 : Cond.fieldLink RX0 9 "LastTrain$Answers" "chances" "[J" ∈ wsL_law := wr_4 _ (List.mem_of_getElem? (i := 5) rfl)
theorem W_78 : Cond.fieldLink RX0 15 "LastTrain$Answers" "enoughSaidIt" "J" ∈ wsL_law := wr_4 _ (List.mem_of_getElem? (i := 6) rfl)
theorem W_79 : Cond.fieldLink RX0 19 "LastTrain$Answers" "callsMade" "J" ∈ wsL_law := wr_4 _ (List.mem_of_getElem? (i := 7) rfl)
theorem W_80 : Cond.fieldLink RX0 22 "LastTrain$Answers" "lower" "J" ∈ wsL_law := wr_4 _ (List.mem_of_getElem? (i := 8) rfl)
theorem W_81 : Cond.methodLink RL 12 yX6_init ∈ wsL_law := wr_4 _ (List.mem_of_getElem? (i := 9) rfl)
theorem W_82 : Cond.instanceMethod yX6_init ∈ wsL_law := wr_4 _ (List.mem_of_getElem? (i := 10) rfl)
theorem W_83 : Cond.code yX6_init cX6_init 2 none ∈ wsL_law := wr_4 _ (List.mem_of_getElem? (i := 11) rfl)
theorem W_84 : Cond.methodLink RX6 1 objectInit ∈ wsL_law := wr_4 _ (List.mem_of_getElem? (i := 12) rfl)
theorem W_85 : Cond.fieldLink RX6 7 "LastTrainModel" "strong" "[I" ∈ wsL_law := wr_4 _ (List.mem_of_getElem? (i := 13) rfl)
theorem W_86 : Cond.fieldLink RX6 13 "LastTrainModel" "kind" "[I" ∈ wsL_law := wr_4 _ (List.mem_of_getElem? (i := 14) rfl)
theorem W_87 : Cond.fieldLink RX6 16 "LastTrainModel" "laws" "[I" ∈ wsL_law := wr_4 _ (List.mem_of_getElem? (i := 15) rfl)
theorem W_88 : Cond.fieldLink RX6 19 "LastTrainModel" "sightOne" "[I" ∈ wsL_law := wr_4 _ (List.mem_of_getElem? (i := 16) rfl)
theorem W_89 : Cond.fieldLink RX6 22 "LastTrainModel" "sightYes" "[I" ∈ wsL_law := wr_4 _ (List.mem_of_getElem? (i := 17) rfl)
theorem W_90 : Cond.fieldLink RX6 25 "LastTrainModel" "pad" "[I" ∈ wsL_law := wr_4 _ (List.mem_of_getElem? (i := 18) rfl)
theorem W_91 : Cond.fieldLink RX6 28 "LastTrainModel" "act" "[I" ∈ wsL_law := wr_4 _ (List.mem_of_getElem? (i := 19) rfl)
theorem W_92 : Cond.fieldLink RX6 31 "LastTrainModel" "who" "[I" ∈ wsL_law := wr_4 _ (List.mem_of_getElem? (i := 20) rfl)
theorem W_93 : Cond.fieldLink RX6 34 "LastTrainModel" "whom" "[I" ∈ wsL_law := wr_4 _ (List.mem_of_getElem? (i := 21) rfl)
theorem W_94 : Cond.fieldLink RX6 37 "LastTrainModel" "had" "[I" ∈ wsL_law := wr_4 _ (List.mem_of_getElem? (i := 22) rfl)
theorem W_95 : Cond.fieldLink RX6 40 "LastTrainModel" "odds" "[I" ∈ wsL_law := wr_4 _ (List.mem_of_getElem? (i := 23) rfl)
theorem W_96 : Cond.fieldLink RX6 43 "LastTrainModel" "row" "[I" ∈ wsL_law := wr_5 _ (List.mem_of_getElem? (i := 0) rfl)
theorem W_97 : Cond.fieldLink RX6 46 "LastTrainModel" "parts" "[J" ∈ wsL_law := wr_5 _ (List.mem_of_getElem? (i := 1) rfl)
theorem W_98 : Cond.fieldLink RX6 50 "LastTrainModel" "takes" "[I" ∈ wsL_law := wr_5 _ (List.mem_of_getElem? (i := 2) rfl)
theorem W_99 : Cond.fieldLink RX6 53 "LastTrainModel" "kept" "[I" ∈ wsL_law := wr_5 _ (List.mem_of_getElem? (i := 3) rfl)
theorem W_100 : Cond.arrayClass .boolean ∈ wsL_law := wr_5 _ (List.mem_of_getElem? (i := 4) rfl)
theorem W_101 : Cond.fieldLink RX6 56 "LastTrainModel" "isKept" "[Z" ∈ wsL_law := wr_5 _ (List.mem_of_getElem? (i := 5) rfl)
theorem W_102 : Cond.fieldLink RX6 60 "LastTrainModel" "here" "I" ∈ wsL_law := wr_5 _ (List.mem_of_getElem? (i := 6) rfl)
theorem W_103 : Cond.methodLink RL 13 yX5_tie ∈ wsL_law := wr_5 _ (List.mem_of_getElem? (i := 7) rfl)
theorem W_104 : Cond.instanceMethod yX5_tie ∈ wsL_law := wr_5 _ (List.mem_of_getElem? (i := 8) rfl)
theorem W_105 : Cond.selects RX5 yX5_tie yX5_tie ∈ wsL_law := wr_5 _ (List.mem_of_getElem? (i := 9) rfl)
theorem W_106 : Cond.code yX5_tie cX5_tie 6 (some .int) ∈ wsL_law := wr_5 _ (List.mem_of_getElem? (i := 10) rfl)
theorem W_107 : Cond.methodLink RX5 54 yX5_isOne ∈ wsL_law := wr_5 _ (List.mem_of_getElem? (i := 11) rfl)
theorem W_108 : Cond.static yX5_isOne ∈ wsL_law := wr_5 _ (List.mem_of_getElem? (i := 12) rfl)
theorem W_109 : Cond.code yX5_isOne cX5_isOne 1 (some .boolean) ∈ wsL_law := wr_5 _ (List.mem_of_getElem? (i := 13) rfl)
theorem W_110 : Cond.methodLink RX5 58 yX5_isWithin ∈ wsL_law := wr_5 _ (List.mem_of_getElem? (i := 14) rfl)
theorem W_111 : Cond.static yX5_isWithin ∈ wsL_law := wr_5 _ (List.mem_of_getElem? (i := 15) rfl)
theorem W_112 : Cond.code yX5_isWithin cX5_isWithin 3 (some .boolean) ∈ wsL_law := wr_5 _ (List.mem_of_getElem? (i := 16) rfl)
theorem W_113 : Cond.methodLink RX5 62 yX4_strength ∈ wsL_law := wr_5 _ (List.mem_of_getElem? (i := 17) rfl)
theorem W_114 : Cond.instanceMethod yX4_strength ∈ wsL_law := wr_5 _ (List.mem_of_getElem? (i := 18) rfl)
theorem W_115 : Cond.selects RX4 yX4_strength yX4_strength ∈ wsL_law := wr_5 _ (List.mem_of_getElem? (i := 19) rfl)
theorem W_116 : Cond.code yX4_strength cX4_strength 3 (some .int) ∈ wsL_law := wr_5 _ (List.mem_of_getElem? (i := 20) rfl)
theorem W_117 : Cond.methodLink RX5 66 yX4_bind ∈ wsL_law := wr_5 _ (List.mem_of_getElem? (i := 21) rfl)
theorem W_118 : Cond.instanceMethod yX4_bind ∈ wsL_law := wr_5 _ (List.mem_of_getElem? (i := 22) rfl)
theorem W_119 : Cond.selects RX4 yX4_bind yX4_bind ∈ wsL_law := wr_5 _ (List.mem_of_getElem? (i := 23) rfl)
theorem W_120 : Cond.code yX4_bind cX4_bind 5 none ∈ wsL_law := wr_6 _ (List.mem_of_getElem? (i := 0) rfl)
theorem W_121 : Cond.methodLink RL 17 yX6_tie ∈ wsL_law := wr_6 _ (List.mem_of_getElem? (i := 1) rfl)
theorem W_122 : Cond.instanceMethod yX6_tie ∈ wsL_law := wr_6 _ (List.mem_of_getElem? (i := 2) rfl)
theorem W_123 : Cond.selects RX6 yX6_tie yX6_tie ∈ wsL_law := wr_6 _ (List.mem_of_getElem? (i := 3) rfl)
theorem W_124 : Cond.code yX6_tie cX6_tie 6 (some .int) ∈ wsL_law := wr_6 _ (List.mem_of_getElem? (i := 4) rfl)
theorem W_125 : Cond.constantLong RX6 74 (3) ∈ wsL_law := wr_6 _ (List.mem_of_getElem? (i := 5) rfl)
theorem W_126 : Cond.constantLong RX6 64 (9) ∈ wsL_law := wr_6 _ (List.mem_of_getElem? (i := 6) rfl)
theorem W_127 : Cond.methodLink RX6 70 yX6_isOne ∈ wsL_law := wr_6 _ (List.mem_of_getElem? (i := 7) rfl)
theorem W_128 : Cond.static yX6_isOne ∈ wsL_law := wr_6 _ (List.mem_of_getElem? (i := 8) rfl)
theorem W_129 : Cond.code yX6_isOne cX6_isOne 1 (some .boolean) ∈ wsL_law := wr_6 _ (List.mem_of_getElem? (i := 9) rfl)
theorem W_130 : Cond.methodLink RX6 66 yX6_in ∈ wsL_law := wr_6 _ (List.mem_of_getElem? (i := 10) rfl)
theorem W_131 : Cond.static yX6_in ∈ wsL_law := wr_6 _ (List.mem_of_getElem? (i := 11) rfl)
theorem W_132 : Cond.code yX6_in cX6_in 6 (some .boolean) ∈ wsL_law := wr_6 _ (List.mem_of_getElem? (i := 12) rfl)
theorem W_133 : Cond.methodLink RX6 76 yX6_setTie ∈ wsL_law := wr_6 _ (List.mem_of_getElem? (i := 13) rfl)
theorem W_134 : Cond.instanceMethod yX6_setTie ∈ wsL_law := wr_6 _ (List.mem_of_getElem? (i := 14) rfl)
theorem W_135 : Cond.selects RX6 yX6_setTie yX6_setTie ∈ wsL_law := wr_6 _ (List.mem_of_getElem? (i := 15) rfl)
theorem W_136 : Cond.code yX6_setTie cX6_setTie 5 none ∈ wsL_law := wr_6 _ (List.mem_of_getElem? (i := 16) rfl)
theorem W_137 : Cond.methodLink RL 18 yX5_one ∈ wsL_law := wr_6 _ (List.mem_of_getElem? (i := 17) rfl)
theorem W_138 : Cond.instanceMethod yX5_one ∈ wsL_law := wr_6 _ (List.mem_of_getElem? (i := 18) rfl)
theorem W_139 : Cond.selects RX5 yX5_one yX5_one ∈ wsL_law := wr_6 _ (List.mem_of_getElem? (i := 19) rfl)
theorem W_140 : Cond.code yX5_one cX5_one 4 (some .int) ∈ wsL_law := wr_6 _ (List.mem_of_getElem? (i := 20) rfl)
theorem W_141 : Cond.fieldLink RX5 77 "LastTrain$Town" "here" "I" ∈ wsL_law := wr_6 _ (List.mem_of_getElem? (i := 21) rfl)
theorem W_142 : Cond.methodLink RX5 70 yX5_isFlag ∈ wsL_law := wr_6 _ (List.mem_of_getElem? (i := 22) rfl)
theorem W_143 : Cond.static yX5_isFlag ∈ wsL_law := wr_6 _ (List.mem_of_getElem? (i := 23) rfl)
theorem W_144 : Cond.code yX5_isFlag cX5_isFlag 1 (some .boolean) ∈ wsL_law := wr_7 _ (List.mem_of_getElem? (i := 0) rfl)
theorem W_145 : Cond.methodLink RX5 73 yX4_place ∈ wsL_law := wr_7 _ (List.mem_of_getElem? (i := 1) rfl)
theorem W_146 : Cond.instanceMethod yX4_place ∈ wsL_law := wr_7 _ (List.mem_of_getElem? (i := 2) rfl)
theorem W_147 : Cond.selects RX4 yX4_place yX4_place ∈ wsL_law := wr_7 _ (List.mem_of_getElem? (i := 3) rfl)
theorem W_148 : Cond.code yX4_place cX4_place 5 none ∈ wsL_law := wr_7 _ (List.mem_of_getElem? (i := 4) rfl)
theorem W_149 : Cond.methodLink RX5 80 yJ6_bitCount_0f7a4 ∈ wsL_law := wr_7 _ (List.mem_of_getElem? (i := 5) rfl)
theorem W_150 : Cond.static yJ6_bitCount_0f7a4 ∈ wsL_law := wr_7 _ (List.mem_of_getElem? (i := 6) rfl)
theorem W_151 : Cond.initialized RJ6 ∈ wsL_law := wr_7 _ (List.mem_of_getElem? (i := 7) rfl)
theorem W_152 : Cond.code yJ6_bitCount_0f7a4 cJ6_bitCount_0f7a4 1 (some .int) ∈ wsL_law := wr_7 _ (List.mem_of_getElem? (i := 8) rfl)
theorem W_153 : Cond.constant RJ6 265 (1431655765) ∈ wsL_law := wr_7 _ (List.mem_of_getElem? (i := 9) rfl)
theorem W_154 : Cond.constant RJ6 266 (858993459) ∈ wsL_law := wr_7 _ (List.mem_of_getElem? (i := 10) rfl)
theorem W_155 : Cond.constant RJ6 267 (252645135) ∈ wsL_law := wr_7 _ (List.mem_of_getElem? (i := 11) rfl)
theorem W_156 : Cond.methodLink RL 22 yX6_one ∈ wsL_law := wr_7 _ (List.mem_of_getElem? (i := 12) rfl)
theorem W_157 : Cond.instanceMethod yX6_one ∈ wsL_law := wr_7 _ (List.mem_of_getElem? (i := 13) rfl)
theorem W_158 : Cond.selects RX6 yX6_one yX6_one ∈ wsL_law := wr_7 _ (List.mem_of_getElem? (i := 14) rfl)
theorem W_159 : Cond.code yX6_one cX6_one 4 (some .int) ∈ wsL_law := wr_7 _ (List.mem_of_getElem? (i := 15) rfl)
theorem W_160 : Cond.fieldLink RX6 84 "LastTrainModel" "dogs" "I" ∈ wsL_law := wr_7 _ (List.mem_of_getElem? (i := 16) rfl)
theorem W_161 : Cond.fieldLink RX6 87 "LastTrainModel" "waiting" "I" ∈ wsL_law := wr_7 _ (List.mem_of_getElem? (i := 17) rfl)
theorem W_162 : Cond.methodLink RX6 80 yX6_with ∈ wsL_law := wr_7 _ (List.mem_of_getElem? (i := 18) rfl)
theorem W_163 : Cond.static yX6_with ∈ wsL_law := wr_7 _ (List.mem_of_getElem? (i := 19) rfl)
theorem W_164 : Cond.code yX6_with cX6_with 3 (some .int) ∈ wsL_law := wr_7 _ (List.mem_of_getElem? (i := 20) rfl)
theorem W_165 : Cond.methodLink RX6 90 yX6_ones ∈ wsL_law := wr_7 _ (List.mem_of_getElem? (i := 21) rfl)
theorem W_166 : Cond.static yX6_ones ∈ wsL_law := wr_7 _ (List.mem_of_getElem? (i := 22) rfl)
theorem W_167 : Cond.code yX6_ones cX6_ones 3 (some .int) ∈ wsL_law := wr_7 _ (List.mem_of_getElem? (i := 23) rfl)
theorem W_168 : Cond.methodLink RL 23 yX5_law ∈ wsL_law := wr_8 _ (List.mem_of_getElem? (i := 0) rfl)
theorem W_169 : Cond.instanceMethod yX5_law ∈ wsL_law := wr_8 _ (List.mem_of_getElem? (i := 1) rfl)
theorem W_170 : Cond.selects RX5 yX5_law yX5_law ∈ wsL_law := wr_8 _ (List.mem_of_getElem? (i := 2) rfl)
theorem W_171 : Cond.code yX5_law cX5_law 4 (some .int) ∈ wsL_law := wr_8 _ (List.mem_of_getElem? (i := 3) rfl)
theorem W_172 : Cond.methodLink RX5 86 yX5_isLawful ∈ wsL_law := wr_8 _ (List.mem_of_getElem? (i := 4) rfl)
theorem W_173 : Cond.static yX5_isLawful ∈ wsL_law := wr_8 _ (List.mem_of_getElem? (i := 5) rfl)
theorem W_174 : Cond.code yX5_isLawful cX5_isLawful 2 (some .boolean) ∈ wsL_law := wr_8 _ (List.mem_of_getElem? (i := 6) rfl)
theorem W_175 : Cond.methodLink RX5 90 yX4_rule ∈ wsL_law := wr_8 _ (List.mem_of_getElem? (i := 7) rfl)
theorem W_176 : Cond.instanceMethod yX4_rule ∈ wsL_law := wr_8 _ (List.mem_of_getElem? (i := 8) rfl)
theorem W_177 : Cond.selects RX4 yX4_rule yX4_rule ∈ wsL_law := wr_8 _ (List.mem_of_getElem? (i := 9) rfl)
theorem W_178 : Cond.code yX4_rule cX4_rule 2 (some .int) ∈ wsL_law := wr_8 _ (List.mem_of_getElem? (i := 10) rfl)
theorem W_179 : Cond.methodLink RX5 93 yX4_setRule ∈ wsL_law := wr_8 _ (List.mem_of_getElem? (i := 11) rfl)
theorem W_180 : Cond.instanceMethod yX4_setRule ∈ wsL_law := wr_8 _ (List.mem_of_getElem? (i := 12) rfl)
theorem W_181 : Cond.selects RX4 yX4_setRule yX4_setRule ∈ wsL_law := wr_8 _ (List.mem_of_getElem? (i := 13) rfl)
theorem W_182 : Cond.code yX4_setRule cX4_setRule 3 none ∈ wsL_law := wr_8 _ (List.mem_of_getElem? (i := 14) rfl)
theorem W_183 : Cond.methodLink RL 27 yX6_law ∈ wsL_law := wr_8 _ (List.mem_of_getElem? (i := 15) rfl)
theorem W_184 : Cond.instanceMethod yX6_law ∈ wsL_law := wr_8 _ (List.mem_of_getElem? (i := 16) rfl)
theorem W_185 : Cond.selects RX6 yX6_law yX6_law ∈ wsL_law := wr_8 _ (List.mem_of_getElem? (i := 17) rfl)
theorem W_186 : Cond.code yX6_law cX6_law 4 (some .int) ∈ wsL_law := wr_8 _ (List.mem_of_getElem? (i := 18) rfl)
theorem W_187 : Cond.methodLink RL 28 yX5_say ∈ wsL_law := wr_8 _ (List.mem_of_getElem? (i := 19) rfl)
theorem W_188 : Cond.instanceMethod yX5_say ∈ wsL_law := wr_8 _ (List.mem_of_getElem? (i := 20) rfl)
theorem W_189 : Cond.selects RX5 yX5_say yX5_say ∈ wsL_law := wr_8 _ (List.mem_of_getElem? (i := 21) rfl)
theorem W_190 : Cond.code yX5_say cX5_say 2 (some .int) ∈ wsL_law := wr_8 _ (List.mem_of_getElem? (i := 22) rfl)
theorem W_191 : Cond.fieldLink RX5 100 "LastTrain$Pad" "length" "I" ∈ wsL_law := wr_8 _ (List.mem_of_getElem? (i := 23) rfl)
theorem W_192 : Cond.methodLink RX5 97 yX2_add ∈ wsL_law := wr_9 _ (List.mem_of_getElem? (i := 0) rfl)
theorem W_193 : Cond.instanceMethod yX2_add ∈ wsL_law := wr_9 _ (List.mem_of_getElem? (i := 1) rfl)
theorem W_194 : Cond.selects RX2 yX2_add yX2_add ∈ wsL_law := wr_9 _ (List.mem_of_getElem? (i := 2) rfl)
theorem W_195 : Cond.code yX2_add cX2_add 2 (some .boolean) ∈ wsL_law := wr_9 _ (List.mem_of_getElem? (i := 3) rfl)
theorem W_196 : Cond.methodLink RL 32 yX6_say ∈ wsL_law := wr_9 _ (List.mem_of_getElem? (i := 4) rfl)
theorem W_197 : Cond.instanceMethod yX6_say ∈ wsL_law := wr_9 _ (List.mem_of_getElem? (i := 5) rfl)
theorem W_198 : Cond.selects RX6 yX6_say yX6_say ∈ wsL_law := wr_9 _ (List.mem_of_getElem? (i := 6) rfl)
theorem W_199 : Cond.code yX6_say cX6_say 2 (some .int) ∈ wsL_law := wr_9 _ (List.mem_of_getElem? (i := 7) rfl)
theorem W_200 : Cond.constantLong RX6 94 (33) ∈ wsL_law := wr_9 _ (List.mem_of_getElem? (i := 8) rfl)
theorem W_201 : Cond.constantLong RX6 96 (126) ∈ wsL_law := wr_9 _ (List.mem_of_getElem? (i := 9) rfl)
theorem W_202 : Cond.fieldLink RX6 98 "LastTrainModel" "padMany" "I" ∈ wsL_law := wr_9 _ (List.mem_of_getElem? (i := 10) rfl)
theorem W_203 : Cond.methodLink RL 33 yX5_wipe ∈ wsL_law := wr_9 _ (List.mem_of_getElem? (i := 11) rfl)
theorem W_204 : Cond.instanceMethod yX5_wipe ∈ wsL_law := wr_9 _ (List.mem_of_getElem? (i := 12) rfl)
theorem W_205 : Cond.selects RX5 yX5_wipe yX5_wipe ∈ wsL_law := wr_9 _ (List.mem_of_getElem? (i := 13) rfl)
theorem W_206 : Cond.code yX5_wipe cX5_wipe 2 (some .int) ∈ wsL_law := wr_9 _ (List.mem_of_getElem? (i := 14) rfl)
theorem W_207 : Cond.methodLink RL 37 yX6_wipe ∈ wsL_law := wr_9 _ (List.mem_of_getElem? (i := 15) rfl)
theorem W_208 : Cond.instanceMethod yX6_wipe ∈ wsL_law := wr_9 _ (List.mem_of_getElem? (i := 16) rfl)
theorem W_209 : Cond.selects RX6 yX6_wipe yX6_wipe ∈ wsL_law := wr_9 _ (List.mem_of_getElem? (i := 17) rfl)
theorem W_210 : Cond.code yX6_wipe cX6_wipe 2 (some .int) ∈ wsL_law := wr_9 _ (List.mem_of_getElem? (i := 18) rfl)
theorem W_211 : Cond.methodLink RL 38 yX5_fault ∈ wsL_law := wr_9 _ (List.mem_of_getElem? (i := 19) rfl)
theorem W_212 : Cond.instanceMethod yX5_fault ∈ wsL_law := wr_9 _ (List.mem_of_getElem? (i := 20) rfl)
theorem W_213 : Cond.selects RX5 yX5_fault yX5_fault ∈ wsL_law := wr_9 _ (List.mem_of_getElem? (i := 21) rfl)
theorem W_214 : Cond.code yX5_fault cX5_fault 1 (some .int) ∈ wsL_law := wr_9 _ (List.mem_of_getElem? (i := 22) rfl)
theorem W_215 : Cond.methodLink RX5 103 yX2_firstFault ∈ wsL_law := wr_9 _ (List.mem_of_getElem? (i := 23) rfl)
theorem W_216 : Cond.instanceMethod yX2_firstFault ∈ wsL_law := wr_10 _ (List.mem_of_getElem? (i := 0) rfl)
theorem W_217 : Cond.selects RX2 yX2_firstFault yX2_firstFault ∈ wsL_law := wr_10 _ (List.mem_of_getElem? (i := 1) rfl)
theorem W_218 : Cond.code yX2_firstFault cX2_firstFault 3 (some .int) ∈ wsL_law := wr_10 _ (List.mem_of_getElem? (i := 2) rfl)
theorem W_219 : Cond.methodLink RX2 19 yX2_signAt ∈ wsL_law := wr_10 _ (List.mem_of_getElem? (i := 3) rfl)
theorem W_220 : Cond.instanceMethod yX2_signAt ∈ wsL_law := wr_10 _ (List.mem_of_getElem? (i := 4) rfl)
theorem W_221 : Cond.selects RX2 yX2_signAt yX2_signAt ∈ wsL_law := wr_10 _ (List.mem_of_getElem? (i := 5) rfl)
theorem W_222 : Cond.code yX2_signAt cX2_signAt 2 (some .int) ∈ wsL_law := wr_10 _ (List.mem_of_getElem? (i := 6) rfl)
theorem W_223 : Cond.methodLink RX2 23 yX2_dueAfter ∈ wsL_law := wr_10 _ (List.mem_of_getElem? (i := 7) rfl)
theorem W_224 : Cond.static yX2_dueAfter ∈ wsL_law := wr_10 _ (List.mem_of_getElem? (i := 8) rfl)
theorem W_225 : Cond.code yX2_dueAfter cX2_dueAfter 2 (some .int) ∈ wsL_law := wr_10 _ (List.mem_of_getElem? (i := 9) rfl)
theorem W_226 : Cond.methodLink RX2 27 yX2_isOfTwo ∈ wsL_law := wr_10 _ (List.mem_of_getElem? (i := 10) rfl)
theorem W_227 : Cond.static yX2_isOfTwo ∈ wsL_law := wr_10 _ (List.mem_of_getElem? (i := 11) rfl)
theorem W_228 : Cond.code yX2_isOfTwo cX2_isOfTwo 1 (some .boolean) ∈ wsL_law := wr_10 _ (List.mem_of_getElem? (i := 12) rfl)
theorem W_229 : Cond.methodLink RX2 31 yX2_isOfNobody ∈ wsL_law := wr_10 _ (List.mem_of_getElem? (i := 13) rfl)
theorem W_230 : Cond.static yX2_isOfNobody ∈ wsL_law := wr_10 _ (List.mem_of_getElem? (i := 14) rfl)
theorem W_231 : Cond.code yX2_isOfNobody cX2_isOfNobody 1 (some .boolean) ∈ wsL_law := wr_10 _ (List.mem_of_getElem? (i := 15) rfl)
theorem W_232 : Cond.static yX5_isLetter ∈ wsL_law := wr_10 _ (List.mem_of_getElem? (i := 16) rfl)
theorem W_233 : Cond.code yX5_isLetter cX5_isLetter 1 (some .boolean) ∈ wsL_law := wr_10 _ (List.mem_of_getElem? (i := 17) rfl)
theorem W_234 : Cond.methodLink RL 41 yX6_fault ∈ wsL_law := wr_10 _ (List.mem_of_getElem? (i := 18) rfl)
theorem W_235 : Cond.instanceMethod yX6_fault ∈ wsL_law := wr_10 _ (List.mem_of_getElem? (i := 19) rfl)
theorem W_236 : Cond.selects RX6 yX6_fault yX6_fault ∈ wsL_law := wr_10 _ (List.mem_of_getElem? (i := 20) rfl)
theorem W_237 : Cond.code yX6_fault cX6_fault 3 (some .int) ∈ wsL_law := wr_10 _ (List.mem_of_getElem? (i := 21) rfl)
theorem W_238 : Cond.fieldLink RX6 101 "LastTrainModel" "acts" "I" ∈ wsL_law := wr_10 _ (List.mem_of_getElem? (i := 22) rfl)
theorem W_239 : Cond.methodLink RX6 120 yX6_readOn ∈ wsL_law := wr_10 _ (List.mem_of_getElem? (i := 23) rfl)
theorem W_240 : Cond.instanceMethod yX6_readOn ∈ wsL_law := wr_11 _ (List.mem_of_getElem? (i := 0) rfl)
theorem W_241 : Cond.selects RX6 yX6_readOn yX6_readOn ∈ wsL_law := wr_11 _ (List.mem_of_getElem? (i := 1) rfl)
theorem W_242 : Cond.code yX6_readOn cX6_readOn 3 (some .int) ∈ wsL_law := wr_11 _ (List.mem_of_getElem? (i := 2) rfl)
theorem W_243 : Cond.methodLink RX6 114 yX6_begin ∈ wsL_law := wr_11 _ (List.mem_of_getElem? (i := 3) rfl)
theorem W_244 : Cond.instanceMethod yX6_begin ∈ wsL_law := wr_11 _ (List.mem_of_getElem? (i := 4) rfl)
theorem W_245 : Cond.selects RX6 yX6_begin yX6_begin ∈ wsL_law := wr_11 _ (List.mem_of_getElem? (i := 5) rfl)
theorem W_246 : Cond.code yX6_begin cX6_begin 2 (some .int) ∈ wsL_law := wr_11 _ (List.mem_of_getElem? (i := 6) rfl)
theorem W_247 : Cond.methodLink RX6 108 yX6_isLetter ∈ wsL_law := wr_11 _ (List.mem_of_getElem? (i := 7) rfl)
theorem W_248 : Cond.static yX6_isLetter ∈ wsL_law := wr_11 _ (List.mem_of_getElem? (i := 8) rfl)
theorem W_249 : Cond.code yX6_isLetter cX6_isLetter 1 (some .boolean) ∈ wsL_law := wr_11 _ (List.mem_of_getElem? (i := 9) rfl)
theorem W_250 : Cond.constantLong RX6 104 (65) ∈ wsL_law := wr_11 _ (List.mem_of_getElem? (i := 10) rfl)
theorem W_251 : Cond.constantLong RX6 106 (74) ∈ wsL_law := wr_11 _ (List.mem_of_getElem? (i := 11) rfl)
theorem W_252 : Cond.methodLink RX6 111 yX6_close ∈ wsL_law := wr_11 _ (List.mem_of_getElem? (i := 12) rfl)
theorem W_253 : Cond.instanceMethod yX6_close ∈ wsL_law := wr_11 _ (List.mem_of_getElem? (i := 13) rfl)
theorem W_254 : Cond.selects RX6 yX6_close yX6_close ∈ wsL_law := wr_11 _ (List.mem_of_getElem? (i := 14) rfl)
theorem W_255 : Cond.code yX6_close cX6_close 2 (some .int) ∈ wsL_law := wr_11 _ (List.mem_of_getElem? (i := 15) rfl)
theorem W_256 : Cond.methodLink RX6 117 yX6_deed ∈ wsL_law := wr_11 _ (List.mem_of_getElem? (i := 16) rfl)
theorem W_257 : Cond.instanceMethod yX6_deed ∈ wsL_law := wr_11 _ (List.mem_of_getElem? (i := 17) rfl)
theorem W_258 : Cond.selects RX6 yX6_deed yX6_deed ∈ wsL_law := wr_11 _ (List.mem_of_getElem? (i := 18) rfl)
theorem W_259 : Cond.code yX6_deed cX6_deed 2 (some .int) ∈ wsL_law := wr_11 _ (List.mem_of_getElem? (i := 19) rfl)
theorem W_260 : Cond.methodLink RL 42 yX5_judge ∈ wsL_law := wr_11 _ (List.mem_of_getElem? (i := 20) rfl)
theorem W_261 : Cond.instanceMethod yX5_judge ∈ wsL_law := wr_11 _ (List.mem_of_getElem? (i := 21) rfl)
theorem W_262 : Cond.selects RX5 yX5_judge yX5_judge ∈ wsL_law := wr_11 _ (List.mem_of_getElem? (i := 22) rfl)
theorem W_263 : Cond.code yX5_judge cX5_judge 3 (some .int) ∈ wsL_law := wr_11 _ (List.mem_of_getElem? (i := 23) rfl)
theorem W_264 : Cond.fieldLink RX5 111 "LastTrain$Course" "wentCount" "I" ∈ wsL_law := wr_12 _ (List.mem_of_getElem? (i := 0) rfl)
theorem W_265 : Cond.fieldLink RX5 114 "LastTrain$Course" "acts" "I" ∈ wsL_law := wr_12 _ (List.mem_of_getElem? (i := 1) rfl)
theorem W_266 : Cond.fieldLink RX5 117 "LastTrain$Course" "stuckReason" "I" ∈ wsL_law := wr_12 _ (List.mem_of_getElem? (i := 2) rfl)
theorem W_267 : Cond.methodLink RX5 107 yX1_play ∈ wsL_law := wr_12 _ (List.mem_of_getElem? (i := 3) rfl)
theorem W_268 : Cond.instanceMethod yX1_play ∈ wsL_law := wr_12 _ (List.mem_of_getElem? (i := 4) rfl)
theorem W_269 : Cond.selects RX1 yX1_play yX1_play ∈ wsL_law := wr_12 _ (List.mem_of_getElem? (i := 5) rfl)
theorem W_270 : Cond.code yX1_play cX1_play 6 (some .int) ∈ wsL_law := wr_12 _ (List.mem_of_getElem? (i := 6) rfl)
theorem W_271 : Cond.fieldLink RX1 50 "LastTrain$Pad" "length" "I" ∈ wsL_law := wr_12 _ (List.mem_of_getElem? (i := 7) rfl)
theorem W_272 : Cond.methodLink RX1 41 yX2_firstFault ∈ wsL_law := wr_12 _ (List.mem_of_getElem? (i := 8) rfl)
theorem W_273 : Cond.methodLink RX1 47 yX1_startFrom ∈ wsL_law := wr_12 _ (List.mem_of_getElem? (i := 9) rfl)
theorem W_274 : Cond.instanceMethod yX1_startFrom ∈ wsL_law := wr_12 _ (List.mem_of_getElem? (i := 10) rfl)
theorem W_275 : Cond.selects RX1 yX1_startFrom yX1_startFrom ∈ wsL_law := wr_12 _ (List.mem_of_getElem? (i := 11) rfl)
theorem W_276 : Cond.code yX1_startFrom cX1_startFrom 2 none ∈ wsL_law := wr_12 _ (List.mem_of_getElem? (i := 12) rfl)
theorem W_277 : Cond.methodLink RX1 37 yX4_copyFrom ∈ wsL_law := wr_12 _ (List.mem_of_getElem? (i := 13) rfl)
theorem W_278 : Cond.instanceMethod yX4_copyFrom ∈ wsL_law := wr_12 _ (List.mem_of_getElem? (i := 14) rfl)
theorem W_279 : Cond.selects RX4 yX4_copyFrom yX4_copyFrom ∈ wsL_law := wr_12 _ (List.mem_of_getElem? (i := 15) rfl)
theorem W_280 : Cond.code yX4_copyFrom cX4_copyFrom 2 none ∈ wsL_law := wr_12 _ (List.mem_of_getElem? (i := 16) rfl)
theorem W_281 : Cond.methodLink RX4 40 yX4_copyRow ∈ wsL_law := wr_12 _ (List.mem_of_getElem? (i := 17) rfl)
theorem W_282 : Cond.static yX4_copyRow ∈ wsL_law := wr_12 _ (List.mem_of_getElem? (i := 18) rfl)
theorem W_283 : Cond.code yX4_copyRow cX4_copyRow 3 none ∈ wsL_law := wr_12 _ (List.mem_of_getElem? (i := 19) rfl)
theorem W_284 : Cond.methodLink RX1 53 yX2_deedFrom ∈ wsL_law := wr_12 _ (List.mem_of_getElem? (i := 20) rfl)
theorem W_285 : Cond.instanceMethod yX2_deedFrom ∈ wsL_law := wr_12 _ (List.mem_of_getElem? (i := 21) rfl)
theorem W_286 : Cond.selects RX2 yX2_deedFrom yX2_deedFrom ∈ wsL_law := wr_12 _ (List.mem_of_getElem? (i := 22) rfl)
theorem W_287 : Cond.code yX2_deedFrom cX2_deedFrom 3 (some .int) ∈ wsL_law := wr_12 _ (List.mem_of_getElem? (i := 23) rfl)
theorem W_288 : Cond.methodLink RX1 57 yX2_signAt ∈ wsL_law := wr_13 _ (List.mem_of_getElem? (i := 0) rfl)
theorem W_289 : Cond.methodLink RX1 60 yX1_attempt ∈ wsL_law := wr_13 _ (List.mem_of_getElem? (i := 1) rfl)
theorem W_290 : Cond.instanceMethod yX1_attempt ∈ wsL_law := wr_13 _ (List.mem_of_getElem? (i := 2) rfl)
theorem W_291 : Cond.selects RX1 yX1_attempt yX1_attempt ∈ wsL_law := wr_13 _ (List.mem_of_getElem? (i := 3) rfl)
theorem W_292 : Cond.code yX1_attempt cX1_attempt 5 (some .int) ∈ wsL_law := wr_13 _ (List.mem_of_getElem? (i := 4) rfl)
theorem W_293 : Cond.methodLink RX1 67 yX4_reasonAgainst ∈ wsL_law := wr_13 _ (List.mem_of_getElem? (i := 5) rfl)
theorem W_294 : Cond.instanceMethod yX4_reasonAgainst ∈ wsL_law := wr_13 _ (List.mem_of_getElem? (i := 6) rfl)
theorem W_295 : Cond.selects RX4 yX4_reasonAgainst yX4_reasonAgainst ∈ wsL_law := wr_13 _ (List.mem_of_getElem? (i := 7) rfl)
theorem W_296 : Cond.code yX4_reasonAgainst cX4_reasonAgainst 4 (some .int) ∈ wsL_law := wr_13 _ (List.mem_of_getElem? (i := 8) rfl)
theorem W_297 : Cond.methodLink RX4 81 yX4_anyTieFades ∈ wsL_law := wr_13 _ (List.mem_of_getElem? (i := 9) rfl)
theorem W_298 : Cond.instanceMethod yX4_anyTieFades ∈ wsL_law := wr_13 _ (List.mem_of_getElem? (i := 10) rfl)
theorem W_299 : Cond.selects RX4 yX4_anyTieFades yX4_anyTieFades ∈ wsL_law := wr_13 _ (List.mem_of_getElem? (i := 11) rfl)
theorem W_300 : Cond.code yX4_anyTieFades cX4_anyTieFades 3 (some .boolean) ∈ wsL_law := wr_13 _ (List.mem_of_getElem? (i := 12) rfl)
theorem W_301 : Cond.methodLink RX4 89 yX4_fades ∈ wsL_law := wr_13 _ (List.mem_of_getElem? (i := 13) rfl)
theorem W_302 : Cond.instanceMethod yX4_fades ∈ wsL_law := wr_13 _ (List.mem_of_getElem? (i := 14) rfl)
theorem W_303 : Cond.selects RX4 yX4_fades yX4_fades ∈ wsL_law := wr_13 _ (List.mem_of_getElem? (i := 15) rfl)
theorem W_304 : Cond.code yX4_fades cX4_fades 3 (some .boolean) ∈ wsL_law := wr_13 _ (List.mem_of_getElem? (i := 16) rfl)
theorem W_305 : Cond.methodLink RX4 59 yX4_isHere ∈ wsL_law := wr_13 _ (List.mem_of_getElem? (i := 17) rfl)
theorem W_306 : Cond.instanceMethod yX4_isHere ∈ wsL_law := wr_13 _ (List.mem_of_getElem? (i := 18) rfl)
theorem W_307 : Cond.selects RX4 yX4_isHere yX4_isHere ∈ wsL_law := wr_13 _ (List.mem_of_getElem? (i := 19) rfl)
theorem W_308 : Cond.code yX4_isHere cX4_isHere 2 (some .boolean) ∈ wsL_law := wr_13 _ (List.mem_of_getElem? (i := 20) rfl)
theorem W_309 : Cond.methodLink RX4 52 yX4_kind ∈ wsL_law := wr_13 _ (List.mem_of_getElem? (i := 21) rfl)
theorem W_310 : Cond.instanceMethod yX4_kind ∈ wsL_law := wr_13 _ (List.mem_of_getElem? (i := 22) rfl)
theorem W_311 : Cond.selects RX4 yX4_kind yX4_kind ∈ wsL_law := wr_13 _ (List.mem_of_getElem? (i := 23) rfl)
theorem W_312 : Cond.code yX4_kind cX4_kind 3 (some .int) ∈ wsL_law := wr_14 _ (List.mem_of_getElem? (i := 0) rfl)
theorem W_313 : Cond.methodLink RX4 44 yX4_strength ∈ wsL_law := wr_14 _ (List.mem_of_getElem? (i := 1) rfl)
theorem W_314 : Cond.methodLink RX4 85 yX4_tieForbids ∈ wsL_law := wr_14 _ (List.mem_of_getElem? (i := 2) rfl)
theorem W_315 : Cond.instanceMethod yX4_tieForbids ∈ wsL_law := wr_14 _ (List.mem_of_getElem? (i := 3) rfl)
theorem W_316 : Cond.selects RX4 yX4_tieForbids yX4_tieForbids ∈ wsL_law := wr_14 _ (List.mem_of_getElem? (i := 4) rfl)
theorem W_317 : Cond.code yX4_tieForbids cX4_tieForbids 5 (some .boolean) ∈ wsL_law := wr_14 _ (List.mem_of_getElem? (i := 5) rfl)
theorem W_318 : Cond.methodLink RX1 70 yX1_runTrain ∈ wsL_law := wr_14 _ (List.mem_of_getElem? (i := 6) rfl)
theorem W_319 : Cond.instanceMethod yX1_runTrain ∈ wsL_law := wr_14 _ (List.mem_of_getElem? (i := 7) rfl)
theorem W_320 : Cond.selects RX1 yX1_runTrain yX1_runTrain ∈ wsL_law := wr_14 _ (List.mem_of_getElem? (i := 8) rfl)
theorem W_321 : Cond.code yX1_runTrain cX1_runTrain 2 none ∈ wsL_law := wr_14 _ (List.mem_of_getElem? (i := 9) rfl)
theorem W_322 : Cond.fieldLink RX1 77 "LastTrain$Town" "waiting" "I" ∈ wsL_law := wr_14 _ (List.mem_of_getElem? (i := 10) rfl)
theorem W_323 : Cond.fieldLink RX1 92 "LastTrain$Town" "here" "I" ∈ wsL_law := wr_14 _ (List.mem_of_getElem? (i := 11) rfl)
theorem W_324 : Cond.methodLink RX1 80 yX4_missed ∈ wsL_law := wr_14 _ (List.mem_of_getElem? (i := 12) rfl)
theorem W_325 : Cond.instanceMethod yX4_missed ∈ wsL_law := wr_14 _ (List.mem_of_getElem? (i := 13) rfl)
theorem W_326 : Cond.selects RX4 yX4_missed yX4_missed ∈ wsL_law := wr_14 _ (List.mem_of_getElem? (i := 14) rfl)
theorem W_327 : Cond.code yX4_missed cX4_missed 3 (some .int) ∈ wsL_law := wr_14 _ (List.mem_of_getElem? (i := 15) rfl)
theorem W_328 : Cond.methodLink RX4 63 yX4_missingIt ∈ wsL_law := wr_14 _ (List.mem_of_getElem? (i := 16) rfl)
theorem W_329 : Cond.instanceMethod yX4_missingIt ∈ wsL_law := wr_14 _ (List.mem_of_getElem? (i := 17) rfl)
theorem W_330 : Cond.selects RX4 yX4_missingIt yX4_missingIt ∈ wsL_law := wr_14 _ (List.mem_of_getElem? (i := 18) rfl)
theorem W_331 : Cond.code yX4_missingIt cX4_missingIt 6 (some .int) ∈ wsL_law := wr_14 _ (List.mem_of_getElem? (i := 19) rfl)
theorem W_332 : Cond.methodLink RX4 48 yX4_rule ∈ wsL_law := wr_14 _ (List.mem_of_getElem? (i := 20) rfl)
theorem W_333 : Cond.methodLink RX4 66 yJ6_bitCount_0f7a4 ∈ wsL_law := wr_14 _ (List.mem_of_getElem? (i := 21) rfl)
theorem W_334 : Cond.methodLink RX4 71 yX4_tiesNeeded ∈ wsL_law := wr_14 _ (List.mem_of_getElem? (i := 22) rfl)
theorem W_335 : Cond.instanceMethod yX4_tiesNeeded ∈ wsL_law := wr_14 _ (List.mem_of_getElem? (i := 23) rfl)
theorem W_336 : Cond.selects RX4 yX4_tiesNeeded yX4_tiesNeeded ∈ wsL_law := wr_15 _ (List.mem_of_getElem? (i := 0) rfl)
theorem W_337 : Cond.code yX4_tiesNeeded cX4_tiesNeeded 2 (some .int) ∈ wsL_law := wr_15 _ (List.mem_of_getElem? (i := 1) rfl)
theorem W_338 : Cond.static yX5_holds ∈ wsL_law := wr_15 _ (List.mem_of_getElem? (i := 2) rfl)
theorem W_339 : Cond.code yX5_holds cX5_holds 2 (some .boolean) ∈ wsL_law := wr_15 _ (List.mem_of_getElem? (i := 3) rfl)
theorem W_340 : Cond.methodLink RX1 83 yX4_endNight ∈ wsL_law := wr_15 _ (List.mem_of_getElem? (i := 4) rfl)
theorem W_341 : Cond.instanceMethod yX4_endNight ∈ wsL_law := wr_15 _ (List.mem_of_getElem? (i := 5) rfl)
theorem W_342 : Cond.selects RX4 yX4_endNight yX4_endNight ∈ wsL_law := wr_15 _ (List.mem_of_getElem? (i := 6) rfl)
theorem W_343 : Cond.code yX4_endNight cX4_endNight 2 none ∈ wsL_law := wr_15 _ (List.mem_of_getElem? (i := 7) rfl)
theorem W_344 : Cond.methodLink RX1 87 yJ6_bitCount_0f7a4 ∈ wsL_law := wr_15 _ (List.mem_of_getElem? (i := 8) rfl)
theorem W_345 : Cond.methodLink RX1 95 yX4_strengthBetween ∈ wsL_law := wr_15 _ (List.mem_of_getElem? (i := 9) rfl)
theorem W_346 : Cond.instanceMethod yX4_strengthBetween ∈ wsL_law := wr_15 _ (List.mem_of_getElem? (i := 10) rfl)
theorem W_347 : Cond.selects RX4 yX4_strengthBetween yX4_strengthBetween ∈ wsL_law := wr_15 _ (List.mem_of_getElem? (i := 11) rfl)
theorem W_348 : Cond.code yX4_strengthBetween cX4_strengthBetween 6 (some .int) ∈ wsL_law := wr_15 _ (List.mem_of_getElem? (i := 12) rfl)
theorem W_349 : Cond.static yX5_leastOne ∈ wsL_law := wr_15 _ (List.mem_of_getElem? (i := 13) rfl)
theorem W_350 : Cond.code yX5_leastOne cX5_leastOne 2 (some .int) ∈ wsL_law := wr_15 _ (List.mem_of_getElem? (i := 14) rfl)
theorem W_351 : Cond.methodLink RX5 238 yX5_holds ∈ wsL_law := wr_15 _ (List.mem_of_getElem? (i := 15) rfl)
theorem W_352 : Cond.methodLink RX1 73 yX4_perform ∈ wsL_law := wr_15 _ (List.mem_of_getElem? (i := 16) rfl)
theorem W_353 : Cond.instanceMethod yX4_perform ∈ wsL_law := wr_15 _ (List.mem_of_getElem? (i := 17) rfl)
theorem W_354 : Cond.selects RX4 yX4_perform yX4_perform ∈ wsL_law := wr_15 _ (List.mem_of_getElem? (i := 18) rfl)
theorem W_355 : Cond.code yX4_perform cX4_perform 6 none ∈ wsL_law := wr_15 _ (List.mem_of_getElem? (i := 19) rfl)
theorem W_356 : Cond.methodLink RX4 96 Lib.Math.min.name ∈ wsL_law := wr_15 _ (List.mem_of_getElem? (i := 20) rfl)
theorem W_357 : Cond.static Lib.Math.min.name ∈ wsL_law := wr_15 _ (List.mem_of_getElem? (i := 21) rfl)
theorem W_358 : Cond.initialized "java/lang/Math" ∈ wsL_law := wr_15 _ (List.mem_of_getElem? (i := 22) rfl)
theorem W_359 : Cond.code Lib.Math.min.name Lib.Math.min.code 2 (some .int) ∈ wsL_law := wr_15 _ (List.mem_of_getElem? (i := 23) rfl)
theorem W_360 : Cond.methodLink RX4 101 Lib.Math.max.name ∈ wsL_law := wr_16 _ (List.mem_of_getElem? (i := 0) rfl)
theorem W_361 : Cond.static Lib.Math.max.name ∈ wsL_law := wr_16 _ (List.mem_of_getElem? (i := 1) rfl)
theorem W_362 : Cond.code Lib.Math.max.name Lib.Math.max.code 2 (some .int) ∈ wsL_law := wr_16 _ (List.mem_of_getElem? (i := 2) rfl)
theorem W_363 : Cond.methodLink RX4 92 yX4_bind ∈ wsL_law := wr_16 _ (List.mem_of_getElem? (i := 3) rfl)
theorem W_364 : Cond.methodLink RX4 104 yX4_fadeAll ∈ wsL_law := wr_16 _ (List.mem_of_getElem? (i := 4) rfl)
theorem W_365 : Cond.instanceMethod yX4_fadeAll ∈ wsL_law := wr_16 _ (List.mem_of_getElem? (i := 5) rfl)
theorem W_366 : Cond.selects RX4 yX4_fadeAll yX4_fadeAll ∈ wsL_law := wr_16 _ (List.mem_of_getElem? (i := 6) rfl)
theorem W_367 : Cond.code yX4_fadeAll cX4_fadeAll 3 none ∈ wsL_law := wr_16 _ (List.mem_of_getElem? (i := 7) rfl)
theorem W_368 : Cond.methodLink RX1 64 yX2_lengthOf ∈ wsL_law := wr_16 _ (List.mem_of_getElem? (i := 8) rfl)
theorem W_369 : Cond.static yX2_lengthOf ∈ wsL_law := wr_16 _ (List.mem_of_getElem? (i := 9) rfl)
theorem W_370 : Cond.code yX2_lengthOf cX2_lengthOf 1 (some .int) ∈ wsL_law := wr_16 _ (List.mem_of_getElem? (i := 10) rfl)
theorem W_371 : Cond.methodLink RL 45 yX6_judge ∈ wsL_law := wr_16 _ (List.mem_of_getElem? (i := 11) rfl)
theorem W_372 : Cond.instanceMethod yX6_judge ∈ wsL_law := wr_16 _ (List.mem_of_getElem? (i := 12) rfl)
theorem W_373 : Cond.selects RX6 yX6_judge yX6_judge ∈ wsL_law := wr_16 _ (List.mem_of_getElem? (i := 13) rfl)
theorem W_374 : Cond.code yX6_judge cX6_judge 3 (some .int) ∈ wsL_law := wr_16 _ (List.mem_of_getElem? (i := 14) rfl)
theorem W_375 : Cond.constantLong RX6 214 (2) ∈ wsL_law := wr_16 _ (List.mem_of_getElem? (i := 15) rfl)
theorem W_376 : Cond.fieldLink RX6 191 "LastTrainModel" "badAct" "I" ∈ wsL_law := wr_16 _ (List.mem_of_getElem? (i := 16) rfl)
theorem W_377 : Cond.fieldLink RX6 194 "LastTrainModel" "badWhy" "I" ∈ wsL_law := wr_16 _ (List.mem_of_getElem? (i := 17) rfl)
theorem W_378 : Cond.fieldLink RX6 153 "LastTrainModel" "wentMany" "I" ∈ wsL_law := wr_16 _ (List.mem_of_getElem? (i := 18) rfl)
theorem W_379 : Cond.methodLink RX6 216 yX6_refusal ∈ wsL_law := wr_16 _ (List.mem_of_getElem? (i := 19) rfl)
theorem W_380 : Cond.instanceMethod yX6_refusal ∈ wsL_law := wr_16 _ (List.mem_of_getElem? (i := 20) rfl)
theorem W_381 : Cond.selects RX6 yX6_refusal yX6_refusal ∈ wsL_law := wr_16 _ (List.mem_of_getElem? (i := 21) rfl)
theorem W_382 : Cond.code yX6_refusal cX6_refusal 1 (some .int) ∈ wsL_law := wr_16 _ (List.mem_of_getElem? (i := 22) rfl)
theorem W_383 : Cond.methodLink RX6 204 yX6_keepNow ∈ wsL_law := wr_16 _ (List.mem_of_getElem? (i := 23) rfl)
theorem W_384 : Cond.instanceMethod yX6_keepNow ∈ wsL_law := wr_17 _ (List.mem_of_getElem? (i := 0) rfl)
theorem W_385 : Cond.selects RX6 yX6_keepNow yX6_keepNow ∈ wsL_law := wr_17 _ (List.mem_of_getElem? (i := 1) rfl)
theorem W_386 : Cond.code yX6_keepNow cX6_keepNow 2 none ∈ wsL_law := wr_17 _ (List.mem_of_getElem? (i := 2) rfl)
theorem W_387 : Cond.methodLink RX6 207 yX6_fault ∈ wsL_law := wr_17 _ (List.mem_of_getElem? (i := 3) rfl)
theorem W_388 : Cond.methodLink RX6 211 yX6_goMonths ∈ wsL_law := wr_17 _ (List.mem_of_getElem? (i := 4) rfl)
theorem W_389 : Cond.instanceMethod yX6_goMonths ∈ wsL_law := wr_17 _ (List.mem_of_getElem? (i := 5) rfl)
theorem W_390 : Cond.selects RX6 yX6_goMonths yX6_goMonths ∈ wsL_law := wr_17 _ (List.mem_of_getElem? (i := 6) rfl)
theorem W_391 : Cond.code yX6_goMonths cX6_goMonths 3 none ∈ wsL_law := wr_17 _ (List.mem_of_getElem? (i := 7) rfl)
theorem W_392 : Cond.fieldLink RX6 156 "LastTrainModel" "cut" "I" ∈ wsL_law := wr_17 _ (List.mem_of_getElem? (i := 8) rfl)
theorem W_393 : Cond.fieldLink RX6 182 "LastTrainModel" "takenAct" "I" ∈ wsL_law := wr_17 _ (List.mem_of_getElem? (i := 9) rfl)
theorem W_394 : Cond.fieldLink RX6 188 "LastTrainModel" "takenWho" "I" ∈ wsL_law := wr_17 _ (List.mem_of_getElem? (i := 10) rfl)
theorem W_395 : Cond.methodLink RX6 197 yX6_whyNot ∈ wsL_law := wr_17 _ (List.mem_of_getElem? (i := 11) rfl)
theorem W_396 : Cond.instanceMethod yX6_whyNot ∈ wsL_law := wr_17 _ (List.mem_of_getElem? (i := 12) rfl)
theorem W_397 : Cond.selects RX6 yX6_whyNot yX6_whyNot ∈ wsL_law := wr_17 _ (List.mem_of_getElem? (i := 13) rfl)
theorem W_398 : Cond.code yX6_whyNot cX6_whyNot 4 (some .int) ∈ wsL_law := wr_17 _ (List.mem_of_getElem? (i := 14) rfl)
theorem W_399 : Cond.methodLink RX6 143 yX6_canAnyFade ∈ wsL_law := wr_17 _ (List.mem_of_getElem? (i := 15) rfl)
theorem W_400 : Cond.instanceMethod yX6_canAnyFade ∈ wsL_law := wr_17 _ (List.mem_of_getElem? (i := 16) rfl)
theorem W_401 : Cond.selects RX6 yX6_canAnyFade yX6_canAnyFade ∈ wsL_law := wr_17 _ (List.mem_of_getElem? (i := 17) rfl)
theorem W_402 : Cond.code yX6_canAnyFade cX6_canAnyFade 3 (some .boolean) ∈ wsL_law := wr_17 _ (List.mem_of_getElem? (i := 18) rfl)
theorem W_403 : Cond.methodLink RX6 140 yX6_canFade ∈ wsL_law := wr_17 _ (List.mem_of_getElem? (i := 19) rfl)
theorem W_404 : Cond.instanceMethod yX6_canFade ∈ wsL_law := wr_17 _ (List.mem_of_getElem? (i := 20) rfl)
theorem W_405 : Cond.selects RX6 yX6_canFade yX6_canFade ∈ wsL_law := wr_17 _ (List.mem_of_getElem? (i := 21) rfl)
theorem W_406 : Cond.code yX6_canFade cX6_canFade 4 (some .boolean) ∈ wsL_law := wr_17 _ (List.mem_of_getElem? (i := 22) rfl)
theorem W_407 : Cond.methodLink RX6 124 yX6_has ∈ wsL_law := wr_17 _ (List.mem_of_getElem? (i := 23) rfl)
theorem W_408 : Cond.static yX6_has ∈ wsL_law := wr_18 _ (List.mem_of_getElem? (i := 0) rfl)
theorem W_409 : Cond.code yX6_has cX6_has 2 (some .boolean) ∈ wsL_law := wr_18 _ (List.mem_of_getElem? (i := 1) rfl)
theorem W_410 : Cond.methodLink RX6 147 yX6_whyNoTie ∈ wsL_law := wr_18 _ (List.mem_of_getElem? (i := 2) rfl)
theorem W_411 : Cond.instanceMethod yX6_whyNoTie ∈ wsL_law := wr_18 _ (List.mem_of_getElem? (i := 3) rfl)
theorem W_412 : Cond.selects RX6 yX6_whyNoTie yX6_whyNoTie ∈ wsL_law := wr_18 _ (List.mem_of_getElem? (i := 4) rfl)
theorem W_413 : Cond.code yX6_whyNoTie cX6_whyNoTie 6 (some .int) ∈ wsL_law := wr_18 _ (List.mem_of_getElem? (i := 5) rfl)
theorem W_414 : Cond.methodLink RX6 200 yX6_goOne ∈ wsL_law := wr_18 _ (List.mem_of_getElem? (i := 6) rfl)
theorem W_415 : Cond.instanceMethod yX6_goOne ∈ wsL_law := wr_18 _ (List.mem_of_getElem? (i := 7) rfl)
theorem W_416 : Cond.selects RX6 yX6_goOne yX6_goOne ∈ wsL_law := wr_18 _ (List.mem_of_getElem? (i := 8) rfl)
theorem W_417 : Cond.code yX6_goOne cX6_goOne 2 none ∈ wsL_law := wr_18 _ (List.mem_of_getElem? (i := 9) rfl)
theorem W_418 : Cond.fieldLink RX6 162 "LastTrainModel" "nightWent" "I" ∈ wsL_law := wr_18 _ (List.mem_of_getElem? (i := 10) rfl)
theorem W_419 : Cond.methodLink RX6 178 yX6_happen ∈ wsL_law := wr_18 _ (List.mem_of_getElem? (i := 11) rfl)
theorem W_420 : Cond.instanceMethod yX6_happen ∈ wsL_law := wr_18 _ (List.mem_of_getElem? (i := 12) rfl)
theorem W_421 : Cond.selects RX6 yX6_happen yX6_happen ∈ wsL_law := wr_18 _ (List.mem_of_getElem? (i := 13) rfl)
theorem W_422 : Cond.code yX6_happen cX6_happen 4 none ∈ wsL_law := wr_18 _ (List.mem_of_getElem? (i := 14) rfl)
theorem W_423 : Cond.methodLink RX6 165 yX6_meet ∈ wsL_law := wr_18 _ (List.mem_of_getElem? (i := 15) rfl)
theorem W_424 : Cond.instanceMethod yX6_meet ∈ wsL_law := wr_18 _ (List.mem_of_getElem? (i := 16) rfl)
theorem W_425 : Cond.selects RX6 yX6_meet yX6_meet ∈ wsL_law := wr_18 _ (List.mem_of_getElem? (i := 17) rfl)
theorem W_426 : Cond.code yX6_meet cX6_meet 4 none ∈ wsL_law := wr_18 _ (List.mem_of_getElem? (i := 18) rfl)
theorem W_427 : Cond.methodLink RX6 169 yX6_quarrel ∈ wsL_law := wr_18 _ (List.mem_of_getElem? (i := 19) rfl)
theorem W_428 : Cond.instanceMethod yX6_quarrel ∈ wsL_law := wr_18 _ (List.mem_of_getElem? (i := 20) rfl)
theorem W_429 : Cond.selects RX6 yX6_quarrel yX6_quarrel ∈ wsL_law := wr_18 _ (List.mem_of_getElem? (i := 21) rfl)
theorem W_430 : Cond.code yX6_quarrel cX6_quarrel 4 none ∈ wsL_law := wr_18 _ (List.mem_of_getElem? (i := 22) rfl)
theorem W_431 : Cond.methodLink RX6 172 yX6_night ∈ wsL_law := wr_18 _ (List.mem_of_getElem? (i := 23) rfl)
theorem W_432 : Cond.instanceMethod yX6_night ∈ wsL_law := wr_19 _ (List.mem_of_getElem? (i := 0) rfl)
theorem W_433 : Cond.selects RX6 yX6_night yX6_night ∈ wsL_law := wr_19 _ (List.mem_of_getElem? (i := 1) rfl)
theorem W_434 : Cond.code yX6_night cX6_night 2 none ∈ wsL_law := wr_19 _ (List.mem_of_getElem? (i := 2) rfl)
theorem W_435 : Cond.methodLink RX6 150 yX6_missedIn ∈ wsL_law := wr_19 _ (List.mem_of_getElem? (i := 3) rfl)
theorem W_436 : Cond.instanceMethod yX6_missedIn ∈ wsL_law := wr_19 _ (List.mem_of_getElem? (i := 4) rfl)
theorem W_437 : Cond.selects RX6 yX6_missedIn yX6_missedIn ∈ wsL_law := wr_19 _ (List.mem_of_getElem? (i := 5) rfl)
theorem W_438 : Cond.code yX6_missedIn cX6_missedIn 4 (some .int) ∈ wsL_law := wr_19 _ (List.mem_of_getElem? (i := 6) rfl)
theorem W_439 : Cond.methodLink RX6 137 yX6_isMissedIn ∈ wsL_law := wr_19 _ (List.mem_of_getElem? (i := 7) rfl)
theorem W_440 : Cond.instanceMethod yX6_isMissedIn ∈ wsL_law := wr_19 _ (List.mem_of_getElem? (i := 8) rfl)
theorem W_441 : Cond.selects RX6 yX6_isMissedIn yX6_isMissedIn ∈ wsL_law := wr_19 _ (List.mem_of_getElem? (i := 9) rfl)
theorem W_442 : Cond.code yX6_isMissedIn cX6_isMissedIn 3 (some .boolean) ∈ wsL_law := wr_19 _ (List.mem_of_getElem? (i := 10) rfl)
theorem W_443 : Cond.methodLink RX6 131 yX6_tiesThatCount ∈ wsL_law := wr_19 _ (List.mem_of_getElem? (i := 11) rfl)
theorem W_444 : Cond.instanceMethod yX6_tiesThatCount ∈ wsL_law := wr_19 _ (List.mem_of_getElem? (i := 12) rfl)
theorem W_445 : Cond.selects RX6 yX6_tiesThatCount yX6_tiesThatCount ∈ wsL_law := wr_19 _ (List.mem_of_getElem? (i := 13) rfl)
theorem W_446 : Cond.code yX6_tiesThatCount cX6_tiesThatCount 5 (some .int) ∈ wsL_law := wr_19 _ (List.mem_of_getElem? (i := 14) rfl)
theorem W_447 : Cond.methodLink RX6 128 yX6_counts ∈ wsL_law := wr_19 _ (List.mem_of_getElem? (i := 15) rfl)
theorem W_448 : Cond.instanceMethod yX6_counts ∈ wsL_law := wr_19 _ (List.mem_of_getElem? (i := 16) rfl)
theorem W_449 : Cond.selects RX6 yX6_counts yX6_counts ∈ wsL_law := wr_19 _ (List.mem_of_getElem? (i := 17) rfl)
theorem W_450 : Cond.code yX6_counts cX6_counts 4 (some .boolean) ∈ wsL_law := wr_19 _ (List.mem_of_getElem? (i := 18) rfl)
theorem W_451 : Cond.methodLink RX6 134 yX6_dogOf ∈ wsL_law := wr_19 _ (List.mem_of_getElem? (i := 19) rfl)
theorem W_452 : Cond.instanceMethod yX6_dogOf ∈ wsL_law := wr_19 _ (List.mem_of_getElem? (i := 20) rfl)
theorem W_453 : Cond.selects RX6 yX6_dogOf yX6_dogOf ∈ wsL_law := wr_19 _ (List.mem_of_getElem? (i := 21) rfl)
theorem W_454 : Cond.code yX6_dogOf cX6_dogOf 2 (some .int) ∈ wsL_law := wr_19 _ (List.mem_of_getElem? (i := 22) rfl)
theorem W_455 : Cond.methodLink RX6 159 yX6_tiesBetween ∈ wsL_law := wr_19 _ (List.mem_of_getElem? (i := 23) rfl)
theorem W_456 : Cond.instanceMethod yX6_tiesBetween ∈ wsL_law := wr_20 _ (List.mem_of_getElem? (i := 0) rfl)
theorem W_457 : Cond.selects RX6 yX6_tiesBetween yX6_tiesBetween ∈ wsL_law := wr_20 _ (List.mem_of_getElem? (i := 1) rfl)
theorem W_458 : Cond.code yX6_tiesBetween cX6_tiesBetween 5 (some .int) ∈ wsL_law := wr_20 _ (List.mem_of_getElem? (i := 2) rfl)
theorem W_459 : Cond.methodLink RX6 175 yX6_month ∈ wsL_law := wr_20 _ (List.mem_of_getElem? (i := 3) rfl)
theorem W_460 : Cond.instanceMethod yX6_month ∈ wsL_law := wr_20 _ (List.mem_of_getElem? (i := 4) rfl)
theorem W_461 : Cond.selects RX6 yX6_month yX6_month ∈ wsL_law := wr_20 _ (List.mem_of_getElem? (i := 5) rfl)
theorem W_462 : Cond.code yX6_month cX6_month 2 none ∈ wsL_law := wr_20 _ (List.mem_of_getElem? (i := 6) rfl)
theorem W_463 : Cond.methodLink RX6 185 yX6_leastOf ∈ wsL_law := wr_20 _ (List.mem_of_getElem? (i := 7) rfl)
theorem W_464 : Cond.static yX6_leastOf ∈ wsL_law := wr_20 _ (List.mem_of_getElem? (i := 8) rfl)
theorem W_465 : Cond.code yX6_leastOf cX6_leastOf 3 (some .int) ∈ wsL_law := wr_20 _ (List.mem_of_getElem? (i := 9) rfl)
theorem W_466 : Cond.methodLink RX6 219 yX6_back ∈ wsL_law := wr_20 _ (List.mem_of_getElem? (i := 10) rfl)
theorem W_467 : Cond.instanceMethod yX6_back ∈ wsL_law := wr_20 _ (List.mem_of_getElem? (i := 11) rfl)
theorem W_468 : Cond.selects RX6 yX6_back yX6_back ∈ wsL_law := wr_20 _ (List.mem_of_getElem? (i := 12) rfl)
theorem W_469 : Cond.code yX6_back cX6_back 3 (some .int) ∈ wsL_law := wr_20 _ (List.mem_of_getElem? (i := 13) rfl)
theorem W_470 : Cond.methodLink RL 46 yX5_behind ∈ wsL_law := wr_20 _ (List.mem_of_getElem? (i := 14) rfl)
theorem W_471 : Cond.instanceMethod yX5_behind ∈ wsL_law := wr_20 _ (List.mem_of_getElem? (i := 15) rfl)
theorem W_472 : Cond.selects RX5 yX5_behind yX5_behind ∈ wsL_law := wr_20 _ (List.mem_of_getElem? (i := 16) rfl)
theorem W_473 : Cond.code yX5_behind cX5_behind 4 (some .int) ∈ wsL_law := wr_20 _ (List.mem_of_getElem? (i := 17) rfl)
theorem W_474 : Cond.fieldLink RX5 120 "LastTrain$Course" "town" "LLastTrain$Town;" ∈ wsL_law := wr_20 _ (List.mem_of_getElem? (i := 18) rfl)
theorem W_475 : Cond.methodLink RX5 121 yX4_toldOf ∈ wsL_law := wr_20 _ (List.mem_of_getElem? (i := 19) rfl)
theorem W_476 : Cond.instanceMethod yX4_toldOf ∈ wsL_law := wr_20 _ (List.mem_of_getElem? (i := 20) rfl)
theorem W_477 : Cond.selects RX4 yX4_toldOf yX4_toldOf ∈ wsL_law := wr_20 _ (List.mem_of_getElem? (i := 21) rfl)
theorem W_478 : Cond.code yX4_toldOf cX4_toldOf 3 (some .int) ∈ wsL_law := wr_20 _ (List.mem_of_getElem? (i := 22) rfl)
theorem W_479 : Cond.methodLink RX4 77 yX4_missed ∈ wsL_law := wr_20 _ (List.mem_of_getElem? (i := 23) rfl)
theorem W_480 : Cond.methodLink RX4 74 yX4_strengthBetween ∈ wsL_law := wr_21 _ (List.mem_of_getElem? (i := 0) rfl)
theorem W_481 : Cond.methodLink RL 49 yX6_behind ∈ wsL_law := wr_21 _ (List.mem_of_getElem? (i := 1) rfl)
theorem W_482 : Cond.instanceMethod yX6_behind ∈ wsL_law := wr_21 _ (List.mem_of_getElem? (i := 2) rfl)
theorem W_483 : Cond.selects RX6 yX6_behind yX6_behind ∈ wsL_law := wr_21 _ (List.mem_of_getElem? (i := 3) rfl)
theorem W_484 : Cond.code yX6_behind cX6_behind 4 (some .int) ∈ wsL_law := wr_21 _ (List.mem_of_getElem? (i := 4) rfl)
theorem W_485 : Cond.constantLong RX6 222 (4) ∈ wsL_law := wr_21 _ (List.mem_of_getElem? (i := 5) rfl)
theorem W_486 : Cond.methodLink RX6 224 yX6_ofOne ∈ wsL_law := wr_21 _ (List.mem_of_getElem? (i := 6) rfl)
theorem W_487 : Cond.instanceMethod yX6_ofOne ∈ wsL_law := wr_21 _ (List.mem_of_getElem? (i := 7) rfl)
theorem W_488 : Cond.selects RX6 yX6_ofOne yX6_ofOne ∈ wsL_law := wr_21 _ (List.mem_of_getElem? (i := 8) rfl)
theorem W_489 : Cond.code yX6_ofOne cX6_ofOne 3 (some .int) ∈ wsL_law := wr_21 _ (List.mem_of_getElem? (i := 9) rfl)
theorem W_490 : Cond.methodLink RL 50 yX5_city ∈ wsL_law := wr_21 _ (List.mem_of_getElem? (i := 10) rfl)
theorem W_491 : Cond.instanceMethod yX5_city ∈ wsL_law := wr_21 _ (List.mem_of_getElem? (i := 11) rfl)
theorem W_492 : Cond.selects RX5 yX5_city yX5_city ∈ wsL_law := wr_21 _ (List.mem_of_getElem? (i := 12) rfl)
theorem W_493 : Cond.code yX5_city cX5_city 3 (some .int) ∈ wsL_law := wr_21 _ (List.mem_of_getElem? (i := 13) rfl)
theorem W_494 : Cond.fieldLink RX5 127 "LastTrain$Course" "cut" "I" ∈ wsL_law := wr_21 _ (List.mem_of_getElem? (i := 14) rfl)
theorem W_495 : Cond.methodLink RX5 124 yX4_missed ∈ wsL_law := wr_21 _ (List.mem_of_getElem? (i := 15) rfl)
theorem W_496 : Cond.methodLink RL 53 yX6_city ∈ wsL_law := wr_21 _ (List.mem_of_getElem? (i := 16) rfl)
theorem W_497 : Cond.instanceMethod yX6_city ∈ wsL_law := wr_21 _ (List.mem_of_getElem? (i := 17) rfl)
theorem W_498 : Cond.selects RX6 yX6_city yX6_city ∈ wsL_law := wr_21 _ (List.mem_of_getElem? (i := 18) rfl)
theorem W_499 : Cond.code yX6_city cX6_city 4 (some .int) ∈ wsL_law := wr_21 _ (List.mem_of_getElem? (i := 19) rfl)
theorem W_500 : Cond.methodLink RL 54 yX5_taken ∈ wsL_law := wr_21 _ (List.mem_of_getElem? (i := 20) rfl)
theorem W_501 : Cond.instanceMethod yX5_taken ∈ wsL_law := wr_21 _ (List.mem_of_getElem? (i := 21) rfl)
theorem W_502 : Cond.selects RX5 yX5_taken yX5_taken ∈ wsL_law := wr_21 _ (List.mem_of_getElem? (i := 22) rfl)
theorem W_503 : Cond.code yX5_taken cX5_taken 3 (some .int) ∈ wsL_law := wr_21 _ (List.mem_of_getElem? (i := 23) rfl)
theorem W_504 : Cond.fieldLink RX5 130 "LastTrain$Course" "takenAct" "I" ∈ wsL_law := wr_22 _ (List.mem_of_getElem? (i := 0) rfl)
theorem W_505 : Cond.fieldLink RX5 133 "LastTrain$Course" "takenOne" "I" ∈ wsL_law := wr_22 _ (List.mem_of_getElem? (i := 1) rfl)
theorem W_506 : Cond.methodLink RL 57 yX6_taken ∈ wsL_law := wr_22 _ (List.mem_of_getElem? (i := 2) rfl)
theorem W_507 : Cond.instanceMethod yX6_taken ∈ wsL_law := wr_22 _ (List.mem_of_getElem? (i := 3) rfl)
theorem W_508 : Cond.selects RX6 yX6_taken yX6_taken ∈ wsL_law := wr_22 _ (List.mem_of_getElem? (i := 4) rfl)
theorem W_509 : Cond.code yX6_taken cX6_taken 3 (some .int) ∈ wsL_law := wr_22 _ (List.mem_of_getElem? (i := 5) rfl)
theorem W_510 : Cond.methodLink RL 58 yX5_done ∈ wsL_law := wr_22 _ (List.mem_of_getElem? (i := 6) rfl)
theorem W_511 : Cond.instanceMethod yX5_done ∈ wsL_law := wr_22 _ (List.mem_of_getElem? (i := 7) rfl)
theorem W_512 : Cond.selects RX5 yX5_done yX5_done ∈ wsL_law := wr_22 _ (List.mem_of_getElem? (i := 8) rfl)
theorem W_513 : Cond.code yX5_done cX5_done 2 (some .int) ∈ wsL_law := wr_22 _ (List.mem_of_getElem? (i := 9) rfl)
theorem W_514 : Cond.methodLink RX5 136 yX4_copyFrom ∈ wsL_law := wr_22 _ (List.mem_of_getElem? (i := 10) rfl)
theorem W_515 : Cond.methodLink RL 61 yX6_done ∈ wsL_law := wr_22 _ (List.mem_of_getElem? (i := 11) rfl)
theorem W_516 : Cond.instanceMethod yX6_done ∈ wsL_law := wr_22 _ (List.mem_of_getElem? (i := 12) rfl)
theorem W_517 : Cond.selects RX6 yX6_done yX6_done ∈ wsL_law := wr_22 _ (List.mem_of_getElem? (i := 13) rfl)
theorem W_518 : Cond.code yX6_done cX6_done 2 (some .int) ∈ wsL_law := wr_22 _ (List.mem_of_getElem? (i := 14) rfl)
theorem W_519 : Cond.methodLink RL 62 yX5_stays ∈ wsL_law := wr_22 _ (List.mem_of_getElem? (i := 15) rfl)
theorem W_520 : Cond.instanceMethod yX5_stays ∈ wsL_law := wr_22 _ (List.mem_of_getElem? (i := 16) rfl)
theorem W_521 : Cond.selects RX5 yX5_stays yX5_stays ∈ wsL_law := wr_22 _ (List.mem_of_getElem? (i := 17) rfl)
theorem W_522 : Cond.code yX5_stays cX5_stays 2 (some .int) ∈ wsL_law := wr_22 _ (List.mem_of_getElem? (i := 18) rfl)
theorem W_523 : Cond.methodLink RX5 140 yX3_lookAt ∈ wsL_law := wr_22 _ (List.mem_of_getElem? (i := 19) rfl)
theorem W_524 : Cond.instanceMethod yX3_lookAt ∈ wsL_law := wr_22 _ (List.mem_of_getElem? (i := 20) rfl)
theorem W_525 : Cond.selects RX3 yX3_lookAt yX3_lookAt ∈ wsL_law := wr_22 _ (List.mem_of_getElem? (i := 21) rfl)
theorem W_526 : Cond.code yX3_lookAt cX3_lookAt 3 none ∈ wsL_law := wr_22 _ (List.mem_of_getElem? (i := 22) rfl)
theorem W_527 : Cond.fieldLink RX3 25 "LastTrain$Town" "here" "I" ∈ wsL_law := wr_22 _ (List.mem_of_getElem? (i := 23) rfl)
theorem W_528 : Cond.methodLink RX3 28 yX4_missingIt ∈ wsL_law := wr_23 _ (List.mem_of_getElem? (i := 0) rfl)
theorem W_529 : Cond.methodLink RX3 32 yX4_tiesNeeded ∈ wsL_law := wr_23 _ (List.mem_of_getElem? (i := 1) rfl)
theorem W_530 : Cond.methodLink RX3 35 yX4_tiedTo ∈ wsL_law := wr_23 _ (List.mem_of_getElem? (i := 2) rfl)
theorem W_531 : Cond.instanceMethod yX4_tiedTo ∈ wsL_law := wr_23 _ (List.mem_of_getElem? (i := 3) rfl)
theorem W_532 : Cond.selects RX4 yX4_tiedTo yX4_tiedTo ∈ wsL_law := wr_23 _ (List.mem_of_getElem? (i := 4) rfl)
theorem W_533 : Cond.code yX4_tiedTo cX4_tiedTo 5 (some .int) ∈ wsL_law := wr_23 _ (List.mem_of_getElem? (i := 5) rfl)
theorem W_534 : Cond.methodLink RX5 143 yX3_remaining ∈ wsL_law := wr_23 _ (List.mem_of_getElem? (i := 6) rfl)
theorem W_535 : Cond.instanceMethod yX3_remaining ∈ wsL_law := wr_23 _ (List.mem_of_getElem? (i := 7) rfl)
theorem W_536 : Cond.selects RX3 yX3_remaining yX3_remaining ∈ wsL_law := wr_23 _ (List.mem_of_getElem? (i := 8) rfl)
theorem W_537 : Cond.code yX3_remaining cX3_remaining 5 (some .int) ∈ wsL_law := wr_23 _ (List.mem_of_getElem? (i := 9) rfl)
theorem W_538 : Cond.methodLink RX3 48 yX3_afterNight ∈ wsL_law := wr_23 _ (List.mem_of_getElem? (i := 10) rfl)
theorem W_539 : Cond.instanceMethod yX3_afterNight ∈ wsL_law := wr_23 _ (List.mem_of_getElem? (i := 11) rfl)
theorem W_540 : Cond.selects RX3 yX3_afterNight yX3_afterNight ∈ wsL_law := wr_23 _ (List.mem_of_getElem? (i := 12) rfl)
theorem W_541 : Cond.code yX3_afterNight cX3_afterNight 6 (some .int) ∈ wsL_law := wr_23 _ (List.mem_of_getElem? (i := 13) rfl)
theorem W_542 : Cond.methodLink RX3 43 yJ6_bitCount_0f7a4 ∈ wsL_law := wr_23 _ (List.mem_of_getElem? (i := 14) rfl)
theorem W_543 : Cond.methodLink RX5 146 yX3_nightsOfLeaving ∈ wsL_law := wr_23 _ (List.mem_of_getElem? (i := 15) rfl)
theorem W_544 : Cond.instanceMethod yX3_nightsOfLeaving ∈ wsL_law := wr_23 _ (List.mem_of_getElem? (i := 16) rfl)
theorem W_545 : Cond.selects RX3 yX3_nightsOfLeaving yX3_nightsOfLeaving ∈ wsL_law := wr_23 _ (List.mem_of_getElem? (i := 17) rfl)
theorem W_546 : Cond.code yX3_nightsOfLeaving cX3_nightsOfLeaving 5 (some .int) ∈ wsL_law := wr_23 _ (List.mem_of_getElem? (i := 18) rfl)
theorem W_547 : Cond.methodLink RL 65 yX6_stays ∈ wsL_law := wr_23 _ (List.mem_of_getElem? (i := 19) rfl)
theorem W_548 : Cond.instanceMethod yX6_stays ∈ wsL_law := wr_23 _ (List.mem_of_getElem? (i := 20) rfl)
theorem W_549 : Cond.selects RX6 yX6_stays yX6_stays ∈ wsL_law := wr_23 _ (List.mem_of_getElem? (i := 21) rfl)
theorem W_550 : Cond.code yX6_stays cX6_stays 3 (some .int) ∈ wsL_law := wr_23 _ (List.mem_of_getElem? (i := 22) rfl)
theorem W_551 : Cond.fieldLink RX6 227 "LastTrainModel" "nights" "I" ∈ wsL_law := wr_23 _ (List.mem_of_getElem? (i := 23) rfl)
theorem W_552 : Cond.methodLink RX6 230 yX6_staysBy ∈ wsL_law := wr_24 _ (List.mem_of_getElem? (i := 0) rfl)
theorem W_553 : Cond.instanceMethod yX6_staysBy ∈ wsL_law := wr_24 _ (List.mem_of_getElem? (i := 1) rfl)
theorem W_554 : Cond.selects RX6 yX6_staysBy yX6_staysBy ∈ wsL_law := wr_24 _ (List.mem_of_getElem? (i := 2) rfl)
theorem W_555 : Cond.code yX6_staysBy cX6_staysBy 4 (some .int) ∈ wsL_law := wr_24 _ (List.mem_of_getElem? (i := 3) rfl)
theorem W_556 : Cond.methodLink RL 66 yX5_keep ∈ wsL_law := wr_24 _ (List.mem_of_getElem? (i := 4) rfl)
theorem W_557 : Cond.instanceMethod yX5_keep ∈ wsL_law := wr_24 _ (List.mem_of_getElem? (i := 5) rfl)
theorem W_558 : Cond.selects RX5 yX5_keep yX5_keep ∈ wsL_law := wr_24 _ (List.mem_of_getElem? (i := 6) rfl)
theorem W_559 : Cond.code yX5_keep cX5_keep 4 (some .int) ∈ wsL_law := wr_24 _ (List.mem_of_getElem? (i := 7) rfl)
theorem W_560 : Cond.methodLink RX5 149 yX4_isHere ∈ wsL_law := wr_24 _ (List.mem_of_getElem? (i := 8) rfl)
theorem W_561 : Cond.methodLink RX5 152 yX3_fewestToKeep ∈ wsL_law := wr_24 _ (List.mem_of_getElem? (i := 9) rfl)
theorem W_562 : Cond.instanceMethod yX3_fewestToKeep ∈ wsL_law := wr_24 _ (List.mem_of_getElem? (i := 10) rfl)
theorem W_563 : Cond.selects RX3 yX3_fewestToKeep yX3_fewestToKeep ∈ wsL_law := wr_24 _ (List.mem_of_getElem? (i := 11) rfl)
theorem W_564 : Cond.code yX3_fewestToKeep cX3_fewestToKeep 6 (some .int) ∈ wsL_law := wr_24 _ (List.mem_of_getElem? (i := 12) rfl)
theorem W_565 : Cond.methodLink RX3 51 yX3_remaining ∈ wsL_law := wr_24 _ (List.mem_of_getElem? (i := 13) rfl)
theorem W_566 : Cond.methodLink RL 69 yX6_keep ∈ wsL_law := wr_24 _ (List.mem_of_getElem? (i := 14) rfl)
theorem W_567 : Cond.instanceMethod yX6_keep ∈ wsL_law := wr_24 _ (List.mem_of_getElem? (i := 15) rfl)
theorem W_568 : Cond.selects RX6 yX6_keep yX6_keep ∈ wsL_law := wr_24 _ (List.mem_of_getElem? (i := 16) rfl)
theorem W_569 : Cond.code yX6_keep cX6_keep 7 (some .int) ∈ wsL_law := wr_24 _ (List.mem_of_getElem? (i := 17) rfl)
theorem W_570 : Cond.methodLink RX6 233 yX6_isHere ∈ wsL_law := wr_24 _ (List.mem_of_getElem? (i := 18) rfl)
theorem W_571 : Cond.instanceMethod yX6_isHere ∈ wsL_law := wr_24 _ (List.mem_of_getElem? (i := 19) rfl)
theorem W_572 : Cond.selects RX6 yX6_isHere yX6_isHere ∈ wsL_law := wr_24 _ (List.mem_of_getElem? (i := 20) rfl)
theorem W_573 : Cond.code yX6_isHere cX6_isHere 2 (some .boolean) ∈ wsL_law := wr_24 _ (List.mem_of_getElem? (i := 21) rfl)
theorem W_574 : Cond.methodLink RL 70 yX5_loose ∈ wsL_law := wr_24 _ (List.mem_of_getElem? (i := 22) rfl)
theorem W_575 : Cond.instanceMethod yX5_loose ∈ wsL_law := wr_24 _ (List.mem_of_getElem? (i := 23) rfl)
theorem W_576 : Cond.selects RX5 yX5_loose yX5_loose ∈ wsL_law := wr_25 _ (List.mem_of_getElem? (i := 0) rfl)
theorem W_577 : Cond.code yX5_loose cX5_loose 5 (some .int) ∈ wsL_law := wr_25 _ (List.mem_of_getElem? (i := 1) rfl)
theorem W_578 : Cond.methodLink RX5 161 Lib.Math.max.name ∈ wsL_law := wr_25 _ (List.mem_of_getElem? (i := 2) rfl)
theorem W_579 : Cond.methodLink RX5 155 yX4_missingIt ∈ wsL_law := wr_25 _ (List.mem_of_getElem? (i := 3) rfl)
theorem W_580 : Cond.methodLink RX5 158 yX4_tiesNeeded ∈ wsL_law := wr_25 _ (List.mem_of_getElem? (i := 4) rfl)
theorem W_581 : Cond.methodLink RX5 166 yX5_leastOf ∈ wsL_law := wr_25 _ (List.mem_of_getElem? (i := 5) rfl)
theorem W_582 : Cond.static yX5_leastOf ∈ wsL_law := wr_25 _ (List.mem_of_getElem? (i := 6) rfl)
theorem W_583 : Cond.code yX5_leastOf cX5_leastOf 5 (some .int) ∈ wsL_law := wr_25 _ (List.mem_of_getElem? (i := 7) rfl)
theorem W_584 : Cond.methodLink RL 73 yX6_loose ∈ wsL_law := wr_25 _ (List.mem_of_getElem? (i := 8) rfl)
theorem W_585 : Cond.instanceMethod yX6_loose ∈ wsL_law := wr_25 _ (List.mem_of_getElem? (i := 9) rfl)
theorem W_586 : Cond.selects RX6 yX6_loose yX6_loose ∈ wsL_law := wr_25 _ (List.mem_of_getElem? (i := 10) rfl)
theorem W_587 : Cond.code yX6_loose cX6_loose 8 (some .int) ∈ wsL_law := wr_25 _ (List.mem_of_getElem? (i := 11) rfl)
theorem W_588 : Cond.methodLink RL 74 yX5_seats ∈ wsL_law := wr_25 _ (List.mem_of_getElem? (i := 12) rfl)
theorem W_589 : Cond.instanceMethod yX5_seats ∈ wsL_law := wr_25 _ (List.mem_of_getElem? (i := 13) rfl)
theorem W_590 : Cond.selects RX5 yX5_seats yX5_seats ∈ wsL_law := wr_25 _ (List.mem_of_getElem? (i := 14) rfl)
theorem W_591 : Cond.code yX5_seats cX5_seats 4 (some .int) ∈ wsL_law := wr_25 _ (List.mem_of_getElem? (i := 15) rfl)
theorem W_592 : Cond.methodLink RX5 169 yX3_mostStrangers ∈ wsL_law := wr_25 _ (List.mem_of_getElem? (i := 16) rfl)
theorem W_593 : Cond.instanceMethod yX3_mostStrangers ∈ wsL_law := wr_25 _ (List.mem_of_getElem? (i := 17) rfl)
theorem W_594 : Cond.selects RX3 yX3_mostStrangers yX3_mostStrangers ∈ wsL_law := wr_25 _ (List.mem_of_getElem? (i := 18) rfl)
theorem W_595 : Cond.code yX3_mostStrangers cX3_mostStrangers 8 (some .int) ∈ wsL_law := wr_25 _ (List.mem_of_getElem? (i := 19) rfl)
theorem W_596 : Cond.methodLink RX3 54 yX3_lookAt ∈ wsL_law := wr_25 _ (List.mem_of_getElem? (i := 20) rfl)
theorem W_597 : Cond.methodLink RX3 58 yX4_missed ∈ wsL_law := wr_25 _ (List.mem_of_getElem? (i := 21) rfl)
theorem W_598 : Cond.methodLink RX3 62 yX3_areStrangers ∈ wsL_law := wr_25 _ (List.mem_of_getElem? (i := 22) rfl)
theorem W_599 : Cond.instanceMethod yX3_areStrangers ∈ wsL_law := wr_25 _ (List.mem_of_getElem? (i := 23) rfl)
theorem W_600 : Cond.selects RX3 yX3_areStrangers yX3_areStrangers ∈ wsL_law := wr_26 _ (List.mem_of_getElem? (i := 0) rfl)
theorem W_601 : Cond.code yX3_areStrangers cX3_areStrangers 3 (some .boolean) ∈ wsL_law := wr_26 _ (List.mem_of_getElem? (i := 1) rfl)
theorem W_602 : Cond.methodLink RL 77 yX6_seats ∈ wsL_law := wr_26 _ (List.mem_of_getElem? (i := 2) rfl)
theorem W_603 : Cond.instanceMethod yX6_seats ∈ wsL_law := wr_26 _ (List.mem_of_getElem? (i := 3) rfl)
theorem W_604 : Cond.selects RX6 yX6_seats yX6_seats ∈ wsL_law := wr_26 _ (List.mem_of_getElem? (i := 4) rfl)
theorem W_605 : Cond.code yX6_seats cX6_seats 7 (some .int) ∈ wsL_law := wr_26 _ (List.mem_of_getElem? (i := 5) rfl)
theorem W_606 : Cond.methodLink RX6 236 yX6_areApart ∈ wsL_law := wr_26 _ (List.mem_of_getElem? (i := 6) rfl)
theorem W_607 : Cond.instanceMethod yX6_areApart ∈ wsL_law := wr_26 _ (List.mem_of_getElem? (i := 7) rfl)
theorem W_608 : Cond.selects RX6 yX6_areApart yX6_areApart ∈ wsL_law := wr_26 _ (List.mem_of_getElem? (i := 8) rfl)
theorem W_609 : Cond.code yX6_areApart cX6_areApart 4 (some .boolean) ∈ wsL_law := wr_26 _ (List.mem_of_getElem? (i := 9) rfl)
theorem W_610 : Cond.methodLink RL 78 yX5_calls ∈ wsL_law := wr_26 _ (List.mem_of_getElem? (i := 10) rfl)
theorem W_611 : Cond.instanceMethod yX5_calls ∈ wsL_law := wr_26 _ (List.mem_of_getElem? (i := 11) rfl)
theorem W_612 : Cond.selects RX5 yX5_calls yX5_calls ∈ wsL_law := wr_26 _ (List.mem_of_getElem? (i := 12) rfl)
theorem W_613 : Cond.code yX5_calls cX5_calls 10 (some .long) ∈ wsL_law := wr_26 _ (List.mem_of_getElem? (i := 13) rfl)
theorem W_614 : Cond.constant RX5 173 (999999) ∈ wsL_law := wr_26 _ (List.mem_of_getElem? (i := 14) rfl)
theorem W_615 : Cond.constantLong RX5 174 (-1000000000000000002) ∈ wsL_law := wr_26 _ (List.mem_of_getElem? (i := 15) rfl)
theorem W_616 : Cond.constantLong RX5 176 (10) ∈ wsL_law := wr_26 _ (List.mem_of_getElem? (i := 16) rfl)
theorem W_617 : Cond.constantLong RX5 184 (100000) ∈ wsL_law := wr_26 _ (List.mem_of_getElem? (i := 17) rfl)
theorem W_618 : Cond.methodLink RX5 178 yX5_likeliest ∈ wsL_law := wr_26 _ (List.mem_of_getElem? (i := 18) rfl)
theorem W_619 : Cond.static yX5_likeliest ∈ wsL_law := wr_26 _ (List.mem_of_getElem? (i := 19) rfl)
theorem W_620 : Cond.code yX5_likeliest cX5_likeliest 5 (some .int) ∈ wsL_law := wr_26 _ (List.mem_of_getElem? (i := 20) rfl)
theorem W_621 : Cond.methodLink RX5 181 yX5_digit ∈ wsL_law := wr_26 _ (List.mem_of_getElem? (i := 21) rfl)
theorem W_622 : Cond.static yX5_digit ∈ wsL_law := wr_26 _ (List.mem_of_getElem? (i := 22) rfl)
theorem W_623 : Cond.code yX5_digit cX5_digit 2 (some .int) ∈ wsL_law := wr_26 _ (List.mem_of_getElem? (i := 23) rfl)
theorem W_624 : Cond.fieldLink RX5 250 "LastTrain" "PLACES" "[I" ∈ wsL_law := wr_27 _ (List.mem_of_getElem? (i := 0) rfl)
theorem W_625 : Cond.methodLink RX5 186 yX5_partOf ∈ wsL_law := wr_27 _ (List.mem_of_getElem? (i := 1) rfl)
theorem W_626 : Cond.static yX5_partOf ∈ wsL_law := wr_27 _ (List.mem_of_getElem? (i := 2) rfl)
theorem W_627 : Cond.code yX5_partOf cX5_partOf 7 (some .long) ∈ wsL_law := wr_27 _ (List.mem_of_getElem? (i := 3) rfl)
theorem W_628 : Cond.methodLink RX5 257 yX5_commonDivisor ∈ wsL_law := wr_27 _ (List.mem_of_getElem? (i := 4) rfl)
theorem W_629 : Cond.static yX5_commonDivisor ∈ wsL_law := wr_27 _ (List.mem_of_getElem? (i := 5) rfl)
theorem W_630 : Cond.code yX5_commonDivisor cX5_commonDivisor 11 (some .long) ∈ wsL_law := wr_27 _ (List.mem_of_getElem? (i := 6) rfl)
theorem W_631 : Cond.methodLink RL 82 yX6_calls ∈ wsL_law := wr_27 _ (List.mem_of_getElem? (i := 7) rfl)
theorem W_632 : Cond.instanceMethod yX6_calls ∈ wsL_law := wr_27 _ (List.mem_of_getElem? (i := 8) rfl)
theorem W_633 : Cond.selects RX6 yX6_calls yX6_calls ∈ wsL_law := wr_27 _ (List.mem_of_getElem? (i := 9) rfl)
theorem W_634 : Cond.code yX6_calls cX6_calls 10 (some .long) ∈ wsL_law := wr_27 _ (List.mem_of_getElem? (i := 10) rfl)
theorem W_635 : Cond.constantLong RX6 239 (999999) ∈ wsL_law := wr_27 _ (List.mem_of_getElem? (i := 11) rfl)
theorem W_636 : Cond.constantLong RX6 241 (-1000000000000000002) ∈ wsL_law := wr_27 _ (List.mem_of_getElem? (i := 12) rfl)
theorem W_637 : Cond.constantLong RX6 246 (10) ∈ wsL_law := wr_27 _ (List.mem_of_getElem? (i := 13) rfl)
theorem W_638 : Cond.methodLink RX6 243 yX6_readOdds ∈ wsL_law := wr_27 _ (List.mem_of_getElem? (i := 14) rfl)
theorem W_639 : Cond.instanceMethod yX6_readOdds ∈ wsL_law := wr_27 _ (List.mem_of_getElem? (i := 15) rfl)
theorem W_640 : Cond.selects RX6 yX6_readOdds yX6_readOdds ∈ wsL_law := wr_27 _ (List.mem_of_getElem? (i := 16) rfl)
theorem W_641 : Cond.code yX6_readOdds cX6_readOdds 7 none ∈ wsL_law := wr_27 _ (List.mem_of_getElem? (i := 17) rfl)
theorem W_642 : Cond.methodLink RX6 248 yX6_lowest ∈ wsL_law := wr_27 _ (List.mem_of_getElem? (i := 18) rfl)
theorem W_643 : Cond.static yX6_lowest ∈ wsL_law := wr_27 _ (List.mem_of_getElem? (i := 19) rfl)
theorem W_644 : Cond.code yX6_lowest cX6_lowest 11 (some .long) ∈ wsL_law := wr_27 _ (List.mem_of_getElem? (i := 20) rfl)
theorem W_645 : Cond.methodLink RL 83 yX5_order ∈ wsL_law := wr_27 _ (List.mem_of_getElem? (i := 21) rfl)
theorem W_646 : Cond.instanceMethod yX5_order ∈ wsL_law := wr_27 _ (List.mem_of_getElem? (i := 22) rfl)
theorem W_647 : Cond.selects RX5 yX5_order yX5_order ∈ wsL_law := wr_27 _ (List.mem_of_getElem? (i := 23) rfl)
theorem W_648 : Cond.code yX5_order cX5_order 6 (some .int) ∈ wsL_law := wr_28 _ (List.mem_of_getElem? (i := 0) rfl)
theorem W_649 : Cond.methodLink RL 86 yX6_order ∈ wsL_law := wr_28 _ (List.mem_of_getElem? (i := 1) rfl)
theorem W_650 : Cond.instanceMethod yX6_order ∈ wsL_law := wr_28 _ (List.mem_of_getElem? (i := 2) rfl)
theorem W_651 : Cond.selects RX6 yX6_order yX6_order ∈ wsL_law := wr_28 _ (List.mem_of_getElem? (i := 3) rfl)
theorem W_652 : Cond.code yX6_order cX6_order 4 (some .int) ∈ wsL_law := wr_28 _ (List.mem_of_getElem? (i := 4) rfl)
theorem W_653 : Cond.methodLink RL 87 yX5_rung ∈ wsL_law := wr_28 _ (List.mem_of_getElem? (i := 5) rfl)
theorem W_654 : Cond.instanceMethod yX5_rung ∈ wsL_law := wr_28 _ (List.mem_of_getElem? (i := 6) rfl)
theorem W_655 : Cond.selects RX5 yX5_rung yX5_rung ∈ wsL_law := wr_28 _ (List.mem_of_getElem? (i := 7) rfl)
theorem W_656 : Cond.code yX5_rung cX5_rung 3 (some .int) ∈ wsL_law := wr_28 _ (List.mem_of_getElem? (i := 8) rfl)
theorem W_657 : Cond.fieldLink RX5 194 "LastTrain$Town" "sights" "I" ∈ wsL_law := wr_28 _ (List.mem_of_getElem? (i := 9) rfl)
theorem W_658 : Cond.methodLink RX5 190 yX4_addSight ∈ wsL_law := wr_28 _ (List.mem_of_getElem? (i := 10) rfl)
theorem W_659 : Cond.instanceMethod yX4_addSight ∈ wsL_law := wr_28 _ (List.mem_of_getElem? (i := 11) rfl)
theorem W_660 : Cond.selects RX4 yX4_addSight yX4_addSight ∈ wsL_law := wr_28 _ (List.mem_of_getElem? (i := 12) rfl)
theorem W_661 : Cond.code yX4_addSight cX4_addSight 3 (some .boolean) ∈ wsL_law := wr_28 _ (List.mem_of_getElem? (i := 13) rfl)
theorem W_662 : Cond.methodLink RL 91 yX6_rung ∈ wsL_law := wr_28 _ (List.mem_of_getElem? (i := 14) rfl)
theorem W_663 : Cond.instanceMethod yX6_rung ∈ wsL_law := wr_28 _ (List.mem_of_getElem? (i := 15) rfl)
theorem W_664 : Cond.selects RX6 yX6_rung yX6_rung ∈ wsL_law := wr_28 _ (List.mem_of_getElem? (i := 16) rfl)
theorem W_665 : Cond.code yX6_rung cX6_rung 3 (some .int) ∈ wsL_law := wr_28 _ (List.mem_of_getElem? (i := 17) rfl)
theorem W_666 : Cond.fieldLink RX6 252 "LastTrainModel" "sights" "I" ∈ wsL_law := wr_28 _ (List.mem_of_getElem? (i := 18) rfl)
theorem W_667 : Cond.methodLink RL 92 yX5_forget ∈ wsL_law := wr_28 _ (List.mem_of_getElem? (i := 19) rfl)
theorem W_668 : Cond.instanceMethod yX5_forget ∈ wsL_law := wr_28 _ (List.mem_of_getElem? (i := 20) rfl)
theorem W_669 : Cond.selects RX5 yX5_forget yX5_forget ∈ wsL_law := wr_28 _ (List.mem_of_getElem? (i := 21) rfl)
theorem W_670 : Cond.code yX5_forget cX5_forget 2 (some .int) ∈ wsL_law := wr_28 _ (List.mem_of_getElem? (i := 22) rfl)
theorem W_671 : Cond.methodLink RX5 197 yX4_dropSights ∈ wsL_law := wr_28 _ (List.mem_of_getElem? (i := 23) rfl)
theorem W_672 : Cond.instanceMethod yX4_dropSights ∈ wsL_law := wr_29 _ (List.mem_of_getElem? (i := 0) rfl)
theorem W_673 : Cond.selects RX4 yX4_dropSights yX4_dropSights ∈ wsL_law := wr_29 _ (List.mem_of_getElem? (i := 1) rfl)
theorem W_674 : Cond.code yX4_dropSights cX4_dropSights 1 none ∈ wsL_law := wr_29 _ (List.mem_of_getElem? (i := 2) rfl)
theorem W_675 : Cond.methodLink RL 95 yX6_forget ∈ wsL_law := wr_29 _ (List.mem_of_getElem? (i := 3) rfl)
theorem W_676 : Cond.instanceMethod yX6_forget ∈ wsL_law := wr_29 _ (List.mem_of_getElem? (i := 4) rfl)
theorem W_677 : Cond.selects RX6 yX6_forget yX6_forget ∈ wsL_law := wr_29 _ (List.mem_of_getElem? (i := 5) rfl)
theorem W_678 : Cond.code yX6_forget cX6_forget 2 (some .int) ∈ wsL_law := wr_29 _ (List.mem_of_getElem? (i := 6) rfl)
theorem W_679 : Cond.methodLink RL 96 yX5_who ∈ wsL_law := wr_29 _ (List.mem_of_getElem? (i := 7) rfl)
theorem W_680 : Cond.instanceMethod yX5_who ∈ wsL_law := wr_29 _ (List.mem_of_getElem? (i := 8) rfl)
theorem W_681 : Cond.selects RX5 yX5_who yX5_who ∈ wsL_law := wr_29 _ (List.mem_of_getElem? (i := 9) rfl)
theorem W_682 : Cond.code yX5_who cX5_who 1 (some .int) ∈ wsL_law := wr_29 _ (List.mem_of_getElem? (i := 10) rfl)
theorem W_683 : Cond.methodLink RX5 200 yX4_fitting ∈ wsL_law := wr_29 _ (List.mem_of_getElem? (i := 11) rfl)
theorem W_684 : Cond.instanceMethod yX4_fitting ∈ wsL_law := wr_29 _ (List.mem_of_getElem? (i := 12) rfl)
theorem W_685 : Cond.selects RX4 yX4_fitting yX4_fitting ∈ wsL_law := wr_29 _ (List.mem_of_getElem? (i := 13) rfl)
theorem W_686 : Cond.code yX4_fitting cX4_fitting 4 (some .int) ∈ wsL_law := wr_29 _ (List.mem_of_getElem? (i := 14) rfl)
theorem W_687 : Cond.methodLink RX4 107 yX4_tiedTo ∈ wsL_law := wr_29 _ (List.mem_of_getElem? (i := 15) rfl)
theorem W_688 : Cond.methodLink RL 99 yX6_who ∈ wsL_law := wr_29 _ (List.mem_of_getElem? (i := 16) rfl)
theorem W_689 : Cond.instanceMethod yX6_who ∈ wsL_law := wr_29 _ (List.mem_of_getElem? (i := 17) rfl)
theorem W_690 : Cond.selects RX6 yX6_who yX6_who ∈ wsL_law := wr_29 _ (List.mem_of_getElem? (i := 18) rfl)
theorem W_691 : Cond.code yX6_who cX6_who 4 (some .int) ∈ wsL_law := wr_29 _ (List.mem_of_getElem? (i := 19) rfl)
theorem W_692 : Cond.methodLink RX6 255 yX6_yesBy ∈ wsL_law := wr_29 _ (List.mem_of_getElem? (i := 20) rfl)
theorem W_693 : Cond.instanceMethod yX6_yesBy ∈ wsL_law := wr_29 _ (List.mem_of_getElem? (i := 21) rfl)
theorem W_694 : Cond.selects RX6 yX6_yesBy yX6_yesBy ∈ wsL_law := wr_29 _ (List.mem_of_getElem? (i := 22) rfl)
theorem W_695 : Cond.code yX6_yesBy cX6_yesBy 4 (some .int) ∈ wsL_law := wr_29 _ (List.mem_of_getElem? (i := 23) rfl)
theorem W_696 : Cond.methodLink RL 100 yX5_ring ∈ wsL_law := wr_30 _ (List.mem_of_getElem? (i := 0) rfl)
theorem W_697 : Cond.instanceMethod yX5_ring ∈ wsL_law := wr_30 _ (List.mem_of_getElem? (i := 1) rfl)
theorem W_698 : Cond.selects RX5 yX5_ring yX5_ring ∈ wsL_law := wr_30 _ (List.mem_of_getElem? (i := 2) rfl)
theorem W_699 : Cond.code yX5_ring cX5_ring 5 (some .int) ∈ wsL_law := wr_30 _ (List.mem_of_getElem? (i := 3) rfl)
theorem W_700 : Cond.methodLink RX5 203 yX4_leftAtMost ∈ wsL_law := wr_30 _ (List.mem_of_getElem? (i := 4) rfl)
theorem W_701 : Cond.instanceMethod yX4_leftAtMost ∈ wsL_law := wr_30 _ (List.mem_of_getElem? (i := 5) rfl)
theorem W_702 : Cond.selects RX4 yX4_leftAtMost yX4_leftAtMost ∈ wsL_law := wr_30 _ (List.mem_of_getElem? (i := 6) rfl)
theorem W_703 : Cond.code yX4_leftAtMost cX4_leftAtMost 4 (some .int) ∈ wsL_law := wr_30 _ (List.mem_of_getElem? (i := 7) rfl)
theorem W_704 : Cond.methodLink RL 103 yX6_ring ∈ wsL_law := wr_30 _ (List.mem_of_getElem? (i := 8) rfl)
theorem W_705 : Cond.instanceMethod yX6_ring ∈ wsL_law := wr_30 _ (List.mem_of_getElem? (i := 9) rfl)
theorem W_706 : Cond.selects RX6 yX6_ring yX6_ring ∈ wsL_law := wr_30 _ (List.mem_of_getElem? (i := 10) rfl)
theorem W_707 : Cond.code yX6_ring cX6_ring 8 (some .int) ∈ wsL_law := wr_30 _ (List.mem_of_getElem? (i := 11) rfl)
theorem W_708 : Cond.methodLink RX6 258 yX6_who ∈ wsL_law := wr_30 _ (List.mem_of_getElem? (i := 12) rfl)
theorem W_709 : Cond.methodLink RX6 260 yX6_more ∈ wsL_law := wr_30 _ (List.mem_of_getElem? (i := 13) rfl)
theorem W_710 : Cond.static yX6_more ∈ wsL_law := wr_30 _ (List.mem_of_getElem? (i := 14) rfl)
theorem W_711 : Cond.code yX6_more cX6_more 2 (some .int) ∈ wsL_law := wr_30 _ (List.mem_of_getElem? (i := 15) rfl)
theorem W_712 : Cond.methodLink RL 104 yX5_answers ∈ wsL_law := wr_30 _ (List.mem_of_getElem? (i := 16) rfl)
theorem W_713 : Cond.instanceMethod yX5_answers ∈ wsL_law := wr_30 _ (List.mem_of_getElem? (i := 17) rfl)
theorem W_714 : Cond.selects RX5 yX5_answers yX5_answers ∈ wsL_law := wr_30 _ (List.mem_of_getElem? (i := 18) rfl)
theorem W_715 : Cond.code yX5_answers cX5_answers 5 (some .long) ∈ wsL_law := wr_30 _ (List.mem_of_getElem? (i := 19) rfl)
theorem W_716 : Cond.fieldLink RX5 210 "LastTrain$Answers" "enoughSaidIt" "J" ∈ wsL_law := wr_30 _ (List.mem_of_getElem? (i := 20) rfl)
theorem W_717 : Cond.fieldLink RX5 214 "LastTrain$Answers" "callsMade" "J" ∈ wsL_law := wr_30 _ (List.mem_of_getElem? (i := 21) rfl)
theorem W_718 : Cond.fieldLink RX5 217 "LastTrain$Answers" "lower" "J" ∈ wsL_law := wr_30 _ (List.mem_of_getElem? (i := 22) rfl)
theorem W_719 : Cond.methodLink RX5 206 yX0_ringAll ∈ wsL_law := wr_30 _ (List.mem_of_getElem? (i := 23) rfl)
theorem W_720 : Cond.instanceMethod yX0_ringAll ∈ wsL_law := wr_31 _ (List.mem_of_getElem? (i := 0) rfl)
theorem W_721 : Cond.selects RX0 yX0_ringAll yX0_ringAll ∈ wsL_law := wr_31 _ (List.mem_of_getElem? (i := 1) rfl)
theorem W_722 : Cond.code yX0_ringAll cX0_ringAll 5 none ∈ wsL_law := wr_31 _ (List.mem_of_getElem? (i := 2) rfl)
theorem W_723 : Cond.constantLong RX0 32 (10) ∈ wsL_law := wr_31 _ (List.mem_of_getElem? (i := 3) rfl)
theorem W_724 : Cond.methodLink RX0 25 yX0_startChances ∈ wsL_law := wr_31 _ (List.mem_of_getElem? (i := 4) rfl)
theorem W_725 : Cond.instanceMethod yX0_startChances ∈ wsL_law := wr_31 _ (List.mem_of_getElem? (i := 5) rfl)
theorem W_726 : Cond.selects RX0 yX0_startChances yX0_startChances ∈ wsL_law := wr_31 _ (List.mem_of_getElem? (i := 6) rfl)
theorem W_727 : Cond.code yX0_startChances cX0_startChances 2 none ∈ wsL_law := wr_31 _ (List.mem_of_getElem? (i := 7) rfl)
theorem W_728 : Cond.methodLink RX0 28 yX0_tooFew ∈ wsL_law := wr_31 _ (List.mem_of_getElem? (i := 8) rfl)
theorem W_729 : Cond.instanceMethod yX0_tooFew ∈ wsL_law := wr_31 _ (List.mem_of_getElem? (i := 9) rfl)
theorem W_730 : Cond.selects RX0 yX0_tooFew yX0_tooFew ∈ wsL_law := wr_31 _ (List.mem_of_getElem? (i := 10) rfl)
theorem W_731 : Cond.code yX0_tooFew cX0_tooFew 5 (some .long) ∈ wsL_law := wr_31 _ (List.mem_of_getElem? (i := 11) rfl)
theorem W_732 : Cond.methodLink RX0 34 yX0_ringOne ∈ wsL_law := wr_31 _ (List.mem_of_getElem? (i := 12) rfl)
theorem W_733 : Cond.instanceMethod yX0_ringOne ∈ wsL_law := wr_31 _ (List.mem_of_getElem? (i := 13) rfl)
theorem W_734 : Cond.selects RX0 yX0_ringOne yX0_ringOne ∈ wsL_law := wr_31 _ (List.mem_of_getElem? (i := 14) rfl)
theorem W_735 : Cond.code yX0_ringOne cX0_ringOne 7 none ∈ wsL_law := wr_31 _ (List.mem_of_getElem? (i := 15) rfl)
theorem W_736 : Cond.methodLink RL 108 yX6_answers ∈ wsL_law := wr_31 _ (List.mem_of_getElem? (i := 16) rfl)
theorem W_737 : Cond.instanceMethod yX6_answers ∈ wsL_law := wr_31 _ (List.mem_of_getElem? (i := 17) rfl)
theorem W_738 : Cond.selects RX6 yX6_answers yX6_answers ∈ wsL_law := wr_31 _ (List.mem_of_getElem? (i := 18) rfl)
theorem W_739 : Cond.code yX6_answers cX6_answers 12 (some .long) ∈ wsL_law := wr_31 _ (List.mem_of_getElem? (i := 19) rfl)
theorem W_740 : Cond.methodLink RL 109 yX5_number ∈ wsL_law := wr_31 _ (List.mem_of_getElem? (i := 20) rfl)
theorem W_741 : Cond.instanceMethod yX5_number ∈ wsL_law := wr_31 _ (List.mem_of_getElem? (i := 21) rfl)
theorem W_742 : Cond.selects RX5 yX5_number yX5_number ∈ wsL_law := wr_31 _ (List.mem_of_getElem? (i := 22) rfl)
theorem W_743 : Cond.code yX5_number cX5_number 4 (some .int) ∈ wsL_law := wr_31 _ (List.mem_of_getElem? (i := 23) rfl)
theorem W_744 : Cond.methodLink RL 112 yX6_number ∈ wsL_law := wr_32 _ (List.mem_of_getElem? (i := 0) rfl)
theorem W_745 : Cond.instanceMethod yX6_number ∈ wsL_law := wr_32 _ (List.mem_of_getElem? (i := 1) rfl)
theorem W_746 : Cond.selects RX6 yX6_number yX6_number ∈ wsL_law := wr_32 _ (List.mem_of_getElem? (i := 2) rfl)
theorem W_747 : Cond.code yX6_number cX6_number 4 (some .int) ∈ wsL_law := wr_32 _ (List.mem_of_getElem? (i := 3) rfl)
theorem W_748 : Cond.constantLong RX6 263 (999) ∈ wsL_law := wr_32 _ (List.mem_of_getElem? (i := 4) rfl)
theorem W_749 : Cond.methodLink RX6 265 yX6_bestTake ∈ wsL_law := wr_32 _ (List.mem_of_getElem? (i := 5) rfl)
theorem W_750 : Cond.instanceMethod yX6_bestTake ∈ wsL_law := wr_32 _ (List.mem_of_getElem? (i := 6) rfl)
theorem W_751 : Cond.selects RX6 yX6_bestTake yX6_bestTake ∈ wsL_law := wr_32 _ (List.mem_of_getElem? (i := 7) rfl)
theorem W_752 : Cond.code yX6_bestTake cX6_bestTake 5 (some .int) ∈ wsL_law := wr_32 _ (List.mem_of_getElem? (i := 8) rfl)
theorem W_753 : Cond.methodLink RL 113 yX5_year ∈ wsL_law := wr_32 _ (List.mem_of_getElem? (i := 9) rfl)
theorem W_754 : Cond.instanceMethod yX5_year ∈ wsL_law := wr_32 _ (List.mem_of_getElem? (i := 10) rfl)
theorem W_755 : Cond.selects RX5 yX5_year yX5_year ∈ wsL_law := wr_32 _ (List.mem_of_getElem? (i := 11) rfl)
theorem W_756 : Cond.code yX5_year cX5_year 6 (some .int) ∈ wsL_law := wr_32 _ (List.mem_of_getElem? (i := 12) rfl)
theorem W_757 : Cond.constant RX5 223 (65537) ∈ wsL_law := wr_32 _ (List.mem_of_getElem? (i := 13) rfl)
theorem W_758 : Cond.methodLink RX5 220 yX1_startFrom ∈ wsL_law := wr_32 _ (List.mem_of_getElem? (i := 14) rfl)
theorem W_759 : Cond.methodLink RX5 224 yX5_drawnDeed ∈ wsL_law := wr_32 _ (List.mem_of_getElem? (i := 15) rfl)
theorem W_760 : Cond.static yX5_drawnDeed ∈ wsL_law := wr_32 _ (List.mem_of_getElem? (i := 16) rfl)
theorem W_761 : Cond.code yX5_drawnDeed cX5_drawnDeed 1 (some .int) ∈ wsL_law := wr_32 _ (List.mem_of_getElem? (i := 17) rfl)
theorem W_762 : Cond.fieldLink RX5 254 "LastTrain" "DRAWN_DEEDS" "[I" ∈ wsL_law := wr_32 _ (List.mem_of_getElem? (i := 18) rfl)
theorem W_763 : Cond.methodLink RX5 227 yX1_attempt ∈ wsL_law := wr_32 _ (List.mem_of_getElem? (i := 19) rfl)
theorem W_764 : Cond.methodLink RX5 231 yX4_strengthOfAll ∈ wsL_law := wr_32 _ (List.mem_of_getElem? (i := 20) rfl)
theorem W_765 : Cond.instanceMethod yX4_strengthOfAll ∈ wsL_law := wr_32 _ (List.mem_of_getElem? (i := 21) rfl)
theorem W_766 : Cond.selects RX4 yX4_strengthOfAll yX4_strengthOfAll ∈ wsL_law := wr_32 _ (List.mem_of_getElem? (i := 22) rfl)
theorem W_767 : Cond.code yX4_strengthOfAll cX4_strengthOfAll 1 (some .int) ∈ wsL_law := wr_32 _ (List.mem_of_getElem? (i := 23) rfl)
theorem W_768 : Cond.methodLink RL 116 yX6_year ∈ wsL_law := wr_33 _ (List.mem_of_getElem? (i := 0) rfl)
theorem W_769 : Cond.instanceMethod yX6_year ∈ wsL_law := wr_33 _ (List.mem_of_getElem? (i := 1) rfl)
theorem W_770 : Cond.selects RX6 yX6_year yX6_year ∈ wsL_law := wr_33 _ (List.mem_of_getElem? (i := 2) rfl)
theorem W_771 : Cond.code yX6_year cX6_year 9 (some .int) ∈ wsL_law := wr_33 _ (List.mem_of_getElem? (i := 3) rfl)
theorem W_772 : Cond.constantLong RX6 268 (9999) ∈ wsL_law := wr_33 _ (List.mem_of_getElem? (i := 4) rfl)
theorem W_773 : Cond.constantLong RX6 270 (99) ∈ wsL_law := wr_33 _ (List.mem_of_getElem? (i := 5) rfl)
theorem W_774 : Cond.constantLong RX6 272 (75) ∈ wsL_law := wr_33 _ (List.mem_of_getElem? (i := 6) rfl)
theorem W_775 : Cond.constantLong RX6 274 (65537) ∈ wsL_law := wr_33 _ (List.mem_of_getElem? (i := 7) rfl)
theorem W_776 : Cond.methodLink RX6 276 yX6_actBy ∈ wsL_law := wr_33 _ (List.mem_of_getElem? (i := 8) rfl)
theorem W_777 : Cond.static yX6_actBy ∈ wsL_law := wr_33 _ (List.mem_of_getElem? (i := 9) rfl)
theorem W_778 : Cond.code yX6_actBy cX6_actBy 1 (some .int) ∈ wsL_law := wr_33 _ (List.mem_of_getElem? (i := 10) rfl)
theorem W_779 : Cond.methodLink RL 117 yX5_image ∈ wsL_law := wr_33 _ (List.mem_of_getElem? (i := 11) rfl)
theorem W_780 : Cond.instanceMethod yX5_image ∈ wsL_law := wr_33 _ (List.mem_of_getElem? (i := 12) rfl)
theorem W_781 : Cond.selects RX5 yX5_image yX5_image ∈ wsL_law := wr_33 _ (List.mem_of_getElem? (i := 13) rfl)
theorem W_782 : Cond.code yX5_image cX5_image 2 (some .int) ∈ wsL_law := wr_33 _ (List.mem_of_getElem? (i := 14) rfl)
theorem W_783 : Cond.methodLink RX5 234 yX5_imageOf ∈ wsL_law := wr_33 _ (List.mem_of_getElem? (i := 15) rfl)
theorem W_784 : Cond.instanceMethod yX5_imageOf ∈ wsL_law := wr_33 _ (List.mem_of_getElem? (i := 16) rfl)
theorem W_785 : Cond.selects RX5 yX5_imageOf yX5_imageOf ∈ wsL_law := wr_33 _ (List.mem_of_getElem? (i := 17) rfl)
theorem W_786 : Cond.code yX5_imageOf cX5_imageOf 2 (some (.object "LastTrain$Town")) ∈ wsL_law := wr_33 _ (List.mem_of_getElem? (i := 18) rfl)
theorem W_787 : Cond.methodLink RL 120 yX6_image ∈ wsL_law := wr_33 _ (List.mem_of_getElem? (i := 19) rfl)
theorem W_788 : Cond.instanceMethod yX6_image ∈ wsL_law := wr_33 _ (List.mem_of_getElem? (i := 20) rfl)
theorem W_789 : Cond.selects RX6 yX6_image yX6_image ∈ wsL_law := wr_33 _ (List.mem_of_getElem? (i := 21) rfl)
theorem W_790 : Cond.code yX6_image cX6_image 2 (some .int) ∈ wsL_law := wr_33 _ (List.mem_of_getElem? (i := 22) rfl)
theorem W_791 : Cond.fieldLink RX6 283 "LastTrainModel" "keptAt" "I" ∈ wsL_law := wr_33 _ (List.mem_of_getElem? (i := 23) rfl)
theorem W_792 : Cond.fieldLink RX6 279 "LastTrainModel" "isWriting" "Z" ∈ wsL_law := wr_34 _ (List.mem_of_getElem? (i := 0) rfl)
theorem W_793 : Cond.methodLink RX6 293 yX6_passAll ∈ wsL_law := wr_34 _ (List.mem_of_getElem? (i := 1) rfl)
theorem W_794 : Cond.instanceMethod yX6_passAll ∈ wsL_law := wr_34 _ (List.mem_of_getElem? (i := 2) rfl)
theorem W_795 : Cond.selects RX6 yX6_passAll yX6_passAll ∈ wsL_law := wr_34 _ (List.mem_of_getElem? (i := 3) rfl)
theorem W_796 : Cond.code yX6_passAll cX6_passAll 1 none ∈ wsL_law := wr_34 _ (List.mem_of_getElem? (i := 4) rfl)
theorem W_797 : Cond.methodLink RX6 286 yX6_pass ∈ wsL_law := wr_34 _ (List.mem_of_getElem? (i := 5) rfl)
theorem W_798 : Cond.instanceMethod yX6_pass ∈ wsL_law := wr_34 _ (List.mem_of_getElem? (i := 6) rfl)
theorem W_799 : Cond.selects RX6 yX6_pass yX6_pass ∈ wsL_law := wr_34 _ (List.mem_of_getElem? (i := 7) rfl)
theorem W_800 : Cond.code yX6_pass cX6_pass 3 (some .int) ∈ wsL_law := wr_34 _ (List.mem_of_getElem? (i := 8) rfl)
theorem W_801 : Cond.methodLink RX6 289 yX6_passRow ∈ wsL_law := wr_34 _ (List.mem_of_getElem? (i := 9) rfl)
theorem W_802 : Cond.instanceMethod yX6_passRow ∈ wsL_law := wr_34 _ (List.mem_of_getElem? (i := 10) rfl)
theorem W_803 : Cond.selects RX6 yX6_passRow yX6_passRow ∈ wsL_law := wr_34 _ (List.mem_of_getElem? (i := 11) rfl)
theorem W_804 : Cond.code yX6_passRow cX6_passRow 4 none ∈ wsL_law := wr_34 _ (List.mem_of_getElem? (i := 12) rfl)
theorem W_805 : Cond.methodLink RL 121 yX5_restore ∈ wsL_law := wr_34 _ (List.mem_of_getElem? (i := 13) rfl)
theorem W_806 : Cond.instanceMethod yX5_restore ∈ wsL_law := wr_34 _ (List.mem_of_getElem? (i := 14) rfl)
theorem W_807 : Cond.selects RX5 yX5_restore yX5_restore ∈ wsL_law := wr_34 _ (List.mem_of_getElem? (i := 15) rfl)
theorem W_808 : Cond.code yX5_restore cX5_restore 2 (some .int) ∈ wsL_law := wr_34 _ (List.mem_of_getElem? (i := 16) rfl)
theorem W_809 : Cond.methodLink RL 124 yX6_restore ∈ wsL_law := wr_34 _ (List.mem_of_getElem? (i := 17) rfl)
theorem W_810 : Cond.instanceMethod yX6_restore ∈ wsL_law := wr_34 _ (List.mem_of_getElem? (i := 18) rfl)
theorem W_811 : Cond.selects RX6 yX6_restore yX6_restore ∈ wsL_law := wr_34 _ (List.mem_of_getElem? (i := 19) rfl)
theorem W_812 : Cond.code yX6_restore cX6_restore 2 (some .int) ∈ wsL_law := wr_34 _ (List.mem_of_getElem? (i := 20) rfl)
theorem W_813 : Cond.methodLink RL 125 yX5_told ∈ wsL_law := wr_34 _ (List.mem_of_getElem? (i := 21) rfl)
theorem W_814 : Cond.instanceMethod yX5_told ∈ wsL_law := wr_34 _ (List.mem_of_getElem? (i := 22) rfl)
theorem W_815 : Cond.selects RX5 yX5_told yX5_told ∈ wsL_law := wr_34 _ (List.mem_of_getElem? (i := 23) rfl)
theorem W_816 : Cond.code yX5_told cX5_told 2 (some .int) ∈ wsL_law := wr_35 _ (List.mem_of_getElem? (i := 0) rfl)
theorem W_817 : Cond.fieldLink RX5 244 "LastTrain$Town" "dogs" "I" ∈ wsL_law := wr_35 _ (List.mem_of_getElem? (i := 1) rfl)
theorem W_818 : Cond.fieldLink RX5 247 "LastTrain$Town" "waiting" "I" ∈ wsL_law := wr_35 _ (List.mem_of_getElem? (i := 2) rfl)
theorem W_819 : Cond.methodLink RX5 241 yX4_kind ∈ wsL_law := wr_35 _ (List.mem_of_getElem? (i := 3) rfl)
theorem W_820 : Cond.methodLink RL 128 yX6_told ∈ wsL_law := wr_35 _ (List.mem_of_getElem? (i := 4) rfl)
theorem W_821 : Cond.instanceMethod yX6_told ∈ wsL_law := wr_35 _ (List.mem_of_getElem? (i := 5) rfl)
theorem W_822 : Cond.selects RX6 yX6_told yX6_told ∈ wsL_law := wr_35 _ (List.mem_of_getElem? (i := 6) rfl)
theorem W_823 : Cond.code yX6_told cX6_told 3 (some .int) ∈ wsL_law := wr_35 _ (List.mem_of_getElem? (i := 7) rfl)
theorem W_824 : Cond.constantLong RX6 296 (100) ∈ wsL_law := wr_35 _ (List.mem_of_getElem? (i := 8) rfl)
theorem W_825 : Cond.constantLong RX6 298 (199) ∈ wsL_law := wr_35 _ (List.mem_of_getElem? (i := 9) rfl)
theorem W_826 : Cond.constantLong RX6 300 (200) ∈ wsL_law := wr_35 _ (List.mem_of_getElem? (i := 10) rfl)
theorem W_827 : Cond.constantLong RX6 302 (299) ∈ wsL_law := wr_35 _ (List.mem_of_getElem? (i := 11) rfl)
theorem W_828 : Cond.constantLong RX6 304 (13) ∈ wsL_law := wr_35 _ (List.mem_of_getElem? (i := 12) rfl)
theorem W_829 : Cond.methodLink RX6 306 yX6_toldOfAll ∈ wsL_law := wr_35 _ (List.mem_of_getElem? (i := 13) rfl)
theorem W_830 : Cond.instanceMethod yX6_toldOfAll ∈ wsL_law := wr_35 _ (List.mem_of_getElem? (i := 14) rfl)
theorem W_831 : Cond.selects RX6 yX6_toldOfAll yX6_toldOfAll ∈ wsL_law := wr_35 _ (List.mem_of_getElem? (i := 15) rfl)
theorem W_832 : Cond.code yX6_toldOfAll cX6_toldOfAll 2 (some .int) ∈ wsL_law := wr_35 _ (List.mem_of_getElem? (i := 16) rfl)
theorem wGood : wsL_law.all goodWord = true := by decide +kernel
theorem wIn {w : Cond} (h : w ∈ wsL_law) : w ∈ wsL_law ∧ ((w.onTables && w.keeps) = true ∨ ∃ ty, w = .arrayClass ty) := ⟨h, good_of_word (List.all_eq_true.mp wGood w h)⟩
abbrev wsM (y : MethodName) (c : ByteArray) (k : Nat) (r : Option FieldType) : List Cond := Cond.code y c k r :: wsL_law
theorem gM {y : MethodName} {c : ByteArray} {k : Nat} {r : Option FieldType} (h5 : Cond.code y c k r ∈ wsL_law) : GoodIn wsL_law (wsM y c k r) := fun w hw => by
  rcases List.mem_cons.mp hw with rfl | h
  · exact wIn h5
  · exact wIn h
theorem gV {own : String} {idx : Nat} {C : String} {y : MethodName} {c : ByteArray} {k : Nat} {r : Option FieldType} (h1 : Cond.methodLink own idx y ∈ wsL_law) (h2 : Cond.instanceMethod y ∈ wsL_law) (h3 : Cond.selects C y y ∈ wsL_law) (h4 : Cond.initialized C ∈ wsL_law) (h5 : Cond.code y c k r ∈ wsL_law) : GoodIn wsL_law (wsV own idx C y (wsM y c k r)) := fun w hw => by
  rcases List.mem_append.mp hw with h | h
  · simp only [List.mem_cons, List.not_mem_nil, or_false] at h
    rcases h with rfl | rfl | rfl | rfl
    · exact wIn h1
    · exact wIn h2
    · exact wIn h3
    · exact wIn h4
  · exact gM h5 w h
theorem gS {own : String} {idx : Nat} {y : MethodName} {c : ByteArray} {k : Nat} {r : Option FieldType} (h1 : Cond.methodLink own idx y ∈ wsL_law) (h2 : Cond.static y ∈ wsL_law) (h4 : Cond.initialized y.cls ∈ wsL_law) (h5 : Cond.code y c k r ∈ wsL_law) : GoodIn wsL_law (va_wsS own idx y (wsM y c k r)) := fun w hw => by
  rcases List.mem_append.mp hw with h | h
  · simp only [List.mem_cons, List.not_mem_nil, or_false] at h
    rcases h with rfl | rfl | rfl
    · exact wIn h1
    · exact wIn h2
    · exact wIn h4
  · exact gM h5 w h
end
section
def b_X4_init_88 (n : Nat) (zr42_64 : (Nat → Int32)) (s_88 : Int32 × (Nat → Int32)) (k_88 : Int32 × (Nat → Int32) → Option TI) : Option TI := (if 4 ≤ s_88.1 then some (mk4 1023 0 0 0 0 (fun _ => 0) zr42_64 s_88.2 (fun _ => 0)) else (gd (inB s_88.1 4) ((k_88 ((s_88.1 + 1), (upd s_88.2 (Int32.toNatClampNeg s_88.1) 1))))))
def b_X4_init_64 (n : Nat) (s_64 : Int32 × (Nat → Int32)) (k_64 : Int32 × (Nat → Int32) → Option TI) : Option TI := (if 100 ≤ s_64.1 then (loopF (b_X4_init_88 n s_64.2 ) n (0, (fun _ => 0))) else (gd (inB s_64.1 100) ((k_64 ((s_64.1 + 1), (upd s_64.2 (Int32.toNatClampNeg s_64.1) 2))))))
noncomputable def m_X4_init (n : Nat) : Option TI := (loopF (b_X4_init_64 n ) n (0, (fun _ => 0)))
set_option maxHeartbeats 4000000 in
set_option maxRecDepth 100000 in
theorem c_X4_init (l : Launch) (D : va_G) (cI cJ cZ : ClassId) (n : Nat) (b0 : Nat) (sz : Nat) (out : TI) (hm : m_X4_init n = some out) : Met l yX4_init (wsM yX4_init cX4_init 2 none) { frames := 1, cells := 4, slots := 212, locals := 12 } (xPre D (kT cI cJ cZ) ([(b0, .inr (4, [.int 0, .int 0, .int 0, .int 0, .int 0, .null, .null, .null, .null]))] : va_W) sz [.ref b0]) (xQvI D (kT cI cJ cZ) ([(b0, .inr (4, [.int 0, .int 0, .int 0, .int 0, .int 0, .null, .null, .null, .null]))] : va_W) (fun q : Nat → Nat => (w4 cI q out)) sz (fun q => q 0 = b0)) 4 212 (va_A ([(b0, .inr (4, [.int 0, .int 0, .int 0, .int 0, .int 0, .null, .null, .null, .null]))] : va_W) sz) := by
  refine Met.ofW (cc := cX4_init) (maxL := 2) (ret := none) (by decide) rfl ?_
  intro p e s m args below meth c s₁ B hml hv
  obtain ⟨hv, hsz, hP, hK, hD0, hN⟩ := hv
  have hx := B.exec; have hb := B.bytes; have hr := B.returns
  have hts := atoms_spec (ws := (wsM yX4_init cX4_init 2 none)) B.pre
  have hown : s.vm.findClass RX4 = some m.cls := findClass_of_methodNamed B.named
  have hlocks := B.notSynchronized
  have hin : meth.name = "<init>" := (name_of_methodNamed B.named B.method).1
  subst hsz
  have hD := hD0.self (sz := s.heap.size)
  obtain ⟨A, hAe⟩ : ∃ A, A = va_A ([(b0, .inr (4, [.int 0, .int 0, .int 0, .int 0, .int 0, .null, .null, .null, .null]))] : va_W) s.heap.size := ⟨_, rfl⟩
  rw [← hAe] at hD
  have hA : ∀ q : Nat, s.heap.size ≤ q → A q := fun q h => by rw [hAe]; exact Or.inr h
  have htl : ∀ w ∈ wsL_law, w.before args s = true := fun w h => hts w (List.mem_cons_of_mem _ h)
  refine xHead (R' := { frames := 1, cells := 4, slots := 212, locals := 12 }) rfl (fun Q H hQ hH => ?_)
  have hP : va_P D vwCl ([(b0, .inr (4, [.int 0, .int 0, .int 0, .int 0, .int 0, .null, .null, .null, .null]))] : va_W) H := by rw [hH]; exact hP
  have hS : va_S A s.heap H [] := by rw [hH]; exact va_S.rf
  refine xStart hv (Nat.le_of_ble_eq_true rfl) (lv := [(0, .ref b0)]) rfl (fun ls hl => ?_)
  have h := hm
  unfold m_X4_init at h
  refine lv_aload_n hx hb (dAt zX4_init_0 0 rfl) rfl (lv_at hl 0 rfl) ?_
  refine W.objInit hx hb hown (htl _ W_38) (htl _ W_10) (htl _ W_11) rfl (by rw [hml]; exact hl.1) rfl (dAt zX4_init_0 1 rfl) (Nat.le_of_ble_eq_true rfl) (Nat.le_of_ble_eq_true rfl) ?_
  refine W.eq (g2 := F0 m 4 ls []) rfl ?_
  refine lv_aload_n hx hb (dAt zX4_init_0 2 rfl) rfl (lv_at hl 0 rfl) ?_
  refine lv_sipush (v := 1023) hx hb (dAt zX4_init_0 3 rfl) (by decide) ?_
  refine va_put (D := D) (ci := 4) (v := .int 1023) (ty := .int) (C := RX4) (T := TX4) (N := 9) hx hb htl inlX4 tyX4 tyX4_ok nmX4 hown hK hP hD hS 0 rfl rfl 0 (by decide) (htl _ W_39) (fun _ h9 => h9) rfl (by decide +kernel) rfl rfl (Nat.le_of_ble_eq_true rfl) (dAt zX4_init_0 4 rfl) (fun H locs hP hD hS => ?_)
  have hP : va_P D vwCl (([(b0, .inr (4, [.int 1023, .int 0, .int 0, .int 0, .int 0, .null, .null, .null, .null]))] : va_W)) H := hP
  have hD : va_D A (([(b0, .inr (4, [.int 1023, .int 0, .int 0, .int 0, .int 0, .null, .null, .null, .null]))] : va_W)) := hD
  refine lv_aload_n hx hb (dAt zX4_init_0 5 rfl) rfl (lv_at hl 0 rfl) ?_
  refine lv_iconst (v := 0) hx hb (dAt zX4_init_0 6 rfl) (by decide) ?_
  refine va_put (D := D) (ci := 4) (v := .int 0) (ty := .int) (C := RX4) (T := TX4) (N := 9) hx hb htl inlX4 tyX4 tyX4_ok nmX4 hown hK hP hD hS 0 rfl rfl 1 (by decide) (htl _ W_40) (fun _ h9 => h9) rfl (by decide +kernel) rfl rfl (Nat.le_of_ble_eq_true rfl) (dAt zX4_init_0 7 rfl) (fun H locs hP hD hS => ?_)
  have hP : va_P D vwCl (([(b0, .inr (4, [.int 1023, .int 0, .int 0, .int 0, .int 0, .null, .null, .null, .null]))] : va_W)) H := hP
  have hD : va_D A (([(b0, .inr (4, [.int 1023, .int 0, .int 0, .int 0, .int 0, .null, .null, .null, .null]))] : va_W)) := hD
  refine lv_aload_n hx hb (dAt zX4_init_0 8 rfl) rfl (lv_at hl 0 rfl) ?_
  refine lv_iconst (v := 0) hx hb (dAt zX4_init_0 9 rfl) (by decide) ?_
  refine va_put (D := D) (ci := 4) (v := .int 0) (ty := .int) (C := RX4) (T := TX4) (N := 9) hx hb htl inlX4 tyX4 tyX4_ok nmX4 hown hK hP hD hS 0 rfl rfl 2 (by decide) (htl _ W_41) (fun _ h9 => h9) rfl (by decide +kernel) rfl rfl (Nat.le_of_ble_eq_true rfl) (dAt zX4_init_0 10 rfl) (fun H locs hP hD hS => ?_)
  have hP : va_P D vwCl (([(b0, .inr (4, [.int 1023, .int 0, .int 0, .int 0, .int 0, .null, .null, .null, .null]))] : va_W)) H := hP
  have hD : va_D A (([(b0, .inr (4, [.int 1023, .int 0, .int 0, .int 0, .int 0, .null, .null, .null, .null]))] : va_W)) := hD
  refine lv_aload_n hx hb (dAt zX4_init_0 11 rfl) rfl (lv_at hl 0 rfl) ?_
  refine lv_iconst (v := 0) hx hb (dAt zX4_init_0 12 rfl) (by decide) ?_
  refine va_put (D := D) (ci := 4) (v := .int 0) (ty := .int) (C := RX4) (T := TX4) (N := 9) hx hb htl inlX4 tyX4 tyX4_ok nmX4 hown hK hP hD hS 0 rfl rfl 3 (by decide) (htl _ W_42) (fun _ h9 => h9) rfl (by decide +kernel) rfl rfl (Nat.le_of_ble_eq_true rfl) (dAt zX4_init_0 13 rfl) (fun H locs hP hD hS => ?_)
  have hP : va_P D vwCl (([(b0, .inr (4, [.int 1023, .int 0, .int 0, .int 0, .int 0, .null, .null, .null, .null]))] : va_W)) H := hP
  have hD : va_D A (([(b0, .inr (4, [.int 1023, .int 0, .int 0, .int 0, .int 0, .null, .null, .null, .null]))] : va_W)) := hD
  refine lv_aload_n hx hb (dAt zX4_init_0 14 rfl) rfl (lv_at hl 0 rfl) ?_
  refine lv_iconst (v := 0) hx hb (dAt zX4_init_0 15 rfl) (by decide) ?_
  refine va_put (D := D) (ci := 4) (v := .int 0) (ty := .int) (C := RX4) (T := TX4) (N := 9) hx hb htl inlX4 tyX4 tyX4_ok nmX4 hown hK hP hD hS 0 rfl rfl 4 (by decide) (htl _ W_43) (fun _ h9 => h9) rfl (by decide +kernel) rfl rfl (Nat.le_of_ble_eq_true rfl) (dAt zX4_init_0 16 rfl) (fun H locs hP hD hS => ?_)
  have hP : va_P D vwCl (([(b0, .inr (4, [.int 1023, .int 0, .int 0, .int 0, .int 0, .null, .null, .null, .null]))] : va_W)) H := hP
  have hD : va_D A (([(b0, .inr (4, [.int 1023, .int 0, .int 0, .int 0, .int 0, .null, .null, .null, .null]))] : va_W)) := hD
  refine lv_aload_n hx hb (dAt zX4_init_0 17 rfl) rfl (lv_at hl 0 rfl) ?_
  refine lv_bipush (v := 100) hx hb (dAt zX4_init_0 18 rfl) (by decide) ?_
  refine xNewI (n := 100) (N' := 100) (hbig := by decide) hx hb (htl _ W_44) hK hP hD hS hA (by decide) (by decide) (Nat.le_of_ble_eq_true rfl) (Nat.le_of_ble_eq_true rfl) (dAt zX4_init_0 19 rfl) (fun r34 H hP hD hS => ?_)
  have hP : va_P D vwCl (([(b0, .inr (4, [.int 1023, .int 0, .int 0, .int 0, .int 0, .null, .null, .null, .null]))] : va_W) ++ (wA cI r34 100 (fun _ => 0))) H := hP
  have hD : va_D A (([(b0, .inr (4, [.int 1023, .int 0, .int 0, .int 0, .int 0, .null, .null, .null, .null]))] : va_W) ++ (wA cI r34 100 (fun _ => 0))) := hD
  refine W.widen (k := 1) (n := 100) (by omega) (by omega) ?_
  refine va_putF (D := D) (ci := 4) (v := .ref r34) (ty := (.array .int)) (C := RX4) (T := TX4) (N := 9) hx hb htl inlX4 tyX4 tyX4_ok nmX4 hown hK hP hD hS 0 rfl rfl 5 (by decide) (htl _ W_45) (fun _ h9 => h9) rfl hin rfl (by decide +kernel) rfl rfl (Nat.le_of_ble_eq_true rfl) (dAt zX4_init_0 20 rfl) (fun H locs hP hD hS => ?_)
  have hP : va_P D vwCl (([(b0, .inr (4, [.int 1023, .int 0, .int 0, .int 0, .int 0, .ref r34, .null, .null, .null]))] : va_W) ++ (wA cI r34 100 (fun _ => 0))) H := hP
  have hD : va_D A (([(b0, .inr (4, [.int 1023, .int 0, .int 0, .int 0, .int 0, .ref r34, .null, .null, .null]))] : va_W) ++ (wA cI r34 100 (fun _ => 0))) := hD
  refine lv_aload_n hx hb (dAt zX4_init_0 21 rfl) rfl (lv_at hl 0 rfl) ?_
  refine lv_bipush (v := 100) hx hb (dAt zX4_init_0 22 rfl) (by decide) ?_
  refine xNewI (n := 100) (N' := 100) (hbig := by decide) hx hb (htl _ W_44) hK hP hD hS hA (by decide) (by decide) (Nat.le_of_ble_eq_true rfl) (Nat.le_of_ble_eq_true rfl) (dAt zX4_init_0 23 rfl) (fun r42 H hP hD hS => ?_)
  have hP : va_P D vwCl (([(b0, .inr (4, [.int 1023, .int 0, .int 0, .int 0, .int 0, .ref r34, .null, .null, .null]))] : va_W) ++ (wA cI r34 100 (fun _ => 0) ++ (wA cI r42 100 (fun _ => 0)))) H := hP
  have hD : va_D A (([(b0, .inr (4, [.int 1023, .int 0, .int 0, .int 0, .int 0, .ref r34, .null, .null, .null]))] : va_W) ++ (wA cI r34 100 (fun _ => 0) ++ (wA cI r42 100 (fun _ => 0)))) := hD
  refine W.widen (k := 2) (n := 200) (by omega) (by omega) ?_
  refine va_putF (D := D) (ci := 4) (v := .ref r42) (ty := (.array .int)) (C := RX4) (T := TX4) (N := 9) hx hb htl inlX4 tyX4 tyX4_ok nmX4 hown hK hP hD hS 0 rfl rfl 6 (by decide) (htl _ W_46) (fun _ h9 => h9) rfl hin rfl (by decide +kernel) rfl rfl (Nat.le_of_ble_eq_true rfl) (dAt zX4_init_0 24 rfl) (fun H locs hP hD hS => ?_)
  have hP : va_P D vwCl (([(b0, .inr (4, [.int 1023, .int 0, .int 0, .int 0, .int 0, .ref r34, .ref r42, .null, .null]))] : va_W) ++ (wA cI r34 100 (fun _ => 0) ++ (wA cI r42 100 (fun _ => 0)))) H := hP
  have hD : va_D A (([(b0, .inr (4, [.int 1023, .int 0, .int 0, .int 0, .int 0, .ref r34, .ref r42, .null, .null]))] : va_W) ++ (wA cI r34 100 (fun _ => 0) ++ (wA cI r42 100 (fun _ => 0)))) := hD
  refine lv_aload_n hx hb (dAt zX4_init_0 25 rfl) rfl (lv_at hl 0 rfl) ?_
  refine lv_iconst (v := 4) hx hb (dAt zX4_init_0 26 rfl) (by decide) ?_
  refine xNewI (n := 4) (N' := 4) (hbig := by decide) hx hb (htl _ W_44) hK hP hD hS hA (by decide) (by decide) (Nat.le_of_ble_eq_true rfl) (Nat.le_of_ble_eq_true rfl) (dAt zX4_init_0 27 rfl) (fun r49 H hP hD hS => ?_)
  have hP : va_P D vwCl (([(b0, .inr (4, [.int 1023, .int 0, .int 0, .int 0, .int 0, .ref r34, .ref r42, .null, .null]))] : va_W) ++ (wA cI r34 100 (fun _ => 0) ++ (wA cI r42 100 (fun _ => 0) ++ (wA cI r49 4 (fun _ => 0))))) H := hP
  have hD : va_D A (([(b0, .inr (4, [.int 1023, .int 0, .int 0, .int 0, .int 0, .ref r34, .ref r42, .null, .null]))] : va_W) ++ (wA cI r34 100 (fun _ => 0) ++ (wA cI r42 100 (fun _ => 0) ++ (wA cI r49 4 (fun _ => 0))))) := hD
  refine W.widen (k := 3) (n := 204) (by omega) (by omega) ?_
  refine va_putF (D := D) (ci := 4) (v := .ref r49) (ty := (.array .int)) (C := RX4) (T := TX4) (N := 9) hx hb htl inlX4 tyX4 tyX4_ok nmX4 hown hK hP hD hS 0 rfl rfl 7 (by decide) (htl _ W_47) (fun _ h9 => h9) rfl hin rfl (by decide +kernel) rfl rfl (Nat.le_of_ble_eq_true rfl) (dAt zX4_init_0 28 rfl) (fun H locs hP hD hS => ?_)
  have hP : va_P D vwCl (([(b0, .inr (4, [.int 1023, .int 0, .int 0, .int 0, .int 0, .ref r34, .ref r42, .ref r49, .null]))] : va_W) ++ (wA cI r34 100 (fun _ => 0) ++ (wA cI r42 100 (fun _ => 0) ++ (wA cI r49 4 (fun _ => 0))))) H := hP
  have hD : va_D A (([(b0, .inr (4, [.int 1023, .int 0, .int 0, .int 0, .int 0, .ref r34, .ref r42, .ref r49, .null]))] : va_W) ++ (wA cI r34 100 (fun _ => 0) ++ (wA cI r42 100 (fun _ => 0) ++ (wA cI r49 4 (fun _ => 0))))) := hD
  refine lv_aload_n hx hb (dAt zX4_init_0 29 rfl) rfl (lv_at hl 0 rfl) ?_
  refine lv_bipush (v := 8) hx hb (dAt zX4_init_0 30 rfl) (by decide) ?_
  refine xNewI (n := 8) (N' := 8) (hbig := by decide) hx hb (htl _ W_44) hK hP hD hS hA (by decide) (by decide) (Nat.le_of_ble_eq_true rfl) (Nat.le_of_ble_eq_true rfl) (dAt zX4_init_0 31 rfl) (fun r57 H hP hD hS => ?_)
  have hP : va_P D vwCl (([(b0, .inr (4, [.int 1023, .int 0, .int 0, .int 0, .int 0, .ref r34, .ref r42, .ref r49, .null]))] : va_W) ++ (wA cI r34 100 (fun _ => 0) ++ (wA cI r42 100 (fun _ => 0) ++ (wA cI r49 4 (fun _ => 0) ++ (wA cI r57 8 (fun _ => 0)))))) H := hP
  have hD : va_D A (([(b0, .inr (4, [.int 1023, .int 0, .int 0, .int 0, .int 0, .ref r34, .ref r42, .ref r49, .null]))] : va_W) ++ (wA cI r34 100 (fun _ => 0) ++ (wA cI r42 100 (fun _ => 0) ++ (wA cI r49 4 (fun _ => 0) ++ (wA cI r57 8 (fun _ => 0)))))) := hD
  refine W.widen (k := 4) (n := 212) (by omega) (by omega) ?_
  refine va_putF (D := D) (ci := 4) (v := .ref r57) (ty := (.array .int)) (C := RX4) (T := TX4) (N := 9) hx hb htl inlX4 tyX4 tyX4_ok nmX4 hown hK hP hD hS 0 rfl rfl 8 (by decide) (htl _ W_48) (fun _ h9 => h9) rfl hin rfl (by decide +kernel) rfl rfl (Nat.le_of_ble_eq_true rfl) (dAt zX4_init_0 32 rfl) (fun H locs hP hD hS => ?_)
  have hP : va_P D vwCl (([(b0, .inr (4, [.int 1023, .int 0, .int 0, .int 0, .int 0, .ref r34, .ref r42, .ref r49, .ref r57]))] : va_W) ++ (wA cI r34 100 (fun _ => 0) ++ (wA cI r42 100 (fun _ => 0) ++ (wA cI r49 4 (fun _ => 0) ++ (wA cI r57 8 (fun _ => 0)))))) H := hP
  have hD : va_D A (([(b0, .inr (4, [.int 1023, .int 0, .int 0, .int 0, .int 0, .ref r34, .ref r42, .ref r49, .ref r57]))] : va_W) ++ (wA cI r34 100 (fun _ => 0) ++ (wA cI r42 100 (fun _ => 0) ++ (wA cI r49 4 (fun _ => 0) ++ (wA cI r57 8 (fun _ => 0)))))) := hD
  refine lv_iconst (v := 0) hx hb (dAt zX4_init_0 33 rfl) (by decide) ?_
  refine lv_istore_n (lv' := [(1, .int 0), (0, .ref b0)]) hx hb (dAt zX4_init_0 34 rfl) rfl hl (by decide) rfl (fun ls hl => ?_)
  have L_64 : ∀ (j_64 : Nat) (v1_64 : Int32) (zr42_64 : (Nat → Int32)) (H : Heap) (locs : List Loc) (ls : Array Slot), loopF (b_X4_init_64 n) j_64 (v1_64, zr42_64) = some out → va_P D vwCl (([(b0, .inr (4, [.int 1023, .int 0, .int 0, .int 0, .int 0, .ref r34, .ref r42, .ref r49, .ref r57]))] : va_W) ++ (wA cI r34 100 (fun _ => 0) ++ (wA cI r42 100 zr42_64 ++ (wA cI r49 4 (fun _ => 0) ++ (wA cI r57 8 (fun _ => 0)))))) H → va_D A (([(b0, .inr (4, [.int 1023, .int 0, .int 0, .int 0, .int 0, .ref r34, .ref r42, .ref r49, .ref r57]))] : va_W) ++ (wA cI r34 100 (fun _ => 0) ++ (wA cI r42 100 zr42_64 ++ (wA cI r49 4 (fun _ => 0) ++ (wA cI r57 8 (fun _ => 0)))))) → va_S A s.heap H locs → lv_has ls 2 [(0, .ref b0), (1, .int v1_64)] → W p l e { frames := 1, cells := 4, slots := 212, locals := 12 } s m args below meth c H locs 4 212 Q (F0 m 64 ls []) := by
    intro j_64
    induction j_64 with
    | zero => intro v1_64 zr42_64 H locs ls h hP hD hS hl; exact loopF_0 h
    | succ j_64 ih_64 =>
      intro v1_64 zr42_64 H locs ls h hP hD hS hl
      have h := loopF_s h
      unfold b_X4_init_64 at h
      refine lv_iload_n hx hb (dAt zX4_init_0 35 rfl) rfl (lv_at hl 1 rfl) ?_
      refine lv_aload_n hx hb (dAt zX4_init_0 36 rfl) rfl (lv_at hl 0 rfl) ?_
      refine va_get (D := D) (ci := 4) (v := .ref r42) (C := RX4) (T := TX4) (N := 9) hx hb htl inlX4 hown hK hP 0 rfl rfl 6 (by decide) (htl _ W_46) (fun _ h9 => h9) rfl (dAt zX4_init_0 37 rfl) ?_
      refine va_alen (ty := .int) (v := 100) hx hb hK hP 2 0 rfl rfl rfl (dAt zX4_init_0 38 rfl) ?_
      refine lv_icmp_ge (tgt := 86) hx hb (dAt zX4_init_0 39 rfl) (by decide) (fun c_70 => ?_) (fun c_70 => ?_)
      · have h := q_pos c_70 h
        refine lv_iconst (v := 0) hx hb (dAt zX4_init_0 47 rfl) (by decide) ?_
        refine lv_istore_n (lv' := [(1, .int 0), (0, .ref b0)]) hx hb (dAt zX4_init_0 48 rfl) rfl hl (by decide) rfl (fun ls hl => ?_)
        have L_88 : ∀ (j_88 : Nat) (v1_88 : Int32) (zr49_88 : (Nat → Int32)) (H : Heap) (locs : List Loc) (ls : Array Slot), loopF (b_X4_init_88 n zr42_64) j_88 (v1_88, zr49_88) = some out → va_P D vwCl (([(b0, .inr (4, [.int 1023, .int 0, .int 0, .int 0, .int 0, .ref r34, .ref r42, .ref r49, .ref r57]))] : va_W) ++ (wA cI r34 100 (fun _ => 0) ++ (wA cI r42 100 zr42_64 ++ (wA cI r49 4 zr49_88 ++ (wA cI r57 8 (fun _ => 0)))))) H → va_D A (([(b0, .inr (4, [.int 1023, .int 0, .int 0, .int 0, .int 0, .ref r34, .ref r42, .ref r49, .ref r57]))] : va_W) ++ (wA cI r34 100 (fun _ => 0) ++ (wA cI r42 100 zr42_64 ++ (wA cI r49 4 zr49_88 ++ (wA cI r57 8 (fun _ => 0)))))) → va_S A s.heap H locs → lv_has ls 2 [(0, .ref b0), (1, .int v1_88)] → W p l e { frames := 1, cells := 4, slots := 212, locals := 12 } s m args below meth c H locs 4 212 Q (F0 m 88 ls []) := by
          intro j_88
          induction j_88 with
          | zero => intro v1_88 zr49_88 H locs ls h hP hD hS hl; exact loopF_0 h
          | succ j_88 ih_88 =>
            intro v1_88 zr49_88 H locs ls h hP hD hS hl
            have h := loopF_s h
            unfold b_X4_init_88 at h
            refine lv_iload_n hx hb (dAt zX4_init_0 49 rfl) rfl (lv_at hl 1 rfl) ?_
            refine lv_aload_n hx hb (dAt zX4_init_0 50 rfl) rfl (lv_at hl 0 rfl) ?_
            refine va_get (D := D) (ci := 4) (v := .ref r49) (C := RX4) (T := TX4) (N := 9) hx hb htl inlX4 hown hK hP 0 rfl rfl 7 (by decide) (htl _ W_47) (fun _ h9 => h9) rfl (dAt zX4_init_0 51 rfl) ?_
            refine va_alen (ty := .int) (v := 4) hx hb hK hP 3 0 rfl rfl rfl (dAt zX4_init_0 52 rfl) ?_
            refine lv_icmp_ge (tgt := 110) hx hb (dAt zX4_init_0 53 rfl) (by decide) (fun c_94 => ?_) (fun c_94 => ?_)
            · have h := q_pos c_94 h
              obtain rfl := q_some h
              have hP : va_P D vwCl (w4 cI (fun k => match Nat.beq k 6 with | true => r34 | false => match Nat.beq k 7 with | true => r42 | false => match Nat.beq k 8 with | true => r49 | false => match Nat.beq k 9 with | true => r57 | false => b0) (mk4 1023 0 0 0 0 (fun _ => 0) zr42_64 zr49_88 (fun _ => 0))) H := hP
              have hD : va_D A (w4 cI (fun k => match Nat.beq k 6 with | true => r34 | false => match Nat.beq k 7 with | true => r42 | false => match Nat.beq k 8 with | true => r49 | false => match Nat.beq k 9 with | true => r57 | false => b0) (mk4 1023 0 0 0 0 (fun _ => 0) zr42_64 zr49_88 (fun _ => 0))) := hD
              exact xRvI (fun k => match Nat.beq k 6 with | true => r34 | false => match Nat.beq k 7 with | true => r42 | false => match Nat.beq k 8 with | true => r49 | false => match Nat.beq k 9 with | true => r57 | false => b0) hx hb hr hlocks hQ hAe (by simp) hP hD hK hS (dAt zX4_init_0 61 rfl)
            · have h := q_neg c_94 h
              refine lv_aload_n hx hb (dAt zX4_init_0 54 rfl) rfl (lv_at hl 0 rfl) ?_
              refine va_get (D := D) (ci := 4) (v := .ref r49) (C := RX4) (T := TX4) (N := 9) hx hb htl inlX4 hown hK hP 0 rfl rfl 7 (by decide) (htl _ W_47) (fun _ h9 => h9) rfl (dAt zX4_init_0 55 rfl) ?_
              refine lv_iload_n hx hb (dAt zX4_init_0 56 rfl) rfl (lv_at hl 1 rfl) ?_
              refine lv_iconst (v := 1) hx hb (dAt zX4_init_0 57 rfl) (by decide) ?_
              obtain ⟨hi_103, h⟩ := q_in h
              refine va_iast hx hb hK hP hD hS 3 0 rfl rfl hi_103 (dAt zX4_init_0 58 rfl) (fun H locs hP hD hS => ?_)
              have hP : va_P D vwCl (([(b0, .inr (4, [.int 1023, .int 0, .int 0, .int 0, .int 0, .ref r34, .ref r42, .ref r49, .ref r57]))] : va_W) ++ (wA cI r34 100 (fun _ => 0) ++ (wA cI r42 100 zr42_64 ++ (wA cI r49 4 (upd zr49_88 (Int32.toNatClampNeg v1_88) 1) ++ (wA cI r57 8 (fun _ => 0)))))) H := hP
              have hD : va_D A (([(b0, .inr (4, [.int 1023, .int 0, .int 0, .int 0, .int 0, .ref r34, .ref r42, .ref r49, .ref r57]))] : va_W) ++ (wA cI r34 100 (fun _ => 0) ++ (wA cI r42 100 zr42_64 ++ (wA cI r49 4 (upd zr49_88 (Int32.toNatClampNeg v1_88) 1) ++ (wA cI r57 8 (fun _ => 0)))))) := hD
              refine lv_iinc (v := (v1_88 + 1)) (lv' := [(1, .int (v1_88 + 1)), (0, .ref b0)]) hx hb (dAt zX4_init_0 59 rfl) hl (k := 1) rfl rfl (by decide) rfl (fun ls hl => ?_)
              refine lv_goto (tgt := 88) hx hb (dAt zX4_init_0 60 rfl) (by decide) ?_
              exact ih_88 (v1_88 + 1) (upd zr49_88 (Int32.toNatClampNeg v1_88) 1) _ _ _ h hP hD hS (lv_sub hl [1, 0] rfl)
        exact L_88 n 0 (fun _ => 0) _ _ _ h hP hD hS (lv_sub hl [1, 0] rfl)
      · have h := q_neg c_70 h
        refine lv_aload_n hx hb (dAt zX4_init_0 40 rfl) rfl (lv_at hl 0 rfl) ?_
        refine va_get (D := D) (ci := 4) (v := .ref r42) (C := RX4) (T := TX4) (N := 9) hx hb htl inlX4 hown hK hP 0 rfl rfl 6 (by decide) (htl _ W_46) (fun _ h9 => h9) rfl (dAt zX4_init_0 41 rfl) ?_
        refine lv_iload_n hx hb (dAt zX4_init_0 42 rfl) rfl (lv_at hl 1 rfl) ?_
        refine lv_iconst (v := 2) hx hb (dAt zX4_init_0 43 rfl) (by decide) ?_
        obtain ⟨hi_79, h⟩ := q_in h
        refine va_iast hx hb hK hP hD hS 2 0 rfl rfl hi_79 (dAt zX4_init_0 44 rfl) (fun H locs hP hD hS => ?_)
        have hP : va_P D vwCl (([(b0, .inr (4, [.int 1023, .int 0, .int 0, .int 0, .int 0, .ref r34, .ref r42, .ref r49, .ref r57]))] : va_W) ++ (wA cI r34 100 (fun _ => 0) ++ (wA cI r42 100 (upd zr42_64 (Int32.toNatClampNeg v1_64) 2) ++ (wA cI r49 4 (fun _ => 0) ++ (wA cI r57 8 (fun _ => 0)))))) H := hP
        have hD : va_D A (([(b0, .inr (4, [.int 1023, .int 0, .int 0, .int 0, .int 0, .ref r34, .ref r42, .ref r49, .ref r57]))] : va_W) ++ (wA cI r34 100 (fun _ => 0) ++ (wA cI r42 100 (upd zr42_64 (Int32.toNatClampNeg v1_64) 2) ++ (wA cI r49 4 (fun _ => 0) ++ (wA cI r57 8 (fun _ => 0)))))) := hD
        refine lv_iinc (v := (v1_64 + 1)) (lv' := [(1, .int (v1_64 + 1)), (0, .ref b0)]) hx hb (dAt zX4_init_0 45 rfl) hl (k := 1) rfl rfl (by decide) rfl (fun ls hl => ?_)
        refine lv_goto (tgt := 64) hx hb (dAt zX4_init_0 46 rfl) (by decide) ?_
        exact ih_64 (v1_64 + 1) (upd zr42_64 (Int32.toNatClampNeg v1_64) 2) _ _ _ h hP hD hS (lv_sub hl [1, 0] rfl)
  exact L_64 n 0 (fun _ => 0) _ _ _ h hP hD hS (lv_sub hl [1, 0] rfl)
noncomputable def m_X2_init (n : Nat) : Option TI := some (mk2 0 (fun _ => 0))
set_option maxHeartbeats 4000000 in
set_option maxRecDepth 100000 in
theorem c_X2_init (l : Launch) (D : va_G) (cI cJ cZ : ClassId) (n : Nat) (b0 : Nat) (sz : Nat) (out : TI) (hm : m_X2_init n = some out) : Met l yX2_init (wsM yX2_init cX2_init 1 none) { frames := 1, cells := 1, slots := 60, locals := 12 } (xPre D (kT cI cJ cZ) ([(b0, .inr (2, [.null, .int 0]))] : va_W) sz [.ref b0]) (xQvI D (kT cI cJ cZ) ([(b0, .inr (2, [.null, .int 0]))] : va_W) (fun q : Nat → Nat => (w2 cI q out)) sz (fun q => q 0 = b0)) 1 60 (va_A ([(b0, .inr (2, [.null, .int 0]))] : va_W) sz) := by
  refine Met.ofW (cc := cX2_init) (maxL := 1) (ret := none) (by decide) rfl ?_
  intro p e s m args below meth c s₁ B hml hv
  obtain ⟨hv, hsz, hP, hK, hD0, hN⟩ := hv
  have hx := B.exec; have hb := B.bytes; have hr := B.returns
  have hts := atoms_spec (ws := (wsM yX2_init cX2_init 1 none)) B.pre
  have hown : s.vm.findClass RX2 = some m.cls := findClass_of_methodNamed B.named
  have hlocks := B.notSynchronized
  have hin : meth.name = "<init>" := (name_of_methodNamed B.named B.method).1
  subst hsz
  have hD := hD0.self (sz := s.heap.size)
  obtain ⟨A, hAe⟩ : ∃ A, A = va_A ([(b0, .inr (2, [.null, .int 0]))] : va_W) s.heap.size := ⟨_, rfl⟩
  rw [← hAe] at hD
  have hA : ∀ q : Nat, s.heap.size ≤ q → A q := fun q h => by rw [hAe]; exact Or.inr h
  have htl : ∀ w ∈ wsL_law, w.before args s = true := fun w h => hts w (List.mem_cons_of_mem _ h)
  refine xHead (R' := { frames := 1, cells := 1, slots := 60, locals := 12 }) rfl (fun Q H hQ hH => ?_)
  have hP : va_P D vwCl ([(b0, .inr (2, [.null, .int 0]))] : va_W) H := by rw [hH]; exact hP
  have hS : va_S A s.heap H [] := by rw [hH]; exact va_S.rf
  refine xStart hv (Nat.le_of_ble_eq_true rfl) (lv := [(0, .ref b0)]) rfl (fun ls hl => ?_)
  have h := hm
  unfold m_X2_init at h
  refine lv_aload_n hx hb (dAt zX2_init_0 0 rfl) rfl (lv_at hl 0 rfl) ?_
  refine W.objInit hx hb hown (htl _ W_51) (htl _ W_10) (htl _ W_11) rfl (by rw [hml]; exact hl.1) rfl (dAt zX2_init_0 1 rfl) (Nat.le_of_ble_eq_true rfl) (Nat.le_of_ble_eq_true rfl) ?_
  refine W.eq (g2 := F0 m 4 ls []) rfl ?_
  refine lv_aload_n hx hb (dAt zX2_init_0 2 rfl) rfl (lv_at hl 0 rfl) ?_
  refine lv_bipush (v := 60) hx hb (dAt zX2_init_0 3 rfl) (by decide) ?_
  refine xNewI (n := 60) (N' := 60) (hbig := by decide) hx hb (htl _ W_44) hK hP hD hS hA (by decide) (by decide) (Nat.le_of_ble_eq_true rfl) (Nat.le_of_ble_eq_true rfl) (dAt zX2_init_0 4 rfl) (fun r7 H hP hD hS => ?_)
  have hP : va_P D vwCl (([(b0, .inr (2, [.null, .int 0]))] : va_W) ++ (wA cI r7 60 (fun _ => 0))) H := hP
  have hD : va_D A (([(b0, .inr (2, [.null, .int 0]))] : va_W) ++ (wA cI r7 60 (fun _ => 0))) := hD
  refine W.widen (k := 1) (n := 60) (by omega) (by omega) ?_
  refine va_putF (D := D) (ci := 2) (v := .ref r7) (ty := (.array .int)) (C := RX2) (T := TX2) (N := 2) hx hb htl inlX2 tyX2 tyX2_ok nmX2 hown hK hP hD hS 0 rfl rfl 0 (by decide) (htl _ W_52) (fun _ h9 => h9) rfl hin rfl (by decide +kernel) rfl rfl (Nat.le_of_ble_eq_true rfl) (dAt zX2_init_0 5 rfl) (fun H locs hP hD hS => ?_)
  have hP : va_P D vwCl (([(b0, .inr (2, [.ref r7, .int 0]))] : va_W) ++ (wA cI r7 60 (fun _ => 0))) H := hP
  have hD : va_D A (([(b0, .inr (2, [.ref r7, .int 0]))] : va_W) ++ (wA cI r7 60 (fun _ => 0))) := hD
  refine lv_aload_n hx hb (dAt zX2_init_0 6 rfl) rfl (lv_at hl 0 rfl) ?_
  refine lv_iconst (v := 0) hx hb (dAt zX2_init_0 7 rfl) (by decide) ?_
  refine va_put (D := D) (ci := 2) (v := .int 0) (ty := .int) (C := RX2) (T := TX2) (N := 2) hx hb htl inlX2 tyX2 tyX2_ok nmX2 hown hK hP hD hS 0 rfl rfl 1 (by decide) (htl _ W_53) (fun _ h9 => h9) rfl (by decide +kernel) rfl rfl (Nat.le_of_ble_eq_true rfl) (dAt zX2_init_0 8 rfl) (fun H locs hP hD hS => ?_)
  have hP : va_P D vwCl (([(b0, .inr (2, [.ref r7, .int 0]))] : va_W) ++ (wA cI r7 60 (fun _ => 0))) H := hP
  have hD : va_D A (([(b0, .inr (2, [.ref r7, .int 0]))] : va_W) ++ (wA cI r7 60 (fun _ => 0))) := hD
  obtain rfl := q_some h
  have hP : va_P D vwCl (w2 cI (fun k => match Nat.beq k 1 with | true => r7 | false => b0) (mk2 0 (fun _ => 0))) H := hP
  have hD : va_D A (w2 cI (fun k => match Nat.beq k 1 with | true => r7 | false => b0) (mk2 0 (fun _ => 0))) := hD
  exact xRvI (fun k => match Nat.beq k 1 with | true => r7 | false => b0) hx hb hr hlocks hQ hAe (by simp) hP hD hK hS (dAt zX2_init_0 9 rfl)
noncomputable def m_X1_init (n : Nat) : Option (TI × TI) := ((m_X4_init n).bind fun u9 => some (mk1 0 0 0 0 (-6) (-6), u9))
set_option maxHeartbeats 4000000 in
set_option maxRecDepth 100000 in
theorem c_X1_init (l : Launch) (D : va_G) (cI cJ cZ : ClassId) (n : Nat) (b0 : Nat) (sz : Nat) (out : TI × TI) (hm : m_X1_init n = some out) : Met l yX1_init (wsM yX1_init cX1_init 1 none) { frames := 2, cells := 5, slots := 221, locals := 33 } (xPre D (kT cI cJ cZ) ([(b0, .inr (1, [.null, .int 0, .int 0, .int 0, .int 0, .int 0, .int 0]))] : va_W) sz [.ref b0]) (xQvI D (kT cI cJ cZ) ([(b0, .inr (1, [.null, .int 0, .int 0, .int 0, .int 0, .int 0, .int 0]))] : va_W) (fun q : (Nat → Nat) × (Nat → Nat) => (w1 q.1 q.2 out.1 ++ w4 cI q.2 out.2)) sz (fun q => q.1 0 = b0)) 5 221 (va_A ([(b0, .inr (1, [.null, .int 0, .int 0, .int 0, .int 0, .int 0, .int 0]))] : va_W) sz) := by
  refine Met.ofW (cc := cX1_init) (maxL := 1) (ret := none) (by decide) rfl ?_
  intro p e s m args below meth c s₁ B hml hv
  obtain ⟨hv, hsz, hP, hK, hD0, hN⟩ := hv
  have hx := B.exec; have hb := B.bytes; have hr := B.returns
  have hts := atoms_spec (ws := (wsM yX1_init cX1_init 1 none)) B.pre
  have hown : s.vm.findClass RX1 = some m.cls := findClass_of_methodNamed B.named
  have hlocks := B.notSynchronized
  have hin : meth.name = "<init>" := (name_of_methodNamed B.named B.method).1
  subst hsz
  have hD := hD0.self (sz := s.heap.size)
  obtain ⟨A, hAe⟩ : ∃ A, A = va_A ([(b0, .inr (1, [.null, .int 0, .int 0, .int 0, .int 0, .int 0, .int 0]))] : va_W) s.heap.size := ⟨_, rfl⟩
  rw [← hAe] at hD
  have hA : ∀ q : Nat, s.heap.size ≤ q → A q := fun q h => by rw [hAe]; exact Or.inr h
  have htl : ∀ w ∈ wsL_law, w.before args s = true := fun w h => hts w (List.mem_cons_of_mem _ h)
  refine xHead (R' := { frames := 2, cells := 5, slots := 221, locals := 33 }) rfl (fun Q H hQ hH => ?_)
  have hP : va_P D vwCl ([(b0, .inr (1, [.null, .int 0, .int 0, .int 0, .int 0, .int 0, .int 0]))] : va_W) H := by rw [hH]; exact hP
  have hS : va_S A s.heap H [] := by rw [hH]; exact va_S.rf
  refine xStart hv (Nat.le_of_ble_eq_true rfl) (lv := [(0, .ref b0)]) rfl (fun ls hl => ?_)
  have h := hm
  unfold m_X1_init at h
  refine lv_aload_n hx hb (dAt zX1_init_0 0 rfl) rfl (lv_at hl 0 rfl) ?_
  refine W.objInit hx hb hown (htl _ W_56) (htl _ W_10) (htl _ W_11) rfl (by rw [hml]; exact hl.1) rfl (dAt zX1_init_0 1 rfl) (Nat.le_of_ble_eq_true rfl) (Nat.le_of_ble_eq_true rfl) ?_
  refine W.eq (g2 := F0 m 4 ls []) rfl ?_
  refine lv_aload_n hx hb (dAt zX1_init_0 2 rfl) rfl (lv_at hl 0 rfl) ?_
  refine va_new (ci := 4) (fs := [.int 0, .int 0, .int 0, .int 0, .int 0, .null, .null, .null, .null]) (C := RX4) (T := TX4) (N := 9) hx hb htl inlX4 tyX4 tyX4_ok hown (htl _ W_57) (htl _ W_13) (htl _ W_14) hK hP hD hS hA rfl (fun j hj => by rcases (show j = 0 ∨ j = 1 ∨ j = 2 ∨ j = 3 ∨ j = 4 ∨ j = 5 ∨ j = 6 ∨ j = 7 ∨ j = 8 by omega) with rfl | rfl | rfl | rfl | rfl | rfl | rfl | rfl | rfl <;> rfl) (Nat.le_of_ble_eq_true rfl) (Nat.le_of_ble_eq_true rfl) (dAt zX1_init_0 3 rfl) (fun b5 H hP hD hS => ?_)
  have hP : va_P D vwCl (([(b0, .inr (1, [.null, .int 0, .int 0, .int 0, .int 0, .int 0, .int 0]))] : va_W) ++ (([(b5, .inr (4, [.int 0, .int 0, .int 0, .int 0, .int 0, .null, .null, .null, .null]))] : va_W))) H := hP
  have hD : va_D A (([(b0, .inr (1, [.null, .int 0, .int 0, .int 0, .int 0, .int 0, .int 0]))] : va_W) ++ (([(b5, .inr (4, [.int 0, .int 0, .int 0, .int 0, .int 0, .null, .null, .null, .null]))] : va_W))) := hD
  refine W.widen (k := 1) (n := 9) (by omega) (by omega) ?_
  refine lv_dup hx hb (dAt zX1_init_0 4 rfl) rfl ?_
  obtain ⟨u9, hu9, h⟩ := q_bind h
  have hPc : va_P D vwCl ([(b5, .inr (4, [.int 0, .int 0, .int 0, .int 0, .int 0, .null, .null, .null, .null]))] : va_W) H := hP.sub [1] rfl
  have hDc : va_D A ([(b5, .inr (4, [.int 0, .int 0, .int 0, .int 0, .int 0, .null, .null, .null, .null]))] : va_W) := hD.sub [1] (by decide) rfl
  refine xFvI (wc := ([(b5, .inr (4, [.int 0, .int 0, .int 0, .int 0, .int 0, .null, .null, .null, .null]))] : va_W)) (wr := (([(b0, .inr (1, [.null, .int 0, .int 0, .int 0, .int 0, .int 0, .int 0]))] : va_W))) (va_runI (As := []) (rest := [.ref b5, .ref b0]) ⟨hx, hb, hml, hown, htl⟩ (c_X4_init l D cI cJ cZ n b5 H.size u9 hu9) (cwI 0 htl (gM W_37) rfl rfl rfl (htl _ W_14) (htl _ W_65) (htl _ W_36) rfl (by decide +kernel) ⟨Nat.le_of_ble_eq_true rfl, Nat.le_of_ble_eq_true rfl⟩) (xPS hPc hDc hK hN) rfl rfl hl.1 rfl (lv_room (Nat.le_of_ble_eq_true rfl)) (dAt zX1_init_0 5 rfl) ⟨Nat.le_of_ble_eq_true rfl, Nat.le_of_ble_eq_true rfl⟩) hS hA hP hD [1] [0] rfl rfl (by decide) (by decide) (fun q9 H2 locs2 e_q9 hP2 hD2 hS2 => ?_)
  subst e_q9
  have hS := hS2; clear hS2; have hP := hP2; clear hP2; have hD := hD2; clear hD2
  generalize H2 = H at hP hS ⊢; generalize locs2 = locs at hS ⊢
  have hP : va_P D vwCl (([(b0, .inr (1, [.null, .int 0, .int 0, .int 0, .int 0, .int 0, .int 0]))] : va_W) ++ ((w4 cI q9 u9))) H := hP
  have hD : va_D A (([(b0, .inr (1, [.null, .int 0, .int 0, .int 0, .int 0, .int 0, .int 0]))] : va_W) ++ ((w4 cI q9 u9))) := hD
  refine W.widen (k := 5) (n := 221) (by omega) (by omega) ?_
  refine va_putF (D := D) (ci := 1) (v := .ref (q9 0)) (ty := (.object "LastTrain$Town")) (C := RX1) (T := TX1) (N := 7) hx hb htl inlX1 tyX1 tyX1_ok nmX1 hown hK hP hD hS 0 rfl rfl 0 (by decide) (htl _ W_58) (fun _ h9 => h9) rfl hin rfl (by decide +kernel) rfl rfl (Nat.le_of_ble_eq_true rfl) (dAt zX1_init_0 6 rfl) (fun H locs hP hD hS => ?_)
  have hP : va_P D vwCl (([(b0, .inr (1, [.ref (q9 0), .int 0, .int 0, .int 0, .int 0, .int 0, .int 0]))] : va_W) ++ ((w4 cI q9 u9))) H := hP
  have hD : va_D A (([(b0, .inr (1, [.ref (q9 0), .int 0, .int 0, .int 0, .int 0, .int 0, .int 0]))] : va_W) ++ ((w4 cI q9 u9))) := hD
  refine lv_aload_n hx hb (dAt zX1_init_0 7 rfl) rfl (lv_at hl 0 rfl) ?_
  refine lv_iconst (v := 0) hx hb (dAt zX1_init_0 8 rfl) (by decide) ?_
  refine va_put (D := D) (ci := 1) (v := .int 0) (ty := .int) (C := RX1) (T := TX1) (N := 7) hx hb htl inlX1 tyX1 tyX1_ok nmX1 hown hK hP hD hS 0 rfl rfl 1 (by decide) (htl _ W_59) (fun _ h9 => h9) rfl (by decide +kernel) rfl rfl (Nat.le_of_ble_eq_true rfl) (dAt zX1_init_0 9 rfl) (fun H locs hP hD hS => ?_)
  have hP : va_P D vwCl (([(b0, .inr (1, [.ref (q9 0), .int 0, .int 0, .int 0, .int 0, .int 0, .int 0]))] : va_W) ++ ((w4 cI q9 u9))) H := hP
  have hD : va_D A (([(b0, .inr (1, [.ref (q9 0), .int 0, .int 0, .int 0, .int 0, .int 0, .int 0]))] : va_W) ++ ((w4 cI q9 u9))) := hD
  refine lv_aload_n hx hb (dAt zX1_init_0 10 rfl) rfl (lv_at hl 0 rfl) ?_
  refine lv_iconst (v := 0) hx hb (dAt zX1_init_0 11 rfl) (by decide) ?_
  refine va_put (D := D) (ci := 1) (v := .int 0) (ty := .int) (C := RX1) (T := TX1) (N := 7) hx hb htl inlX1 tyX1 tyX1_ok nmX1 hown hK hP hD hS 0 rfl rfl 2 (by decide) (htl _ W_60) (fun _ h9 => h9) rfl (by decide +kernel) rfl rfl (Nat.le_of_ble_eq_true rfl) (dAt zX1_init_0 12 rfl) (fun H locs hP hD hS => ?_)
  have hP : va_P D vwCl (([(b0, .inr (1, [.ref (q9 0), .int 0, .int 0, .int 0, .int 0, .int 0, .int 0]))] : va_W) ++ ((w4 cI q9 u9))) H := hP
  have hD : va_D A (([(b0, .inr (1, [.ref (q9 0), .int 0, .int 0, .int 0, .int 0, .int 0, .int 0]))] : va_W) ++ ((w4 cI q9 u9))) := hD
  refine lv_aload_n hx hb (dAt zX1_init_0 13 rfl) rfl (lv_at hl 0 rfl) ?_
  refine lv_iconst (v := 0) hx hb (dAt zX1_init_0 14 rfl) (by decide) ?_
  refine va_put (D := D) (ci := 1) (v := .int 0) (ty := .int) (C := RX1) (T := TX1) (N := 7) hx hb htl inlX1 tyX1 tyX1_ok nmX1 hown hK hP hD hS 0 rfl rfl 3 (by decide) (htl _ W_61) (fun _ h9 => h9) rfl (by decide +kernel) rfl rfl (Nat.le_of_ble_eq_true rfl) (dAt zX1_init_0 15 rfl) (fun H locs hP hD hS => ?_)
  have hP : va_P D vwCl (([(b0, .inr (1, [.ref (q9 0), .int 0, .int 0, .int 0, .int 0, .int 0, .int 0]))] : va_W) ++ ((w4 cI q9 u9))) H := hP
  have hD : va_D A (([(b0, .inr (1, [.ref (q9 0), .int 0, .int 0, .int 0, .int 0, .int 0, .int 0]))] : va_W) ++ ((w4 cI q9 u9))) := hD
  refine lv_aload_n hx hb (dAt zX1_init_0 16 rfl) rfl (lv_at hl 0 rfl) ?_
  refine lv_iconst (v := 0) hx hb (dAt zX1_init_0 17 rfl) (by decide) ?_
  refine va_put (D := D) (ci := 1) (v := .int 0) (ty := .int) (C := RX1) (T := TX1) (N := 7) hx hb htl inlX1 tyX1 tyX1_ok nmX1 hown hK hP hD hS 0 rfl rfl 4 (by decide) (htl _ W_62) (fun _ h9 => h9) rfl (by decide +kernel) rfl rfl (Nat.le_of_ble_eq_true rfl) (dAt zX1_init_0 18 rfl) (fun H locs hP hD hS => ?_)
  have hP : va_P D vwCl (([(b0, .inr (1, [.ref (q9 0), .int 0, .int 0, .int 0, .int 0, .int 0, .int 0]))] : va_W) ++ ((w4 cI q9 u9))) H := hP
  have hD : va_D A (([(b0, .inr (1, [.ref (q9 0), .int 0, .int 0, .int 0, .int 0, .int 0, .int 0]))] : va_W) ++ ((w4 cI q9 u9))) := hD
  refine lv_aload_n hx hb (dAt zX1_init_0 19 rfl) rfl (lv_at hl 0 rfl) ?_
  refine lv_bipush (v := (-6)) hx hb (dAt zX1_init_0 20 rfl) (by decide) ?_
  refine va_put (D := D) (ci := 1) (v := .int (-6)) (ty := .int) (C := RX1) (T := TX1) (N := 7) hx hb htl inlX1 tyX1 tyX1_ok nmX1 hown hK hP hD hS 0 rfl rfl 5 (by decide) (htl _ W_63) (fun _ h9 => h9) rfl (by decide +kernel) rfl rfl (Nat.le_of_ble_eq_true rfl) (dAt zX1_init_0 21 rfl) (fun H locs hP hD hS => ?_)
  have hP : va_P D vwCl (([(b0, .inr (1, [.ref (q9 0), .int 0, .int 0, .int 0, .int 0, .int (-6), .int 0]))] : va_W) ++ ((w4 cI q9 u9))) H := hP
  have hD : va_D A (([(b0, .inr (1, [.ref (q9 0), .int 0, .int 0, .int 0, .int 0, .int (-6), .int 0]))] : va_W) ++ ((w4 cI q9 u9))) := hD
  refine lv_aload_n hx hb (dAt zX1_init_0 22 rfl) rfl (lv_at hl 0 rfl) ?_
  refine lv_bipush (v := (-6)) hx hb (dAt zX1_init_0 23 rfl) (by decide) ?_
  refine va_put (D := D) (ci := 1) (v := .int (-6)) (ty := .int) (C := RX1) (T := TX1) (N := 7) hx hb htl inlX1 tyX1 tyX1_ok nmX1 hown hK hP hD hS 0 rfl rfl 6 (by decide) (htl _ W_64) (fun _ h9 => h9) rfl (by decide +kernel) rfl rfl (Nat.le_of_ble_eq_true rfl) (dAt zX1_init_0 24 rfl) (fun H locs hP hD hS => ?_)
  have hP : va_P D vwCl (([(b0, .inr (1, [.ref (q9 0), .int 0, .int 0, .int 0, .int 0, .int (-6), .int (-6)]))] : va_W) ++ ((w4 cI q9 u9))) H := hP
  have hD : va_D A (([(b0, .inr (1, [.ref (q9 0), .int 0, .int 0, .int 0, .int 0, .int (-6), .int (-6)]))] : va_W) ++ ((w4 cI q9 u9))) := hD
  obtain rfl := q_some h
  have hP : va_P D vwCl (w1 (fun _ => b0) q9 (mk1 0 0 0 0 (-6) (-6), u9).1 ++ w4 cI q9 (mk1 0 0 0 0 (-6) (-6), u9).2) H := hP
  have hD : va_D A (w1 (fun _ => b0) q9 (mk1 0 0 0 0 (-6) (-6), u9).1 ++ w4 cI q9 (mk1 0 0 0 0 (-6) (-6), u9).2) := hD
  exact xRvI ((fun _ => b0, q9)) hx hb hr hlocks hQ hAe (by simp) hP hD hK hS (dAt zX1_init_0 25 rfl)
noncomputable def m_X3_init (n : Nat) : Option TI := some (mk3 0 (fun _ => 0) (fun _ => 0) (fun _ => 0))
set_option maxHeartbeats 4000000 in
set_option maxRecDepth 100000 in
theorem c_X3_init (l : Launch) (D : va_G) (cI cJ cZ : ClassId) (n : Nat) (b0 : Nat) (sz : Nat) (out : TI) (hm : m_X3_init n = some out) : Met l yX3_init (wsM yX3_init cX3_init 1 none) { frames := 1, cells := 3, slots := 30, locals := 12 } (xPre D (kT cI cJ cZ) ([(b0, .inr (3, [.null, .null, .null, .int 0]))] : va_W) sz [.ref b0]) (xQvI D (kT cI cJ cZ) ([(b0, .inr (3, [.null, .null, .null, .int 0]))] : va_W) (fun q : Nat → Nat => (w3 cI q out)) sz (fun q => q 0 = b0)) 3 30 (va_A ([(b0, .inr (3, [.null, .null, .null, .int 0]))] : va_W) sz) := by
  refine Met.ofW (cc := cX3_init) (maxL := 1) (ret := none) (by decide) rfl ?_
  intro p e s m args below meth c s₁ B hml hv
  obtain ⟨hv, hsz, hP, hK, hD0, hN⟩ := hv
  have hx := B.exec; have hb := B.bytes; have hr := B.returns
  have hts := atoms_spec (ws := (wsM yX3_init cX3_init 1 none)) B.pre
  have hown : s.vm.findClass RX3 = some m.cls := findClass_of_methodNamed B.named
  have hlocks := B.notSynchronized
  have hin : meth.name = "<init>" := (name_of_methodNamed B.named B.method).1
  subst hsz
  have hD := hD0.self (sz := s.heap.size)
  obtain ⟨A, hAe⟩ : ∃ A, A = va_A ([(b0, .inr (3, [.null, .null, .null, .int 0]))] : va_W) s.heap.size := ⟨_, rfl⟩
  rw [← hAe] at hD
  have hA : ∀ q : Nat, s.heap.size ≤ q → A q := fun q h => by rw [hAe]; exact Or.inr h
  have htl : ∀ w ∈ wsL_law, w.before args s = true := fun w h => hts w (List.mem_cons_of_mem _ h)
  refine xHead (R' := { frames := 1, cells := 3, slots := 30, locals := 12 }) rfl (fun Q H hQ hH => ?_)
  have hP : va_P D vwCl ([(b0, .inr (3, [.null, .null, .null, .int 0]))] : va_W) H := by rw [hH]; exact hP
  have hS : va_S A s.heap H [] := by rw [hH]; exact va_S.rf
  refine xStart hv (Nat.le_of_ble_eq_true rfl) (lv := [(0, .ref b0)]) rfl (fun ls hl => ?_)
  have h := hm
  unfold m_X3_init at h
  refine lv_aload_n hx hb (dAt zX3_init_0 0 rfl) rfl (lv_at hl 0 rfl) ?_
  refine W.objInit hx hb hown (htl _ W_68) (htl _ W_10) (htl _ W_11) rfl (by rw [hml]; exact hl.1) rfl (dAt zX3_init_0 1 rfl) (Nat.le_of_ble_eq_true rfl) (Nat.le_of_ble_eq_true rfl) ?_
  refine W.eq (g2 := F0 m 4 ls []) rfl ?_
  refine lv_aload_n hx hb (dAt zX3_init_0 2 rfl) rfl (lv_at hl 0 rfl) ?_
  refine lv_bipush (v := 10) hx hb (dAt zX3_init_0 3 rfl) (by decide) ?_
  refine xNewI (n := 10) (N' := 10) (hbig := by decide) hx hb (htl _ W_44) hK hP hD hS hA (by decide) (by decide) (Nat.le_of_ble_eq_true rfl) (Nat.le_of_ble_eq_true rfl) (dAt zX3_init_0 4 rfl) (fun r7 H hP hD hS => ?_)
  have hP : va_P D vwCl (([(b0, .inr (3, [.null, .null, .null, .int 0]))] : va_W) ++ (wA cI r7 10 (fun _ => 0))) H := hP
  have hD : va_D A (([(b0, .inr (3, [.null, .null, .null, .int 0]))] : va_W) ++ (wA cI r7 10 (fun _ => 0))) := hD
  refine W.widen (k := 1) (n := 10) (by omega) (by omega) ?_
  refine va_putF (D := D) (ci := 3) (v := .ref r7) (ty := (.array .int)) (C := RX3) (T := TX3) (N := 4) hx hb htl inlX3 tyX3 tyX3_ok nmX3 hown hK hP hD hS 0 rfl rfl 0 (by decide) (htl _ W_69) (fun _ h9 => h9) rfl hin rfl (by decide +kernel) rfl rfl (Nat.le_of_ble_eq_true rfl) (dAt zX3_init_0 5 rfl) (fun H locs hP hD hS => ?_)
  have hP : va_P D vwCl (([(b0, .inr (3, [.ref r7, .null, .null, .int 0]))] : va_W) ++ (wA cI r7 10 (fun _ => 0))) H := hP
  have hD : va_D A (([(b0, .inr (3, [.ref r7, .null, .null, .int 0]))] : va_W) ++ (wA cI r7 10 (fun _ => 0))) := hD
  refine lv_aload_n hx hb (dAt zX3_init_0 6 rfl) rfl (lv_at hl 0 rfl) ?_
  refine lv_bipush (v := 10) hx hb (dAt zX3_init_0 7 rfl) (by decide) ?_
  refine xNewI (n := 10) (N' := 10) (hbig := by decide) hx hb (htl _ W_44) hK hP hD hS hA (by decide) (by decide) (Nat.le_of_ble_eq_true rfl) (Nat.le_of_ble_eq_true rfl) (dAt zX3_init_0 8 rfl) (fun r15 H hP hD hS => ?_)
  have hP : va_P D vwCl (([(b0, .inr (3, [.ref r7, .null, .null, .int 0]))] : va_W) ++ (wA cI r7 10 (fun _ => 0) ++ (wA cI r15 10 (fun _ => 0)))) H := hP
  have hD : va_D A (([(b0, .inr (3, [.ref r7, .null, .null, .int 0]))] : va_W) ++ (wA cI r7 10 (fun _ => 0) ++ (wA cI r15 10 (fun _ => 0)))) := hD
  refine W.widen (k := 2) (n := 20) (by omega) (by omega) ?_
  refine va_putF (D := D) (ci := 3) (v := .ref r15) (ty := (.array .int)) (C := RX3) (T := TX3) (N := 4) hx hb htl inlX3 tyX3 tyX3_ok nmX3 hown hK hP hD hS 0 rfl rfl 1 (by decide) (htl _ W_70) (fun _ h9 => h9) rfl hin rfl (by decide +kernel) rfl rfl (Nat.le_of_ble_eq_true rfl) (dAt zX3_init_0 9 rfl) (fun H locs hP hD hS => ?_)
  have hP : va_P D vwCl (([(b0, .inr (3, [.ref r7, .ref r15, .null, .int 0]))] : va_W) ++ (wA cI r7 10 (fun _ => 0) ++ (wA cI r15 10 (fun _ => 0)))) H := hP
  have hD : va_D A (([(b0, .inr (3, [.ref r7, .ref r15, .null, .int 0]))] : va_W) ++ (wA cI r7 10 (fun _ => 0) ++ (wA cI r15 10 (fun _ => 0)))) := hD
  refine lv_aload_n hx hb (dAt zX3_init_0 10 rfl) rfl (lv_at hl 0 rfl) ?_
  refine lv_bipush (v := 10) hx hb (dAt zX3_init_0 11 rfl) (by decide) ?_
  refine xNewI (n := 10) (N' := 10) (hbig := by decide) hx hb (htl _ W_44) hK hP hD hS hA (by decide) (by decide) (Nat.le_of_ble_eq_true rfl) (Nat.le_of_ble_eq_true rfl) (dAt zX3_init_0 12 rfl) (fun r23 H hP hD hS => ?_)
  have hP : va_P D vwCl (([(b0, .inr (3, [.ref r7, .ref r15, .null, .int 0]))] : va_W) ++ (wA cI r7 10 (fun _ => 0) ++ (wA cI r15 10 (fun _ => 0) ++ (wA cI r23 10 (fun _ => 0))))) H := hP
  have hD : va_D A (([(b0, .inr (3, [.ref r7, .ref r15, .null, .int 0]))] : va_W) ++ (wA cI r7 10 (fun _ => 0) ++ (wA cI r15 10 (fun _ => 0) ++ (wA cI r23 10 (fun _ => 0))))) := hD
  refine W.widen (k := 3) (n := 30) (by omega) (by omega) ?_
  refine va_putF (D := D) (ci := 3) (v := .ref r23) (ty := (.array .int)) (C := RX3) (T := TX3) (N := 4) hx hb htl inlX3 tyX3 tyX3_ok nmX3 hown hK hP hD hS 0 rfl rfl 2 (by decide) (htl _ W_71) (fun _ h9 => h9) rfl hin rfl (by decide +kernel) rfl rfl (Nat.le_of_ble_eq_true rfl) (dAt zX3_init_0 13 rfl) (fun H locs hP hD hS => ?_)
  have hP : va_P D vwCl (([(b0, .inr (3, [.ref r7, .ref r15, .ref r23, .int 0]))] : va_W) ++ (wA cI r7 10 (fun _ => 0) ++ (wA cI r15 10 (fun _ => 0) ++ (wA cI r23 10 (fun _ => 0))))) H := hP
  have hD : va_D A (([(b0, .inr (3, [.ref r7, .ref r15, .ref r23, .int 0]))] : va_W) ++ (wA cI r7 10 (fun _ => 0) ++ (wA cI r15 10 (fun _ => 0) ++ (wA cI r23 10 (fun _ => 0))))) := hD
  refine lv_aload_n hx hb (dAt zX3_init_0 14 rfl) rfl (lv_at hl 0 rfl) ?_
  refine lv_iconst (v := 0) hx hb (dAt zX3_init_0 15 rfl) (by decide) ?_
  refine va_put (D := D) (ci := 3) (v := .int 0) (ty := .int) (C := RX3) (T := TX3) (N := 4) hx hb htl inlX3 tyX3 tyX3_ok nmX3 hown hK hP hD hS 0 rfl rfl 3 (by decide) (htl _ W_72) (fun _ h9 => h9) rfl (by decide +kernel) rfl rfl (Nat.le_of_ble_eq_true rfl) (dAt zX3_init_0 16 rfl) (fun H locs hP hD hS => ?_)
  have hP : va_P D vwCl (([(b0, .inr (3, [.ref r7, .ref r15, .ref r23, .int 0]))] : va_W) ++ (wA cI r7 10 (fun _ => 0) ++ (wA cI r15 10 (fun _ => 0) ++ (wA cI r23 10 (fun _ => 0))))) H := hP
  have hD : va_D A (([(b0, .inr (3, [.ref r7, .ref r15, .ref r23, .int 0]))] : va_W) ++ (wA cI r7 10 (fun _ => 0) ++ (wA cI r15 10 (fun _ => 0) ++ (wA cI r23 10 (fun _ => 0))))) := hD
  obtain rfl := q_some h
  have hP : va_P D vwCl (w3 cI (fun k => match Nat.beq k 1 with | true => r7 | false => match Nat.beq k 2 with | true => r15 | false => match Nat.beq k 3 with | true => r23 | false => b0) (mk3 0 (fun _ => 0) (fun _ => 0) (fun _ => 0))) H := hP
  have hD : va_D A (w3 cI (fun k => match Nat.beq k 1 with | true => r7 | false => match Nat.beq k 2 with | true => r15 | false => match Nat.beq k 3 with | true => r23 | false => b0) (mk3 0 (fun _ => 0) (fun _ => 0) (fun _ => 0))) := hD
  exact xRvI (fun k => match Nat.beq k 1 with | true => r7 | false => match Nat.beq k 2 with | true => r15 | false => match Nat.beq k 3 with | true => r23 | false => b0) hx hb hr hlocks hQ hAe (by simp) hP hD hK hS (dAt zX3_init_0 17 rfl)
noncomputable def m_X0_init (n : Nat) : Option TL := some (mk0 0 0 1 (fun _ => 0))
set_option maxHeartbeats 4000000 in
set_option maxRecDepth 100000 in
theorem c_X0_init (l : Launch) (D : va_G) (cI cJ cZ : ClassId) (n : Nat) (b0 : Nat) (sz : Nat) (out : TL) (hm : m_X0_init n = some out) : Met l yX0_init (wsM yX0_init cX0_init 1 none) { frames := 1, cells := 1, slots := 11, locals := 12 } (xPre D (kT cI cJ cZ) ([(b0, .inr (0, [.null, .long 0, .long 0, .long 0]))] : va_W) sz [.ref b0]) (xQvI D (kT cI cJ cZ) ([(b0, .inr (0, [.null, .long 0, .long 0, .long 0]))] : va_W) (fun q : Nat → Nat => (w0 cJ q out)) sz (fun q => q 0 = b0)) 1 11 (va_A ([(b0, .inr (0, [.null, .long 0, .long 0, .long 0]))] : va_W) sz) := by
  refine Met.ofW (cc := cX0_init) (maxL := 1) (ret := none) (by decide) rfl ?_
  intro p e s m args below meth c s₁ B hml hv
  obtain ⟨hv, hsz, hP, hK, hD0, hN⟩ := hv
  have hx := B.exec; have hb := B.bytes; have hr := B.returns
  have hts := atoms_spec (ws := (wsM yX0_init cX0_init 1 none)) B.pre
  have hown : s.vm.findClass RX0 = some m.cls := findClass_of_methodNamed B.named
  have hlocks := B.notSynchronized
  have hin : meth.name = "<init>" := (name_of_methodNamed B.named B.method).1
  subst hsz
  have hD := hD0.self (sz := s.heap.size)
  obtain ⟨A, hAe⟩ : ∃ A, A = va_A ([(b0, .inr (0, [.null, .long 0, .long 0, .long 0]))] : va_W) s.heap.size := ⟨_, rfl⟩
  rw [← hAe] at hD
  have hA : ∀ q : Nat, s.heap.size ≤ q → A q := fun q h => by rw [hAe]; exact Or.inr h
  have htl : ∀ w ∈ wsL_law, w.before args s = true := fun w h => hts w (List.mem_cons_of_mem _ h)
  refine xHead (R' := { frames := 1, cells := 1, slots := 11, locals := 12 }) rfl (fun Q H hQ hH => ?_)
  have hP : va_P D vwCl ([(b0, .inr (0, [.null, .long 0, .long 0, .long 0]))] : va_W) H := by rw [hH]; exact hP
  have hS : va_S A s.heap H [] := by rw [hH]; exact va_S.rf
  refine xStart hv (Nat.le_of_ble_eq_true rfl) (lv := [(0, .ref b0)]) rfl (fun ls hl => ?_)
  have h := hm
  unfold m_X0_init at h
  refine lv_aload_n hx hb (dAt zX0_init_0 0 rfl) rfl (lv_at hl 0 rfl) ?_
  refine W.objInit hx hb hown (htl _ W_75) (htl _ W_10) (htl _ W_11) rfl (by rw [hml]; exact hl.1) rfl (dAt zX0_init_0 1 rfl) (Nat.le_of_ble_eq_true rfl) (Nat.le_of_ble_eq_true rfl) ?_
  refine W.eq (g2 := F0 m 4 ls []) rfl ?_
  refine lv_aload_n hx hb (dAt zX0_init_0 2 rfl) rfl (lv_at hl 0 rfl) ?_
  refine lv_bipush (v := 11) hx hb (dAt zX0_init_0 3 rfl) (by decide) ?_
  refine xNewJ (n := 11) (N' := 11) (hbig := by decide) hx hb (htl _ W_76) hK hP hD hS hA (by decide) (by decide) (Nat.le_of_ble_eq_true rfl) (Nat.le_of_ble_eq_true rfl) (dAt zX0_init_0 4 rfl) (fun r7 H hP hD hS => ?_)
  have hP : va_P D vwCl (([(b0, .inr (0, [.null, .long 0, .long 0, .long 0]))] : va_W) ++ (wAJ cJ r7 11 (fun _ => 0))) H := hP
  have hD : va_D A (([(b0, .inr (0, [.null, .long 0, .long 0, .long 0]))] : va_W) ++ (wAJ cJ r7 11 (fun _ => 0))) := hD
  refine W.widen (k := 1) (n := 11) (by omega) (by omega) ?_
  refine va_putF (D := D) (ci := 0) (v := .ref r7) (ty := (.array .long)) (C := RX0) (T := TX0) (N := 4) hx hb htl inlX0 tyX0 tyX0_ok nmX0 hown hK hP hD hS 0 rfl rfl 0 (by decide) (htl _ W_77) (fun _ h9 => h9) rfl hin rfl (by decide +kernel) rfl rfl (Nat.le_of_ble_eq_true rfl) (dAt zX0_init_0 5 rfl) (fun H locs hP hD hS => ?_)
  have hP : va_P D vwCl (([(b0, .inr (0, [.ref r7, .long 0, .long 0, .long 0]))] : va_W) ++ (wAJ cJ r7 11 (fun _ => 0))) H := hP
  have hD : va_D A (([(b0, .inr (0, [.ref r7, .long 0, .long 0, .long 0]))] : va_W) ++ (wAJ cJ r7 11 (fun _ => 0))) := hD
  refine lv_aload_n hx hb (dAt zX0_init_0 6 rfl) rfl (lv_at hl 0 rfl) ?_
  refine lv_lconst (v := 0) hx hb (dAt zX0_init_0 7 rfl) (by decide) ?_
  refine va_put (D := D) (ci := 0) (v := .long 0) (ty := .long) (C := RX0) (T := TX0) (N := 4) hx hb htl inlX0 tyX0 tyX0_ok nmX0 hown hK hP hD hS 0 rfl rfl 1 (by decide) (htl _ W_78) (fun _ h9 => h9) rfl (by decide +kernel) rfl rfl (Nat.le_of_ble_eq_true rfl) (dAt zX0_init_0 8 rfl) (fun H locs hP hD hS => ?_)
  have hP : va_P D vwCl (([(b0, .inr (0, [.ref r7, .long 0, .long 0, .long 0]))] : va_W) ++ (wAJ cJ r7 11 (fun _ => 0))) H := hP
  have hD : va_D A (([(b0, .inr (0, [.ref r7, .long 0, .long 0, .long 0]))] : va_W) ++ (wAJ cJ r7 11 (fun _ => 0))) := hD
  refine lv_aload_n hx hb (dAt zX0_init_0 9 rfl) rfl (lv_at hl 0 rfl) ?_
  refine lv_lconst (v := 0) hx hb (dAt zX0_init_0 10 rfl) (by decide) ?_
  refine va_put (D := D) (ci := 0) (v := .long 0) (ty := .long) (C := RX0) (T := TX0) (N := 4) hx hb htl inlX0 tyX0 tyX0_ok nmX0 hown hK hP hD hS 0 rfl rfl 2 (by decide) (htl _ W_79) (fun _ h9 => h9) rfl (by decide +kernel) rfl rfl (Nat.le_of_ble_eq_true rfl) (dAt zX0_init_0 11 rfl) (fun H locs hP hD hS => ?_)
  have hP : va_P D vwCl (([(b0, .inr (0, [.ref r7, .long 0, .long 0, .long 0]))] : va_W) ++ (wAJ cJ r7 11 (fun _ => 0))) H := hP
  have hD : va_D A (([(b0, .inr (0, [.ref r7, .long 0, .long 0, .long 0]))] : va_W) ++ (wAJ cJ r7 11 (fun _ => 0))) := hD
  refine lv_aload_n hx hb (dAt zX0_init_0 12 rfl) rfl (lv_at hl 0 rfl) ?_
  refine lv_lconst (v := 1) hx hb (dAt zX0_init_0 13 rfl) (by decide) ?_
  refine va_put (D := D) (ci := 0) (v := .long 1) (ty := .long) (C := RX0) (T := TX0) (N := 4) hx hb htl inlX0 tyX0 tyX0_ok nmX0 hown hK hP hD hS 0 rfl rfl 3 (by decide) (htl _ W_80) (fun _ h9 => h9) rfl (by decide +kernel) rfl rfl (Nat.le_of_ble_eq_true rfl) (dAt zX0_init_0 14 rfl) (fun H locs hP hD hS => ?_)
  have hP : va_P D vwCl (([(b0, .inr (0, [.ref r7, .long 0, .long 0, .long 1]))] : va_W) ++ (wAJ cJ r7 11 (fun _ => 0))) H := hP
  have hD : va_D A (([(b0, .inr (0, [.ref r7, .long 0, .long 0, .long 1]))] : va_W) ++ (wAJ cJ r7 11 (fun _ => 0))) := hD
  obtain rfl := q_some h
  have hP : va_P D vwCl (w0 cJ (fun k => match Nat.beq k 1 with | true => r7 | false => b0) (mk0 0 0 1 (fun _ => 0))) H := hP
  have hD : va_D A (w0 cJ (fun k => match Nat.beq k 1 with | true => r7 | false => b0) (mk0 0 0 1 (fun _ => 0))) := hD
  exact xRvI (fun k => match Nat.beq k 1 with | true => r7 | false => b0) hx hb hr hlocks hQ hAe (by simp) hP hD hK hS (dAt zX0_init_0 15 rfl)
def b_X6_init_163 (n : Nat) (zr15_142 : (Nat → Int32)) (s_163 : Int32 × (Nat → Int32)) (k_163 : Int32 × (Nat → Int32) → Option (TI × TL)) : Option (TI × TL) := (if 4 ≤ s_163.1 then some (mk6 1023 0 0 0 0 0 0 0 0 0 0 0 0 0 0 0 (fun _ => 0) zr15_142 s_163.2 (fun _ => 0) (fun _ => 0) (fun _ => 0) (fun _ => 0) (fun _ => 0) (fun _ => 0) (fun _ => 0) (fun _ => 0) (fun _ => 0) (fun _ => 0) (fun _ => 0) (fun _ => 0), mkL6 (fun _ => 0)) else (gd (inB s_163.1 4) ((k_163 ((s_163.1 + 1), (upd s_163.2 (Int32.toNatClampNeg s_163.1) 1))))))
def b_X6_init_142 (n : Nat) (s_142 : Int32 × (Nat → Int32)) (k_142 : Int32 × (Nat → Int32) → Option (TI × TL)) : Option (TI × TL) := (if 100 ≤ s_142.1 then (loopF (b_X6_init_163 n s_142.2 ) n (0, (fun _ => 0))) else (gd (inB s_142.1 100) ((k_142 ((s_142.1 + 1), (upd s_142.2 (Int32.toNatClampNeg s_142.1) 2))))))
noncomputable def m_X6_init (n : Nat) : Option (TI × TL) := (loopF (b_X6_init_142 n ) n (0, (fun _ => 0)))
set_option maxHeartbeats 4000000 in
set_option maxRecDepth 100000 in
theorem c_X6_init (l : Launch) (D : va_G) (cI cJ cZ : ClassId) (n : Nat) (b0 : Nat) (sz : Nat) (out : TI × TL) (hm : m_X6_init n = some out) : Met l yX6_init (wsM yX6_init cX6_init 2 none) { frames := 1, cells := 16, slots := 2167, locals := 12 } (xPre D (kT cI cJ cZ) ([(b0, .inr (6, [.int 0, .int 0, .int 0, .null, .null, .null, .null, .null, .int 0, .null, .int 0, .null, .null, .null, .int 0, .int 0, .int 0, .int 0, .null, .int 0, .int 0, .int 0, .int 0, .int 0, .null, .null, .null, .null, .null, .null, .int 0, .int 0]))] : va_W) sz [.ref b0]) (xQvI D (kT cI cJ cZ) ([(b0, .inr (6, [.int 0, .int 0, .int 0, .null, .null, .null, .null, .null, .int 0, .null, .int 0, .null, .null, .null, .int 0, .int 0, .int 0, .int 0, .null, .int 0, .int 0, .int 0, .int 0, .int 0, .null, .null, .null, .null, .null, .null, .int 0, .int 0]))] : va_W) (fun q : Nat → Nat => (w6 cI cJ cZ q out.1 out.2)) sz (fun q => q 0 = b0)) 16 2167 (va_A ([(b0, .inr (6, [.int 0, .int 0, .int 0, .null, .null, .null, .null, .null, .int 0, .null, .int 0, .null, .null, .null, .int 0, .int 0, .int 0, .int 0, .null, .int 0, .int 0, .int 0, .int 0, .int 0, .null, .null, .null, .null, .null, .null, .int 0, .int 0]))] : va_W) sz) := by
  refine Met.ofW (cc := cX6_init) (maxL := 2) (ret := none) (by decide) rfl ?_
  intro p e s m args below meth c s₁ B hml hv
  obtain ⟨hv, hsz, hP, hK, hD0, hN⟩ := hv
  have hx := B.exec; have hb := B.bytes; have hr := B.returns
  have hts := atoms_spec (ws := (wsM yX6_init cX6_init 2 none)) B.pre
  have hown : s.vm.findClass RX6 = some m.cls := findClass_of_methodNamed B.named
  have hlocks := B.notSynchronized
  have hin : meth.name = "<init>" := (name_of_methodNamed B.named B.method).1
  subst hsz
  have hD := hD0.self (sz := s.heap.size)
  obtain ⟨A, hAe⟩ : ∃ A, A = va_A ([(b0, .inr (6, [.int 0, .int 0, .int 0, .null, .null, .null, .null, .null, .int 0, .null, .int 0, .null, .null, .null, .int 0, .int 0, .int 0, .int 0, .null, .int 0, .int 0, .int 0, .int 0, .int 0, .null, .null, .null, .null, .null, .null, .int 0, .int 0]))] : va_W) s.heap.size := ⟨_, rfl⟩
  rw [← hAe] at hD
  have hA : ∀ q : Nat, s.heap.size ≤ q → A q := fun q h => by rw [hAe]; exact Or.inr h
  have htl : ∀ w ∈ wsL_law, w.before args s = true := fun w h => hts w (List.mem_cons_of_mem _ h)
  refine xHead (R' := { frames := 1, cells := 16, slots := 2167, locals := 12 }) rfl (fun Q H hQ hH => ?_)
  have hP : va_P D vwCl ([(b0, .inr (6, [.int 0, .int 0, .int 0, .null, .null, .null, .null, .null, .int 0, .null, .int 0, .null, .null, .null, .int 0, .int 0, .int 0, .int 0, .null, .int 0, .int 0, .int 0, .int 0, .int 0, .null, .null, .null, .null, .null, .null, .int 0, .int 0]))] : va_W) H := by rw [hH]; exact hP
  have hS : va_S A s.heap H [] := by rw [hH]; exact va_S.rf
  refine xStart hv (Nat.le_of_ble_eq_true rfl) (lv := [(0, .ref b0)]) rfl (fun ls hl => ?_)
  have h := hm
  unfold m_X6_init at h
  refine lv_aload_n hx hb (dAt zX6_init_0 0 rfl) rfl (lv_at hl 0 rfl) ?_
  refine W.objInit hx hb hown (htl _ W_84) (htl _ W_10) (htl _ W_11) rfl (by rw [hml]; exact hl.1) rfl (dAt zX6_init_0 1 rfl) (Nat.le_of_ble_eq_true rfl) (Nat.le_of_ble_eq_true rfl) ?_
  refine W.eq (g2 := F0 m 4 ls []) rfl ?_
  refine lv_aload_n hx hb (dAt zX6_init_0 2 rfl) rfl (lv_at hl 0 rfl) ?_
  refine lv_bipush (v := 100) hx hb (dAt zX6_init_0 3 rfl) (by decide) ?_
  refine xNewI (n := 100) (N' := 100) (hbig := by decide) hx hb (htl _ W_44) hK hP hD hS hA (by decide) (by decide) (Nat.le_of_ble_eq_true rfl) (Nat.le_of_ble_eq_true rfl) (dAt zX6_init_0 4 rfl) (fun r7 H hP hD hS => ?_)
  have hP : va_P D vwCl (([(b0, .inr (6, [.int 0, .int 0, .int 0, .null, .null, .null, .null, .null, .int 0, .null, .int 0, .null, .null, .null, .int 0, .int 0, .int 0, .int 0, .null, .int 0, .int 0, .int 0, .int 0, .int 0, .null, .null, .null, .null, .null, .null, .int 0, .int 0]))] : va_W) ++ (wA cI r7 100 (fun _ => 0))) H := hP
  have hD : va_D A (([(b0, .inr (6, [.int 0, .int 0, .int 0, .null, .null, .null, .null, .null, .int 0, .null, .int 0, .null, .null, .null, .int 0, .int 0, .int 0, .int 0, .null, .int 0, .int 0, .int 0, .int 0, .int 0, .null, .null, .null, .null, .null, .null, .int 0, .int 0]))] : va_W) ++ (wA cI r7 100 (fun _ => 0))) := hD
  refine W.widen (k := 1) (n := 100) (by omega) (by omega) ?_
  refine va_putF (D := D) (ci := 6) (v := .ref r7) (ty := (.array .int)) (C := RX6) (T := TX6) (N := 32) hx hb htl inlX6 tyX6 tyX6_ok nmX6 hown hK hP hD hS 0 rfl rfl 3 (by decide) (htl _ W_85) (fun _ h9 => h9) rfl hin rfl (by decide +kernel) rfl rfl (Nat.le_of_ble_eq_true rfl) (dAt zX6_init_0 5 rfl) (fun H locs hP hD hS => ?_)
  have hP : va_P D vwCl (([(b0, .inr (6, [.int 0, .int 0, .int 0, .ref r7, .null, .null, .null, .null, .int 0, .null, .int 0, .null, .null, .null, .int 0, .int 0, .int 0, .int 0, .null, .int 0, .int 0, .int 0, .int 0, .int 0, .null, .null, .null, .null, .null, .null, .int 0, .int 0]))] : va_W) ++ (wA cI r7 100 (fun _ => 0))) H := hP
  have hD : va_D A (([(b0, .inr (6, [.int 0, .int 0, .int 0, .ref r7, .null, .null, .null, .null, .int 0, .null, .int 0, .null, .null, .null, .int 0, .int 0, .int 0, .int 0, .null, .int 0, .int 0, .int 0, .int 0, .int 0, .null, .null, .null, .null, .null, .null, .int 0, .int 0]))] : va_W) ++ (wA cI r7 100 (fun _ => 0))) := hD
  refine lv_aload_n hx hb (dAt zX6_init_0 6 rfl) rfl (lv_at hl 0 rfl) ?_
  refine lv_bipush (v := 100) hx hb (dAt zX6_init_0 7 rfl) (by decide) ?_
  refine xNewI (n := 100) (N' := 100) (hbig := by decide) hx hb (htl _ W_44) hK hP hD hS hA (by decide) (by decide) (Nat.le_of_ble_eq_true rfl) (Nat.le_of_ble_eq_true rfl) (dAt zX6_init_0 8 rfl) (fun r15 H hP hD hS => ?_)
  have hP : va_P D vwCl (([(b0, .inr (6, [.int 0, .int 0, .int 0, .ref r7, .null, .null, .null, .null, .int 0, .null, .int 0, .null, .null, .null, .int 0, .int 0, .int 0, .int 0, .null, .int 0, .int 0, .int 0, .int 0, .int 0, .null, .null, .null, .null, .null, .null, .int 0, .int 0]))] : va_W) ++ (wA cI r7 100 (fun _ => 0) ++ (wA cI r15 100 (fun _ => 0)))) H := hP
  have hD : va_D A (([(b0, .inr (6, [.int 0, .int 0, .int 0, .ref r7, .null, .null, .null, .null, .int 0, .null, .int 0, .null, .null, .null, .int 0, .int 0, .int 0, .int 0, .null, .int 0, .int 0, .int 0, .int 0, .int 0, .null, .null, .null, .null, .null, .null, .int 0, .int 0]))] : va_W) ++ (wA cI r7 100 (fun _ => 0) ++ (wA cI r15 100 (fun _ => 0)))) := hD
  refine W.widen (k := 2) (n := 200) (by omega) (by omega) ?_
  refine va_putF (D := D) (ci := 6) (v := .ref r15) (ty := (.array .int)) (C := RX6) (T := TX6) (N := 32) hx hb htl inlX6 tyX6 tyX6_ok nmX6 hown hK hP hD hS 0 rfl rfl 4 (by decide) (htl _ W_86) (fun _ h9 => h9) rfl hin rfl (by decide +kernel) rfl rfl (Nat.le_of_ble_eq_true rfl) (dAt zX6_init_0 9 rfl) (fun H locs hP hD hS => ?_)
  have hP : va_P D vwCl (([(b0, .inr (6, [.int 0, .int 0, .int 0, .ref r7, .ref r15, .null, .null, .null, .int 0, .null, .int 0, .null, .null, .null, .int 0, .int 0, .int 0, .int 0, .null, .int 0, .int 0, .int 0, .int 0, .int 0, .null, .null, .null, .null, .null, .null, .int 0, .int 0]))] : va_W) ++ (wA cI r7 100 (fun _ => 0) ++ (wA cI r15 100 (fun _ => 0)))) H := hP
  have hD : va_D A (([(b0, .inr (6, [.int 0, .int 0, .int 0, .ref r7, .ref r15, .null, .null, .null, .int 0, .null, .int 0, .null, .null, .null, .int 0, .int 0, .int 0, .int 0, .null, .int 0, .int 0, .int 0, .int 0, .int 0, .null, .null, .null, .null, .null, .null, .int 0, .int 0]))] : va_W) ++ (wA cI r7 100 (fun _ => 0) ++ (wA cI r15 100 (fun _ => 0)))) := hD
  refine lv_aload_n hx hb (dAt zX6_init_0 10 rfl) rfl (lv_at hl 0 rfl) ?_
  refine lv_iconst (v := 4) hx hb (dAt zX6_init_0 11 rfl) (by decide) ?_
  refine xNewI (n := 4) (N' := 4) (hbig := by decide) hx hb (htl _ W_44) hK hP hD hS hA (by decide) (by decide) (Nat.le_of_ble_eq_true rfl) (Nat.le_of_ble_eq_true rfl) (dAt zX6_init_0 12 rfl) (fun r22 H hP hD hS => ?_)
  have hP : va_P D vwCl (([(b0, .inr (6, [.int 0, .int 0, .int 0, .ref r7, .ref r15, .null, .null, .null, .int 0, .null, .int 0, .null, .null, .null, .int 0, .int 0, .int 0, .int 0, .null, .int 0, .int 0, .int 0, .int 0, .int 0, .null, .null, .null, .null, .null, .null, .int 0, .int 0]))] : va_W) ++ (wA cI r7 100 (fun _ => 0) ++ (wA cI r15 100 (fun _ => 0) ++ (wA cI r22 4 (fun _ => 0))))) H := hP
  have hD : va_D A (([(b0, .inr (6, [.int 0, .int 0, .int 0, .ref r7, .ref r15, .null, .null, .null, .int 0, .null, .int 0, .null, .null, .null, .int 0, .int 0, .int 0, .int 0, .null, .int 0, .int 0, .int 0, .int 0, .int 0, .null, .null, .null, .null, .null, .null, .int 0, .int 0]))] : va_W) ++ (wA cI r7 100 (fun _ => 0) ++ (wA cI r15 100 (fun _ => 0) ++ (wA cI r22 4 (fun _ => 0))))) := hD
  refine W.widen (k := 3) (n := 204) (by omega) (by omega) ?_
  refine va_putF (D := D) (ci := 6) (v := .ref r22) (ty := (.array .int)) (C := RX6) (T := TX6) (N := 32) hx hb htl inlX6 tyX6 tyX6_ok nmX6 hown hK hP hD hS 0 rfl rfl 5 (by decide) (htl _ W_87) (fun _ h9 => h9) rfl hin rfl (by decide +kernel) rfl rfl (Nat.le_of_ble_eq_true rfl) (dAt zX6_init_0 13 rfl) (fun H locs hP hD hS => ?_)
  have hP : va_P D vwCl (([(b0, .inr (6, [.int 0, .int 0, .int 0, .ref r7, .ref r15, .ref r22, .null, .null, .int 0, .null, .int 0, .null, .null, .null, .int 0, .int 0, .int 0, .int 0, .null, .int 0, .int 0, .int 0, .int 0, .int 0, .null, .null, .null, .null, .null, .null, .int 0, .int 0]))] : va_W) ++ (wA cI r7 100 (fun _ => 0) ++ (wA cI r15 100 (fun _ => 0) ++ (wA cI r22 4 (fun _ => 0))))) H := hP
  have hD : va_D A (([(b0, .inr (6, [.int 0, .int 0, .int 0, .ref r7, .ref r15, .ref r22, .null, .null, .int 0, .null, .int 0, .null, .null, .null, .int 0, .int 0, .int 0, .int 0, .null, .int 0, .int 0, .int 0, .int 0, .int 0, .null, .null, .null, .null, .null, .null, .int 0, .int 0]))] : va_W) ++ (wA cI r7 100 (fun _ => 0) ++ (wA cI r15 100 (fun _ => 0) ++ (wA cI r22 4 (fun _ => 0))))) := hD
  refine lv_aload_n hx hb (dAt zX6_init_0 14 rfl) rfl (lv_at hl 0 rfl) ?_
  refine lv_bipush (v := 8) hx hb (dAt zX6_init_0 15 rfl) (by decide) ?_
  refine xNewI (n := 8) (N' := 8) (hbig := by decide) hx hb (htl _ W_44) hK hP hD hS hA (by decide) (by decide) (Nat.le_of_ble_eq_true rfl) (Nat.le_of_ble_eq_true rfl) (dAt zX6_init_0 16 rfl) (fun r30 H hP hD hS => ?_)
  have hP : va_P D vwCl (([(b0, .inr (6, [.int 0, .int 0, .int 0, .ref r7, .ref r15, .ref r22, .null, .null, .int 0, .null, .int 0, .null, .null, .null, .int 0, .int 0, .int 0, .int 0, .null, .int 0, .int 0, .int 0, .int 0, .int 0, .null, .null, .null, .null, .null, .null, .int 0, .int 0]))] : va_W) ++ (wA cI r7 100 (fun _ => 0) ++ (wA cI r15 100 (fun _ => 0) ++ (wA cI r22 4 (fun _ => 0) ++ (wA cI r30 8 (fun _ => 0)))))) H := hP
  have hD : va_D A (([(b0, .inr (6, [.int 0, .int 0, .int 0, .ref r7, .ref r15, .ref r22, .null, .null, .int 0, .null, .int 0, .null, .null, .null, .int 0, .int 0, .int 0, .int 0, .null, .int 0, .int 0, .int 0, .int 0, .int 0, .null, .null, .null, .null, .null, .null, .int 0, .int 0]))] : va_W) ++ (wA cI r7 100 (fun _ => 0) ++ (wA cI r15 100 (fun _ => 0) ++ (wA cI r22 4 (fun _ => 0) ++ (wA cI r30 8 (fun _ => 0)))))) := hD
  refine W.widen (k := 4) (n := 212) (by omega) (by omega) ?_
  refine va_putF (D := D) (ci := 6) (v := .ref r30) (ty := (.array .int)) (C := RX6) (T := TX6) (N := 32) hx hb htl inlX6 tyX6 tyX6_ok nmX6 hown hK hP hD hS 0 rfl rfl 6 (by decide) (htl _ W_88) (fun _ h9 => h9) rfl hin rfl (by decide +kernel) rfl rfl (Nat.le_of_ble_eq_true rfl) (dAt zX6_init_0 17 rfl) (fun H locs hP hD hS => ?_)
  have hP : va_P D vwCl (([(b0, .inr (6, [.int 0, .int 0, .int 0, .ref r7, .ref r15, .ref r22, .ref r30, .null, .int 0, .null, .int 0, .null, .null, .null, .int 0, .int 0, .int 0, .int 0, .null, .int 0, .int 0, .int 0, .int 0, .int 0, .null, .null, .null, .null, .null, .null, .int 0, .int 0]))] : va_W) ++ (wA cI r7 100 (fun _ => 0) ++ (wA cI r15 100 (fun _ => 0) ++ (wA cI r22 4 (fun _ => 0) ++ (wA cI r30 8 (fun _ => 0)))))) H := hP
  have hD : va_D A (([(b0, .inr (6, [.int 0, .int 0, .int 0, .ref r7, .ref r15, .ref r22, .ref r30, .null, .int 0, .null, .int 0, .null, .null, .null, .int 0, .int 0, .int 0, .int 0, .null, .int 0, .int 0, .int 0, .int 0, .int 0, .null, .null, .null, .null, .null, .null, .int 0, .int 0]))] : va_W) ++ (wA cI r7 100 (fun _ => 0) ++ (wA cI r15 100 (fun _ => 0) ++ (wA cI r22 4 (fun _ => 0) ++ (wA cI r30 8 (fun _ => 0)))))) := hD
  refine lv_aload_n hx hb (dAt zX6_init_0 18 rfl) rfl (lv_at hl 0 rfl) ?_
  refine lv_bipush (v := 8) hx hb (dAt zX6_init_0 19 rfl) (by decide) ?_
  refine xNewI (n := 8) (N' := 8) (hbig := by decide) hx hb (htl _ W_44) hK hP hD hS hA (by decide) (by decide) (Nat.le_of_ble_eq_true rfl) (Nat.le_of_ble_eq_true rfl) (dAt zX6_init_0 20 rfl) (fun r38 H hP hD hS => ?_)
  have hP : va_P D vwCl (([(b0, .inr (6, [.int 0, .int 0, .int 0, .ref r7, .ref r15, .ref r22, .ref r30, .null, .int 0, .null, .int 0, .null, .null, .null, .int 0, .int 0, .int 0, .int 0, .null, .int 0, .int 0, .int 0, .int 0, .int 0, .null, .null, .null, .null, .null, .null, .int 0, .int 0]))] : va_W) ++ (wA cI r7 100 (fun _ => 0) ++ (wA cI r15 100 (fun _ => 0) ++ (wA cI r22 4 (fun _ => 0) ++ (wA cI r30 8 (fun _ => 0) ++ (wA cI r38 8 (fun _ => 0))))))) H := hP
  have hD : va_D A (([(b0, .inr (6, [.int 0, .int 0, .int 0, .ref r7, .ref r15, .ref r22, .ref r30, .null, .int 0, .null, .int 0, .null, .null, .null, .int 0, .int 0, .int 0, .int 0, .null, .int 0, .int 0, .int 0, .int 0, .int 0, .null, .null, .null, .null, .null, .null, .int 0, .int 0]))] : va_W) ++ (wA cI r7 100 (fun _ => 0) ++ (wA cI r15 100 (fun _ => 0) ++ (wA cI r22 4 (fun _ => 0) ++ (wA cI r30 8 (fun _ => 0) ++ (wA cI r38 8 (fun _ => 0))))))) := hD
  refine W.widen (k := 5) (n := 220) (by omega) (by omega) ?_
  refine va_putF (D := D) (ci := 6) (v := .ref r38) (ty := (.array .int)) (C := RX6) (T := TX6) (N := 32) hx hb htl inlX6 tyX6 tyX6_ok nmX6 hown hK hP hD hS 0 rfl rfl 7 (by decide) (htl _ W_89) (fun _ h9 => h9) rfl hin rfl (by decide +kernel) rfl rfl (Nat.le_of_ble_eq_true rfl) (dAt zX6_init_0 21 rfl) (fun H locs hP hD hS => ?_)
  have hP : va_P D vwCl (([(b0, .inr (6, [.int 0, .int 0, .int 0, .ref r7, .ref r15, .ref r22, .ref r30, .ref r38, .int 0, .null, .int 0, .null, .null, .null, .int 0, .int 0, .int 0, .int 0, .null, .int 0, .int 0, .int 0, .int 0, .int 0, .null, .null, .null, .null, .null, .null, .int 0, .int 0]))] : va_W) ++ (wA cI r7 100 (fun _ => 0) ++ (wA cI r15 100 (fun _ => 0) ++ (wA cI r22 4 (fun _ => 0) ++ (wA cI r30 8 (fun _ => 0) ++ (wA cI r38 8 (fun _ => 0))))))) H := hP
  have hD : va_D A (([(b0, .inr (6, [.int 0, .int 0, .int 0, .ref r7, .ref r15, .ref r22, .ref r30, .ref r38, .int 0, .null, .int 0, .null, .null, .null, .int 0, .int 0, .int 0, .int 0, .null, .int 0, .int 0, .int 0, .int 0, .int 0, .null, .null, .null, .null, .null, .null, .int 0, .int 0]))] : va_W) ++ (wA cI r7 100 (fun _ => 0) ++ (wA cI r15 100 (fun _ => 0) ++ (wA cI r22 4 (fun _ => 0) ++ (wA cI r30 8 (fun _ => 0) ++ (wA cI r38 8 (fun _ => 0))))))) := hD
  refine lv_aload_n hx hb (dAt zX6_init_0 22 rfl) rfl (lv_at hl 0 rfl) ?_
  refine lv_bipush (v := 60) hx hb (dAt zX6_init_0 23 rfl) (by decide) ?_
  refine xNewI (n := 60) (N' := 60) (hbig := by decide) hx hb (htl _ W_44) hK hP hD hS hA (by decide) (by decide) (Nat.le_of_ble_eq_true rfl) (Nat.le_of_ble_eq_true rfl) (dAt zX6_init_0 24 rfl) (fun r46 H hP hD hS => ?_)
  have hP : va_P D vwCl (([(b0, .inr (6, [.int 0, .int 0, .int 0, .ref r7, .ref r15, .ref r22, .ref r30, .ref r38, .int 0, .null, .int 0, .null, .null, .null, .int 0, .int 0, .int 0, .int 0, .null, .int 0, .int 0, .int 0, .int 0, .int 0, .null, .null, .null, .null, .null, .null, .int 0, .int 0]))] : va_W) ++ (wA cI r7 100 (fun _ => 0) ++ (wA cI r15 100 (fun _ => 0) ++ (wA cI r22 4 (fun _ => 0) ++ (wA cI r30 8 (fun _ => 0) ++ (wA cI r38 8 (fun _ => 0) ++ (wA cI r46 60 (fun _ => 0)))))))) H := hP
  have hD : va_D A (([(b0, .inr (6, [.int 0, .int 0, .int 0, .ref r7, .ref r15, .ref r22, .ref r30, .ref r38, .int 0, .null, .int 0, .null, .null, .null, .int 0, .int 0, .int 0, .int 0, .null, .int 0, .int 0, .int 0, .int 0, .int 0, .null, .null, .null, .null, .null, .null, .int 0, .int 0]))] : va_W) ++ (wA cI r7 100 (fun _ => 0) ++ (wA cI r15 100 (fun _ => 0) ++ (wA cI r22 4 (fun _ => 0) ++ (wA cI r30 8 (fun _ => 0) ++ (wA cI r38 8 (fun _ => 0) ++ (wA cI r46 60 (fun _ => 0)))))))) := hD
  refine W.widen (k := 6) (n := 280) (by omega) (by omega) ?_
  refine va_putF (D := D) (ci := 6) (v := .ref r46) (ty := (.array .int)) (C := RX6) (T := TX6) (N := 32) hx hb htl inlX6 tyX6 tyX6_ok nmX6 hown hK hP hD hS 0 rfl rfl 9 (by decide) (htl _ W_90) (fun _ h9 => h9) rfl hin rfl (by decide +kernel) rfl rfl (Nat.le_of_ble_eq_true rfl) (dAt zX6_init_0 25 rfl) (fun H locs hP hD hS => ?_)
  have hP : va_P D vwCl (([(b0, .inr (6, [.int 0, .int 0, .int 0, .ref r7, .ref r15, .ref r22, .ref r30, .ref r38, .int 0, .ref r46, .int 0, .null, .null, .null, .int 0, .int 0, .int 0, .int 0, .null, .int 0, .int 0, .int 0, .int 0, .int 0, .null, .null, .null, .null, .null, .null, .int 0, .int 0]))] : va_W) ++ (wA cI r7 100 (fun _ => 0) ++ (wA cI r15 100 (fun _ => 0) ++ (wA cI r22 4 (fun _ => 0) ++ (wA cI r30 8 (fun _ => 0) ++ (wA cI r38 8 (fun _ => 0) ++ (wA cI r46 60 (fun _ => 0)))))))) H := hP
  have hD : va_D A (([(b0, .inr (6, [.int 0, .int 0, .int 0, .ref r7, .ref r15, .ref r22, .ref r30, .ref r38, .int 0, .ref r46, .int 0, .null, .null, .null, .int 0, .int 0, .int 0, .int 0, .null, .int 0, .int 0, .int 0, .int 0, .int 0, .null, .null, .null, .null, .null, .null, .int 0, .int 0]))] : va_W) ++ (wA cI r7 100 (fun _ => 0) ++ (wA cI r15 100 (fun _ => 0) ++ (wA cI r22 4 (fun _ => 0) ++ (wA cI r30 8 (fun _ => 0) ++ (wA cI r38 8 (fun _ => 0) ++ (wA cI r46 60 (fun _ => 0)))))))) := hD
  refine lv_aload_n hx hb (dAt zX6_init_0 26 rfl) rfl (lv_at hl 0 rfl) ?_
  refine lv_bipush (v := 60) hx hb (dAt zX6_init_0 27 rfl) (by decide) ?_
  refine xNewI (n := 60) (N' := 60) (hbig := by decide) hx hb (htl _ W_44) hK hP hD hS hA (by decide) (by decide) (Nat.le_of_ble_eq_true rfl) (Nat.le_of_ble_eq_true rfl) (dAt zX6_init_0 28 rfl) (fun r54 H hP hD hS => ?_)
  have hP : va_P D vwCl (([(b0, .inr (6, [.int 0, .int 0, .int 0, .ref r7, .ref r15, .ref r22, .ref r30, .ref r38, .int 0, .ref r46, .int 0, .null, .null, .null, .int 0, .int 0, .int 0, .int 0, .null, .int 0, .int 0, .int 0, .int 0, .int 0, .null, .null, .null, .null, .null, .null, .int 0, .int 0]))] : va_W) ++ (wA cI r7 100 (fun _ => 0) ++ (wA cI r15 100 (fun _ => 0) ++ (wA cI r22 4 (fun _ => 0) ++ (wA cI r30 8 (fun _ => 0) ++ (wA cI r38 8 (fun _ => 0) ++ (wA cI r46 60 (fun _ => 0) ++ (wA cI r54 60 (fun _ => 0))))))))) H := hP
  have hD : va_D A (([(b0, .inr (6, [.int 0, .int 0, .int 0, .ref r7, .ref r15, .ref r22, .ref r30, .ref r38, .int 0, .ref r46, .int 0, .null, .null, .null, .int 0, .int 0, .int 0, .int 0, .null, .int 0, .int 0, .int 0, .int 0, .int 0, .null, .null, .null, .null, .null, .null, .int 0, .int 0]))] : va_W) ++ (wA cI r7 100 (fun _ => 0) ++ (wA cI r15 100 (fun _ => 0) ++ (wA cI r22 4 (fun _ => 0) ++ (wA cI r30 8 (fun _ => 0) ++ (wA cI r38 8 (fun _ => 0) ++ (wA cI r46 60 (fun _ => 0) ++ (wA cI r54 60 (fun _ => 0))))))))) := hD
  refine W.widen (k := 7) (n := 340) (by omega) (by omega) ?_
  refine va_putF (D := D) (ci := 6) (v := .ref r54) (ty := (.array .int)) (C := RX6) (T := TX6) (N := 32) hx hb htl inlX6 tyX6 tyX6_ok nmX6 hown hK hP hD hS 0 rfl rfl 11 (by decide) (htl _ W_91) (fun _ h9 => h9) rfl hin rfl (by decide +kernel) rfl rfl (Nat.le_of_ble_eq_true rfl) (dAt zX6_init_0 29 rfl) (fun H locs hP hD hS => ?_)
  have hP : va_P D vwCl (([(b0, .inr (6, [.int 0, .int 0, .int 0, .ref r7, .ref r15, .ref r22, .ref r30, .ref r38, .int 0, .ref r46, .int 0, .ref r54, .null, .null, .int 0, .int 0, .int 0, .int 0, .null, .int 0, .int 0, .int 0, .int 0, .int 0, .null, .null, .null, .null, .null, .null, .int 0, .int 0]))] : va_W) ++ (wA cI r7 100 (fun _ => 0) ++ (wA cI r15 100 (fun _ => 0) ++ (wA cI r22 4 (fun _ => 0) ++ (wA cI r30 8 (fun _ => 0) ++ (wA cI r38 8 (fun _ => 0) ++ (wA cI r46 60 (fun _ => 0) ++ (wA cI r54 60 (fun _ => 0))))))))) H := hP
  have hD : va_D A (([(b0, .inr (6, [.int 0, .int 0, .int 0, .ref r7, .ref r15, .ref r22, .ref r30, .ref r38, .int 0, .ref r46, .int 0, .ref r54, .null, .null, .int 0, .int 0, .int 0, .int 0, .null, .int 0, .int 0, .int 0, .int 0, .int 0, .null, .null, .null, .null, .null, .null, .int 0, .int 0]))] : va_W) ++ (wA cI r7 100 (fun _ => 0) ++ (wA cI r15 100 (fun _ => 0) ++ (wA cI r22 4 (fun _ => 0) ++ (wA cI r30 8 (fun _ => 0) ++ (wA cI r38 8 (fun _ => 0) ++ (wA cI r46 60 (fun _ => 0) ++ (wA cI r54 60 (fun _ => 0))))))))) := hD
  refine lv_aload_n hx hb (dAt zX6_init_0 30 rfl) rfl (lv_at hl 0 rfl) ?_
  refine lv_bipush (v := 60) hx hb (dAt zX6_init_0 31 rfl) (by decide) ?_
  refine xNewI (n := 60) (N' := 60) (hbig := by decide) hx hb (htl _ W_44) hK hP hD hS hA (by decide) (by decide) (Nat.le_of_ble_eq_true rfl) (Nat.le_of_ble_eq_true rfl) (dAt zX6_init_0 32 rfl) (fun r62 H hP hD hS => ?_)
  have hP : va_P D vwCl (([(b0, .inr (6, [.int 0, .int 0, .int 0, .ref r7, .ref r15, .ref r22, .ref r30, .ref r38, .int 0, .ref r46, .int 0, .ref r54, .null, .null, .int 0, .int 0, .int 0, .int 0, .null, .int 0, .int 0, .int 0, .int 0, .int 0, .null, .null, .null, .null, .null, .null, .int 0, .int 0]))] : va_W) ++ (wA cI r7 100 (fun _ => 0) ++ (wA cI r15 100 (fun _ => 0) ++ (wA cI r22 4 (fun _ => 0) ++ (wA cI r30 8 (fun _ => 0) ++ (wA cI r38 8 (fun _ => 0) ++ (wA cI r46 60 (fun _ => 0) ++ (wA cI r54 60 (fun _ => 0) ++ (wA cI r62 60 (fun _ => 0)))))))))) H := hP
  have hD : va_D A (([(b0, .inr (6, [.int 0, .int 0, .int 0, .ref r7, .ref r15, .ref r22, .ref r30, .ref r38, .int 0, .ref r46, .int 0, .ref r54, .null, .null, .int 0, .int 0, .int 0, .int 0, .null, .int 0, .int 0, .int 0, .int 0, .int 0, .null, .null, .null, .null, .null, .null, .int 0, .int 0]))] : va_W) ++ (wA cI r7 100 (fun _ => 0) ++ (wA cI r15 100 (fun _ => 0) ++ (wA cI r22 4 (fun _ => 0) ++ (wA cI r30 8 (fun _ => 0) ++ (wA cI r38 8 (fun _ => 0) ++ (wA cI r46 60 (fun _ => 0) ++ (wA cI r54 60 (fun _ => 0) ++ (wA cI r62 60 (fun _ => 0)))))))))) := hD
  refine W.widen (k := 8) (n := 400) (by omega) (by omega) ?_
  refine va_putF (D := D) (ci := 6) (v := .ref r62) (ty := (.array .int)) (C := RX6) (T := TX6) (N := 32) hx hb htl inlX6 tyX6 tyX6_ok nmX6 hown hK hP hD hS 0 rfl rfl 12 (by decide) (htl _ W_92) (fun _ h9 => h9) rfl hin rfl (by decide +kernel) rfl rfl (Nat.le_of_ble_eq_true rfl) (dAt zX6_init_0 33 rfl) (fun H locs hP hD hS => ?_)
  have hP : va_P D vwCl (([(b0, .inr (6, [.int 0, .int 0, .int 0, .ref r7, .ref r15, .ref r22, .ref r30, .ref r38, .int 0, .ref r46, .int 0, .ref r54, .ref r62, .null, .int 0, .int 0, .int 0, .int 0, .null, .int 0, .int 0, .int 0, .int 0, .int 0, .null, .null, .null, .null, .null, .null, .int 0, .int 0]))] : va_W) ++ (wA cI r7 100 (fun _ => 0) ++ (wA cI r15 100 (fun _ => 0) ++ (wA cI r22 4 (fun _ => 0) ++ (wA cI r30 8 (fun _ => 0) ++ (wA cI r38 8 (fun _ => 0) ++ (wA cI r46 60 (fun _ => 0) ++ (wA cI r54 60 (fun _ => 0) ++ (wA cI r62 60 (fun _ => 0)))))))))) H := hP
  have hD : va_D A (([(b0, .inr (6, [.int 0, .int 0, .int 0, .ref r7, .ref r15, .ref r22, .ref r30, .ref r38, .int 0, .ref r46, .int 0, .ref r54, .ref r62, .null, .int 0, .int 0, .int 0, .int 0, .null, .int 0, .int 0, .int 0, .int 0, .int 0, .null, .null, .null, .null, .null, .null, .int 0, .int 0]))] : va_W) ++ (wA cI r7 100 (fun _ => 0) ++ (wA cI r15 100 (fun _ => 0) ++ (wA cI r22 4 (fun _ => 0) ++ (wA cI r30 8 (fun _ => 0) ++ (wA cI r38 8 (fun _ => 0) ++ (wA cI r46 60 (fun _ => 0) ++ (wA cI r54 60 (fun _ => 0) ++ (wA cI r62 60 (fun _ => 0)))))))))) := hD
  refine lv_aload_n hx hb (dAt zX6_init_0 34 rfl) rfl (lv_at hl 0 rfl) ?_
  refine lv_bipush (v := 60) hx hb (dAt zX6_init_0 35 rfl) (by decide) ?_
  refine xNewI (n := 60) (N' := 60) (hbig := by decide) hx hb (htl _ W_44) hK hP hD hS hA (by decide) (by decide) (Nat.le_of_ble_eq_true rfl) (Nat.le_of_ble_eq_true rfl) (dAt zX6_init_0 36 rfl) (fun r70 H hP hD hS => ?_)
  have hP : va_P D vwCl (([(b0, .inr (6, [.int 0, .int 0, .int 0, .ref r7, .ref r15, .ref r22, .ref r30, .ref r38, .int 0, .ref r46, .int 0, .ref r54, .ref r62, .null, .int 0, .int 0, .int 0, .int 0, .null, .int 0, .int 0, .int 0, .int 0, .int 0, .null, .null, .null, .null, .null, .null, .int 0, .int 0]))] : va_W) ++ (wA cI r7 100 (fun _ => 0) ++ (wA cI r15 100 (fun _ => 0) ++ (wA cI r22 4 (fun _ => 0) ++ (wA cI r30 8 (fun _ => 0) ++ (wA cI r38 8 (fun _ => 0) ++ (wA cI r46 60 (fun _ => 0) ++ (wA cI r54 60 (fun _ => 0) ++ (wA cI r62 60 (fun _ => 0) ++ (wA cI r70 60 (fun _ => 0))))))))))) H := hP
  have hD : va_D A (([(b0, .inr (6, [.int 0, .int 0, .int 0, .ref r7, .ref r15, .ref r22, .ref r30, .ref r38, .int 0, .ref r46, .int 0, .ref r54, .ref r62, .null, .int 0, .int 0, .int 0, .int 0, .null, .int 0, .int 0, .int 0, .int 0, .int 0, .null, .null, .null, .null, .null, .null, .int 0, .int 0]))] : va_W) ++ (wA cI r7 100 (fun _ => 0) ++ (wA cI r15 100 (fun _ => 0) ++ (wA cI r22 4 (fun _ => 0) ++ (wA cI r30 8 (fun _ => 0) ++ (wA cI r38 8 (fun _ => 0) ++ (wA cI r46 60 (fun _ => 0) ++ (wA cI r54 60 (fun _ => 0) ++ (wA cI r62 60 (fun _ => 0) ++ (wA cI r70 60 (fun _ => 0))))))))))) := hD
  refine W.widen (k := 9) (n := 460) (by omega) (by omega) ?_
  refine va_putF (D := D) (ci := 6) (v := .ref r70) (ty := (.array .int)) (C := RX6) (T := TX6) (N := 32) hx hb htl inlX6 tyX6 tyX6_ok nmX6 hown hK hP hD hS 0 rfl rfl 13 (by decide) (htl _ W_93) (fun _ h9 => h9) rfl hin rfl (by decide +kernel) rfl rfl (Nat.le_of_ble_eq_true rfl) (dAt zX6_init_0 37 rfl) (fun H locs hP hD hS => ?_)
  have hP : va_P D vwCl (([(b0, .inr (6, [.int 0, .int 0, .int 0, .ref r7, .ref r15, .ref r22, .ref r30, .ref r38, .int 0, .ref r46, .int 0, .ref r54, .ref r62, .ref r70, .int 0, .int 0, .int 0, .int 0, .null, .int 0, .int 0, .int 0, .int 0, .int 0, .null, .null, .null, .null, .null, .null, .int 0, .int 0]))] : va_W) ++ (wA cI r7 100 (fun _ => 0) ++ (wA cI r15 100 (fun _ => 0) ++ (wA cI r22 4 (fun _ => 0) ++ (wA cI r30 8 (fun _ => 0) ++ (wA cI r38 8 (fun _ => 0) ++ (wA cI r46 60 (fun _ => 0) ++ (wA cI r54 60 (fun _ => 0) ++ (wA cI r62 60 (fun _ => 0) ++ (wA cI r70 60 (fun _ => 0))))))))))) H := hP
  have hD : va_D A (([(b0, .inr (6, [.int 0, .int 0, .int 0, .ref r7, .ref r15, .ref r22, .ref r30, .ref r38, .int 0, .ref r46, .int 0, .ref r54, .ref r62, .ref r70, .int 0, .int 0, .int 0, .int 0, .null, .int 0, .int 0, .int 0, .int 0, .int 0, .null, .null, .null, .null, .null, .null, .int 0, .int 0]))] : va_W) ++ (wA cI r7 100 (fun _ => 0) ++ (wA cI r15 100 (fun _ => 0) ++ (wA cI r22 4 (fun _ => 0) ++ (wA cI r30 8 (fun _ => 0) ++ (wA cI r38 8 (fun _ => 0) ++ (wA cI r46 60 (fun _ => 0) ++ (wA cI r54 60 (fun _ => 0) ++ (wA cI r62 60 (fun _ => 0) ++ (wA cI r70 60 (fun _ => 0))))))))))) := hD
  refine lv_aload_n hx hb (dAt zX6_init_0 38 rfl) rfl (lv_at hl 0 rfl) ?_
  refine lv_sipush (v := 203) hx hb (dAt zX6_init_0 39 rfl) (by decide) ?_
  refine xNewI (n := 203) (N' := 203) (hbig := by decide) hx hb (htl _ W_44) hK hP hD hS hA (by decide) (by decide) (Nat.le_of_ble_eq_true rfl) (Nat.le_of_ble_eq_true rfl) (dAt zX6_init_0 40 rfl) (fun r79 H hP hD hS => ?_)
  have hP : va_P D vwCl (([(b0, .inr (6, [.int 0, .int 0, .int 0, .ref r7, .ref r15, .ref r22, .ref r30, .ref r38, .int 0, .ref r46, .int 0, .ref r54, .ref r62, .ref r70, .int 0, .int 0, .int 0, .int 0, .null, .int 0, .int 0, .int 0, .int 0, .int 0, .null, .null, .null, .null, .null, .null, .int 0, .int 0]))] : va_W) ++ (wA cI r7 100 (fun _ => 0) ++ (wA cI r15 100 (fun _ => 0) ++ (wA cI r22 4 (fun _ => 0) ++ (wA cI r30 8 (fun _ => 0) ++ (wA cI r38 8 (fun _ => 0) ++ (wA cI r46 60 (fun _ => 0) ++ (wA cI r54 60 (fun _ => 0) ++ (wA cI r62 60 (fun _ => 0) ++ (wA cI r70 60 (fun _ => 0) ++ (wA cI r79 203 (fun _ => 0)))))))))))) H := hP
  have hD : va_D A (([(b0, .inr (6, [.int 0, .int 0, .int 0, .ref r7, .ref r15, .ref r22, .ref r30, .ref r38, .int 0, .ref r46, .int 0, .ref r54, .ref r62, .ref r70, .int 0, .int 0, .int 0, .int 0, .null, .int 0, .int 0, .int 0, .int 0, .int 0, .null, .null, .null, .null, .null, .null, .int 0, .int 0]))] : va_W) ++ (wA cI r7 100 (fun _ => 0) ++ (wA cI r15 100 (fun _ => 0) ++ (wA cI r22 4 (fun _ => 0) ++ (wA cI r30 8 (fun _ => 0) ++ (wA cI r38 8 (fun _ => 0) ++ (wA cI r46 60 (fun _ => 0) ++ (wA cI r54 60 (fun _ => 0) ++ (wA cI r62 60 (fun _ => 0) ++ (wA cI r70 60 (fun _ => 0) ++ (wA cI r79 203 (fun _ => 0)))))))))))) := hD
  refine W.widen (k := 10) (n := 663) (by omega) (by omega) ?_
  refine va_putF (D := D) (ci := 6) (v := .ref r79) (ty := (.array .int)) (C := RX6) (T := TX6) (N := 32) hx hb htl inlX6 tyX6 tyX6_ok nmX6 hown hK hP hD hS 0 rfl rfl 18 (by decide) (htl _ W_94) (fun _ h9 => h9) rfl hin rfl (by decide +kernel) rfl rfl (Nat.le_of_ble_eq_true rfl) (dAt zX6_init_0 41 rfl) (fun H locs hP hD hS => ?_)
  have hP : va_P D vwCl (([(b0, .inr (6, [.int 0, .int 0, .int 0, .ref r7, .ref r15, .ref r22, .ref r30, .ref r38, .int 0, .ref r46, .int 0, .ref r54, .ref r62, .ref r70, .int 0, .int 0, .int 0, .int 0, .ref r79, .int 0, .int 0, .int 0, .int 0, .int 0, .null, .null, .null, .null, .null, .null, .int 0, .int 0]))] : va_W) ++ (wA cI r7 100 (fun _ => 0) ++ (wA cI r15 100 (fun _ => 0) ++ (wA cI r22 4 (fun _ => 0) ++ (wA cI r30 8 (fun _ => 0) ++ (wA cI r38 8 (fun _ => 0) ++ (wA cI r46 60 (fun _ => 0) ++ (wA cI r54 60 (fun _ => 0) ++ (wA cI r62 60 (fun _ => 0) ++ (wA cI r70 60 (fun _ => 0) ++ (wA cI r79 203 (fun _ => 0)))))))))))) H := hP
  have hD : va_D A (([(b0, .inr (6, [.int 0, .int 0, .int 0, .ref r7, .ref r15, .ref r22, .ref r30, .ref r38, .int 0, .ref r46, .int 0, .ref r54, .ref r62, .ref r70, .int 0, .int 0, .int 0, .int 0, .ref r79, .int 0, .int 0, .int 0, .int 0, .int 0, .null, .null, .null, .null, .null, .null, .int 0, .int 0]))] : va_W) ++ (wA cI r7 100 (fun _ => 0) ++ (wA cI r15 100 (fun _ => 0) ++ (wA cI r22 4 (fun _ => 0) ++ (wA cI r30 8 (fun _ => 0) ++ (wA cI r38 8 (fun _ => 0) ++ (wA cI r46 60 (fun _ => 0) ++ (wA cI r54 60 (fun _ => 0) ++ (wA cI r62 60 (fun _ => 0) ++ (wA cI r70 60 (fun _ => 0) ++ (wA cI r79 203 (fun _ => 0)))))))))))) := hD
  refine lv_aload_n hx hb (dAt zX6_init_0 42 rfl) rfl (lv_at hl 0 rfl) ?_
  refine lv_bipush (v := 6) hx hb (dAt zX6_init_0 43 rfl) (by decide) ?_
  refine xNewI (n := 6) (N' := 6) (hbig := by decide) hx hb (htl _ W_44) hK hP hD hS hA (by decide) (by decide) (Nat.le_of_ble_eq_true rfl) (Nat.le_of_ble_eq_true rfl) (dAt zX6_init_0 44 rfl) (fun r87 H hP hD hS => ?_)
  have hP : va_P D vwCl (([(b0, .inr (6, [.int 0, .int 0, .int 0, .ref r7, .ref r15, .ref r22, .ref r30, .ref r38, .int 0, .ref r46, .int 0, .ref r54, .ref r62, .ref r70, .int 0, .int 0, .int 0, .int 0, .ref r79, .int 0, .int 0, .int 0, .int 0, .int 0, .null, .null, .null, .null, .null, .null, .int 0, .int 0]))] : va_W) ++ (wA cI r7 100 (fun _ => 0) ++ (wA cI r15 100 (fun _ => 0) ++ (wA cI r22 4 (fun _ => 0) ++ (wA cI r30 8 (fun _ => 0) ++ (wA cI r38 8 (fun _ => 0) ++ (wA cI r46 60 (fun _ => 0) ++ (wA cI r54 60 (fun _ => 0) ++ (wA cI r62 60 (fun _ => 0) ++ (wA cI r70 60 (fun _ => 0) ++ (wA cI r79 203 (fun _ => 0) ++ (wA cI r87 6 (fun _ => 0))))))))))))) H := hP
  have hD : va_D A (([(b0, .inr (6, [.int 0, .int 0, .int 0, .ref r7, .ref r15, .ref r22, .ref r30, .ref r38, .int 0, .ref r46, .int 0, .ref r54, .ref r62, .ref r70, .int 0, .int 0, .int 0, .int 0, .ref r79, .int 0, .int 0, .int 0, .int 0, .int 0, .null, .null, .null, .null, .null, .null, .int 0, .int 0]))] : va_W) ++ (wA cI r7 100 (fun _ => 0) ++ (wA cI r15 100 (fun _ => 0) ++ (wA cI r22 4 (fun _ => 0) ++ (wA cI r30 8 (fun _ => 0) ++ (wA cI r38 8 (fun _ => 0) ++ (wA cI r46 60 (fun _ => 0) ++ (wA cI r54 60 (fun _ => 0) ++ (wA cI r62 60 (fun _ => 0) ++ (wA cI r70 60 (fun _ => 0) ++ (wA cI r79 203 (fun _ => 0) ++ (wA cI r87 6 (fun _ => 0))))))))))))) := hD
  refine W.widen (k := 11) (n := 669) (by omega) (by omega) ?_
  refine va_putF (D := D) (ci := 6) (v := .ref r87) (ty := (.array .int)) (C := RX6) (T := TX6) (N := 32) hx hb htl inlX6 tyX6 tyX6_ok nmX6 hown hK hP hD hS 0 rfl rfl 24 (by decide) (htl _ W_95) (fun _ h9 => h9) rfl hin rfl (by decide +kernel) rfl rfl (Nat.le_of_ble_eq_true rfl) (dAt zX6_init_0 45 rfl) (fun H locs hP hD hS => ?_)
  have hP : va_P D vwCl (([(b0, .inr (6, [.int 0, .int 0, .int 0, .ref r7, .ref r15, .ref r22, .ref r30, .ref r38, .int 0, .ref r46, .int 0, .ref r54, .ref r62, .ref r70, .int 0, .int 0, .int 0, .int 0, .ref r79, .int 0, .int 0, .int 0, .int 0, .int 0, .ref r87, .null, .null, .null, .null, .null, .int 0, .int 0]))] : va_W) ++ (wA cI r7 100 (fun _ => 0) ++ (wA cI r15 100 (fun _ => 0) ++ (wA cI r22 4 (fun _ => 0) ++ (wA cI r30 8 (fun _ => 0) ++ (wA cI r38 8 (fun _ => 0) ++ (wA cI r46 60 (fun _ => 0) ++ (wA cI r54 60 (fun _ => 0) ++ (wA cI r62 60 (fun _ => 0) ++ (wA cI r70 60 (fun _ => 0) ++ (wA cI r79 203 (fun _ => 0) ++ (wA cI r87 6 (fun _ => 0))))))))))))) H := hP
  have hD : va_D A (([(b0, .inr (6, [.int 0, .int 0, .int 0, .ref r7, .ref r15, .ref r22, .ref r30, .ref r38, .int 0, .ref r46, .int 0, .ref r54, .ref r62, .ref r70, .int 0, .int 0, .int 0, .int 0, .ref r79, .int 0, .int 0, .int 0, .int 0, .int 0, .ref r87, .null, .null, .null, .null, .null, .int 0, .int 0]))] : va_W) ++ (wA cI r7 100 (fun _ => 0) ++ (wA cI r15 100 (fun _ => 0) ++ (wA cI r22 4 (fun _ => 0) ++ (wA cI r30 8 (fun _ => 0) ++ (wA cI r38 8 (fun _ => 0) ++ (wA cI r46 60 (fun _ => 0) ++ (wA cI r54 60 (fun _ => 0) ++ (wA cI r62 60 (fun _ => 0) ++ (wA cI r70 60 (fun _ => 0) ++ (wA cI r79 203 (fun _ => 0) ++ (wA cI r87 6 (fun _ => 0))))))))))))) := hD
  refine lv_aload_n hx hb (dAt zX6_init_0 46 rfl) rfl (lv_at hl 0 rfl) ?_
  refine lv_bipush (v := 6) hx hb (dAt zX6_init_0 47 rfl) (by decide) ?_
  refine xNewI (n := 6) (N' := 6) (hbig := by decide) hx hb (htl _ W_44) hK hP hD hS hA (by decide) (by decide) (Nat.le_of_ble_eq_true rfl) (Nat.le_of_ble_eq_true rfl) (dAt zX6_init_0 48 rfl) (fun r95 H hP hD hS => ?_)
  have hP : va_P D vwCl (([(b0, .inr (6, [.int 0, .int 0, .int 0, .ref r7, .ref r15, .ref r22, .ref r30, .ref r38, .int 0, .ref r46, .int 0, .ref r54, .ref r62, .ref r70, .int 0, .int 0, .int 0, .int 0, .ref r79, .int 0, .int 0, .int 0, .int 0, .int 0, .ref r87, .null, .null, .null, .null, .null, .int 0, .int 0]))] : va_W) ++ (wA cI r7 100 (fun _ => 0) ++ (wA cI r15 100 (fun _ => 0) ++ (wA cI r22 4 (fun _ => 0) ++ (wA cI r30 8 (fun _ => 0) ++ (wA cI r38 8 (fun _ => 0) ++ (wA cI r46 60 (fun _ => 0) ++ (wA cI r54 60 (fun _ => 0) ++ (wA cI r62 60 (fun _ => 0) ++ (wA cI r70 60 (fun _ => 0) ++ (wA cI r79 203 (fun _ => 0) ++ (wA cI r87 6 (fun _ => 0) ++ (wA cI r95 6 (fun _ => 0)))))))))))))) H := hP
  have hD : va_D A (([(b0, .inr (6, [.int 0, .int 0, .int 0, .ref r7, .ref r15, .ref r22, .ref r30, .ref r38, .int 0, .ref r46, .int 0, .ref r54, .ref r62, .ref r70, .int 0, .int 0, .int 0, .int 0, .ref r79, .int 0, .int 0, .int 0, .int 0, .int 0, .ref r87, .null, .null, .null, .null, .null, .int 0, .int 0]))] : va_W) ++ (wA cI r7 100 (fun _ => 0) ++ (wA cI r15 100 (fun _ => 0) ++ (wA cI r22 4 (fun _ => 0) ++ (wA cI r30 8 (fun _ => 0) ++ (wA cI r38 8 (fun _ => 0) ++ (wA cI r46 60 (fun _ => 0) ++ (wA cI r54 60 (fun _ => 0) ++ (wA cI r62 60 (fun _ => 0) ++ (wA cI r70 60 (fun _ => 0) ++ (wA cI r79 203 (fun _ => 0) ++ (wA cI r87 6 (fun _ => 0) ++ (wA cI r95 6 (fun _ => 0)))))))))))))) := hD
  refine W.widen (k := 12) (n := 675) (by omega) (by omega) ?_
  refine va_putF (D := D) (ci := 6) (v := .ref r95) (ty := (.array .int)) (C := RX6) (T := TX6) (N := 32) hx hb htl inlX6 tyX6 tyX6_ok nmX6 hown hK hP hD hS 0 rfl rfl 25 (by decide) (htl _ W_96) (fun _ h9 => h9) rfl hin rfl (by decide +kernel) rfl rfl (Nat.le_of_ble_eq_true rfl) (dAt zX6_init_0 49 rfl) (fun H locs hP hD hS => ?_)
  have hP : va_P D vwCl (([(b0, .inr (6, [.int 0, .int 0, .int 0, .ref r7, .ref r15, .ref r22, .ref r30, .ref r38, .int 0, .ref r46, .int 0, .ref r54, .ref r62, .ref r70, .int 0, .int 0, .int 0, .int 0, .ref r79, .int 0, .int 0, .int 0, .int 0, .int 0, .ref r87, .ref r95, .null, .null, .null, .null, .int 0, .int 0]))] : va_W) ++ (wA cI r7 100 (fun _ => 0) ++ (wA cI r15 100 (fun _ => 0) ++ (wA cI r22 4 (fun _ => 0) ++ (wA cI r30 8 (fun _ => 0) ++ (wA cI r38 8 (fun _ => 0) ++ (wA cI r46 60 (fun _ => 0) ++ (wA cI r54 60 (fun _ => 0) ++ (wA cI r62 60 (fun _ => 0) ++ (wA cI r70 60 (fun _ => 0) ++ (wA cI r79 203 (fun _ => 0) ++ (wA cI r87 6 (fun _ => 0) ++ (wA cI r95 6 (fun _ => 0)))))))))))))) H := hP
  have hD : va_D A (([(b0, .inr (6, [.int 0, .int 0, .int 0, .ref r7, .ref r15, .ref r22, .ref r30, .ref r38, .int 0, .ref r46, .int 0, .ref r54, .ref r62, .ref r70, .int 0, .int 0, .int 0, .int 0, .ref r79, .int 0, .int 0, .int 0, .int 0, .int 0, .ref r87, .ref r95, .null, .null, .null, .null, .int 0, .int 0]))] : va_W) ++ (wA cI r7 100 (fun _ => 0) ++ (wA cI r15 100 (fun _ => 0) ++ (wA cI r22 4 (fun _ => 0) ++ (wA cI r30 8 (fun _ => 0) ++ (wA cI r38 8 (fun _ => 0) ++ (wA cI r46 60 (fun _ => 0) ++ (wA cI r54 60 (fun _ => 0) ++ (wA cI r62 60 (fun _ => 0) ++ (wA cI r70 60 (fun _ => 0) ++ (wA cI r79 203 (fun _ => 0) ++ (wA cI r87 6 (fun _ => 0) ++ (wA cI r95 6 (fun _ => 0)))))))))))))) := hD
  refine lv_aload_n hx hb (dAt zX6_init_0 50 rfl) rfl (lv_at hl 0 rfl) ?_
  refine lv_bipush (v := 10) hx hb (dAt zX6_init_0 51 rfl) (by decide) ?_
  refine xNewJ (n := 10) (N' := 10) (hbig := by decide) hx hb (htl _ W_76) hK hP hD hS hA (by decide) (by decide) (Nat.le_of_ble_eq_true rfl) (Nat.le_of_ble_eq_true rfl) (dAt zX6_init_0 52 rfl) (fun r103 H hP hD hS => ?_)
  have hP : va_P D vwCl (([(b0, .inr (6, [.int 0, .int 0, .int 0, .ref r7, .ref r15, .ref r22, .ref r30, .ref r38, .int 0, .ref r46, .int 0, .ref r54, .ref r62, .ref r70, .int 0, .int 0, .int 0, .int 0, .ref r79, .int 0, .int 0, .int 0, .int 0, .int 0, .ref r87, .ref r95, .null, .null, .null, .null, .int 0, .int 0]))] : va_W) ++ (wA cI r7 100 (fun _ => 0) ++ (wA cI r15 100 (fun _ => 0) ++ (wA cI r22 4 (fun _ => 0) ++ (wA cI r30 8 (fun _ => 0) ++ (wA cI r38 8 (fun _ => 0) ++ (wA cI r46 60 (fun _ => 0) ++ (wA cI r54 60 (fun _ => 0) ++ (wA cI r62 60 (fun _ => 0) ++ (wA cI r70 60 (fun _ => 0) ++ (wA cI r79 203 (fun _ => 0) ++ (wA cI r87 6 (fun _ => 0) ++ (wA cI r95 6 (fun _ => 0) ++ (wAJ cJ r103 10 (fun _ => 0))))))))))))))) H := hP
  have hD : va_D A (([(b0, .inr (6, [.int 0, .int 0, .int 0, .ref r7, .ref r15, .ref r22, .ref r30, .ref r38, .int 0, .ref r46, .int 0, .ref r54, .ref r62, .ref r70, .int 0, .int 0, .int 0, .int 0, .ref r79, .int 0, .int 0, .int 0, .int 0, .int 0, .ref r87, .ref r95, .null, .null, .null, .null, .int 0, .int 0]))] : va_W) ++ (wA cI r7 100 (fun _ => 0) ++ (wA cI r15 100 (fun _ => 0) ++ (wA cI r22 4 (fun _ => 0) ++ (wA cI r30 8 (fun _ => 0) ++ (wA cI r38 8 (fun _ => 0) ++ (wA cI r46 60 (fun _ => 0) ++ (wA cI r54 60 (fun _ => 0) ++ (wA cI r62 60 (fun _ => 0) ++ (wA cI r70 60 (fun _ => 0) ++ (wA cI r79 203 (fun _ => 0) ++ (wA cI r87 6 (fun _ => 0) ++ (wA cI r95 6 (fun _ => 0) ++ (wAJ cJ r103 10 (fun _ => 0))))))))))))))) := hD
  refine W.widen (k := 13) (n := 685) (by omega) (by omega) ?_
  refine va_putF (D := D) (ci := 6) (v := .ref r103) (ty := (.array .long)) (C := RX6) (T := TX6) (N := 32) hx hb htl inlX6 tyX6 tyX6_ok nmX6 hown hK hP hD hS 0 rfl rfl 26 (by decide) (htl _ W_97) (fun _ h9 => h9) rfl hin rfl (by decide +kernel) rfl rfl (Nat.le_of_ble_eq_true rfl) (dAt zX6_init_0 53 rfl) (fun H locs hP hD hS => ?_)
  have hP : va_P D vwCl (([(b0, .inr (6, [.int 0, .int 0, .int 0, .ref r7, .ref r15, .ref r22, .ref r30, .ref r38, .int 0, .ref r46, .int 0, .ref r54, .ref r62, .ref r70, .int 0, .int 0, .int 0, .int 0, .ref r79, .int 0, .int 0, .int 0, .int 0, .int 0, .ref r87, .ref r95, .ref r103, .null, .null, .null, .int 0, .int 0]))] : va_W) ++ (wA cI r7 100 (fun _ => 0) ++ (wA cI r15 100 (fun _ => 0) ++ (wA cI r22 4 (fun _ => 0) ++ (wA cI r30 8 (fun _ => 0) ++ (wA cI r38 8 (fun _ => 0) ++ (wA cI r46 60 (fun _ => 0) ++ (wA cI r54 60 (fun _ => 0) ++ (wA cI r62 60 (fun _ => 0) ++ (wA cI r70 60 (fun _ => 0) ++ (wA cI r79 203 (fun _ => 0) ++ (wA cI r87 6 (fun _ => 0) ++ (wA cI r95 6 (fun _ => 0) ++ (wAJ cJ r103 10 (fun _ => 0))))))))))))))) H := hP
  have hD : va_D A (([(b0, .inr (6, [.int 0, .int 0, .int 0, .ref r7, .ref r15, .ref r22, .ref r30, .ref r38, .int 0, .ref r46, .int 0, .ref r54, .ref r62, .ref r70, .int 0, .int 0, .int 0, .int 0, .ref r79, .int 0, .int 0, .int 0, .int 0, .int 0, .ref r87, .ref r95, .ref r103, .null, .null, .null, .int 0, .int 0]))] : va_W) ++ (wA cI r7 100 (fun _ => 0) ++ (wA cI r15 100 (fun _ => 0) ++ (wA cI r22 4 (fun _ => 0) ++ (wA cI r30 8 (fun _ => 0) ++ (wA cI r38 8 (fun _ => 0) ++ (wA cI r46 60 (fun _ => 0) ++ (wA cI r54 60 (fun _ => 0) ++ (wA cI r62 60 (fun _ => 0) ++ (wA cI r70 60 (fun _ => 0) ++ (wA cI r79 203 (fun _ => 0) ++ (wA cI r87 6 (fun _ => 0) ++ (wA cI r95 6 (fun _ => 0) ++ (wAJ cJ r103 10 (fun _ => 0))))))))))))))) := hD
  refine lv_aload_n hx hb (dAt zX6_init_0 54 rfl) rfl (lv_at hl 0 rfl) ?_
  refine lv_sipush (v := 1000) hx hb (dAt zX6_init_0 55 rfl) (by decide) ?_
  refine xNewI (n := 1000) (N' := 1000) (hbig := by decide) hx hb (htl _ W_44) hK hP hD hS hA (by decide) (by decide) (Nat.le_of_ble_eq_true rfl) (Nat.le_of_ble_eq_true rfl) (dAt zX6_init_0 56 rfl) (fun r112 H hP hD hS => ?_)
  have hP : va_P D vwCl (([(b0, .inr (6, [.int 0, .int 0, .int 0, .ref r7, .ref r15, .ref r22, .ref r30, .ref r38, .int 0, .ref r46, .int 0, .ref r54, .ref r62, .ref r70, .int 0, .int 0, .int 0, .int 0, .ref r79, .int 0, .int 0, .int 0, .int 0, .int 0, .ref r87, .ref r95, .ref r103, .null, .null, .null, .int 0, .int 0]))] : va_W) ++ (wA cI r7 100 (fun _ => 0) ++ (wA cI r15 100 (fun _ => 0) ++ (wA cI r22 4 (fun _ => 0) ++ (wA cI r30 8 (fun _ => 0) ++ (wA cI r38 8 (fun _ => 0) ++ (wA cI r46 60 (fun _ => 0) ++ (wA cI r54 60 (fun _ => 0) ++ (wA cI r62 60 (fun _ => 0) ++ (wA cI r70 60 (fun _ => 0) ++ (wA cI r79 203 (fun _ => 0) ++ (wA cI r87 6 (fun _ => 0) ++ (wA cI r95 6 (fun _ => 0) ++ (wAJ cJ r103 10 (fun _ => 0) ++ (wA cI r112 1000 (fun _ => 0)))))))))))))))) H := hP
  have hD : va_D A (([(b0, .inr (6, [.int 0, .int 0, .int 0, .ref r7, .ref r15, .ref r22, .ref r30, .ref r38, .int 0, .ref r46, .int 0, .ref r54, .ref r62, .ref r70, .int 0, .int 0, .int 0, .int 0, .ref r79, .int 0, .int 0, .int 0, .int 0, .int 0, .ref r87, .ref r95, .ref r103, .null, .null, .null, .int 0, .int 0]))] : va_W) ++ (wA cI r7 100 (fun _ => 0) ++ (wA cI r15 100 (fun _ => 0) ++ (wA cI r22 4 (fun _ => 0) ++ (wA cI r30 8 (fun _ => 0) ++ (wA cI r38 8 (fun _ => 0) ++ (wA cI r46 60 (fun _ => 0) ++ (wA cI r54 60 (fun _ => 0) ++ (wA cI r62 60 (fun _ => 0) ++ (wA cI r70 60 (fun _ => 0) ++ (wA cI r79 203 (fun _ => 0) ++ (wA cI r87 6 (fun _ => 0) ++ (wA cI r95 6 (fun _ => 0) ++ (wAJ cJ r103 10 (fun _ => 0) ++ (wA cI r112 1000 (fun _ => 0)))))))))))))))) := hD
  refine W.widen (k := 14) (n := 1685) (by omega) (by omega) ?_
  refine va_putF (D := D) (ci := 6) (v := .ref r112) (ty := (.array .int)) (C := RX6) (T := TX6) (N := 32) hx hb htl inlX6 tyX6 tyX6_ok nmX6 hown hK hP hD hS 0 rfl rfl 27 (by decide) (htl _ W_98) (fun _ h9 => h9) rfl hin rfl (by decide +kernel) rfl rfl (Nat.le_of_ble_eq_true rfl) (dAt zX6_init_0 57 rfl) (fun H locs hP hD hS => ?_)
  have hP : va_P D vwCl (([(b0, .inr (6, [.int 0, .int 0, .int 0, .ref r7, .ref r15, .ref r22, .ref r30, .ref r38, .int 0, .ref r46, .int 0, .ref r54, .ref r62, .ref r70, .int 0, .int 0, .int 0, .int 0, .ref r79, .int 0, .int 0, .int 0, .int 0, .int 0, .ref r87, .ref r95, .ref r103, .ref r112, .null, .null, .int 0, .int 0]))] : va_W) ++ (wA cI r7 100 (fun _ => 0) ++ (wA cI r15 100 (fun _ => 0) ++ (wA cI r22 4 (fun _ => 0) ++ (wA cI r30 8 (fun _ => 0) ++ (wA cI r38 8 (fun _ => 0) ++ (wA cI r46 60 (fun _ => 0) ++ (wA cI r54 60 (fun _ => 0) ++ (wA cI r62 60 (fun _ => 0) ++ (wA cI r70 60 (fun _ => 0) ++ (wA cI r79 203 (fun _ => 0) ++ (wA cI r87 6 (fun _ => 0) ++ (wA cI r95 6 (fun _ => 0) ++ (wAJ cJ r103 10 (fun _ => 0) ++ (wA cI r112 1000 (fun _ => 0)))))))))))))))) H := hP
  have hD : va_D A (([(b0, .inr (6, [.int 0, .int 0, .int 0, .ref r7, .ref r15, .ref r22, .ref r30, .ref r38, .int 0, .ref r46, .int 0, .ref r54, .ref r62, .ref r70, .int 0, .int 0, .int 0, .int 0, .ref r79, .int 0, .int 0, .int 0, .int 0, .int 0, .ref r87, .ref r95, .ref r103, .ref r112, .null, .null, .int 0, .int 0]))] : va_W) ++ (wA cI r7 100 (fun _ => 0) ++ (wA cI r15 100 (fun _ => 0) ++ (wA cI r22 4 (fun _ => 0) ++ (wA cI r30 8 (fun _ => 0) ++ (wA cI r38 8 (fun _ => 0) ++ (wA cI r46 60 (fun _ => 0) ++ (wA cI r54 60 (fun _ => 0) ++ (wA cI r62 60 (fun _ => 0) ++ (wA cI r70 60 (fun _ => 0) ++ (wA cI r79 203 (fun _ => 0) ++ (wA cI r87 6 (fun _ => 0) ++ (wA cI r95 6 (fun _ => 0) ++ (wAJ cJ r103 10 (fun _ => 0) ++ (wA cI r112 1000 (fun _ => 0)))))))))))))))) := hD
  refine lv_aload_n hx hb (dAt zX6_init_0 58 rfl) rfl (lv_at hl 0 rfl) ?_
  refine lv_sipush (v := 480) hx hb (dAt zX6_init_0 59 rfl) (by decide) ?_
  refine xNewI (n := 480) (N' := 480) (hbig := by decide) hx hb (htl _ W_44) hK hP hD hS hA (by decide) (by decide) (Nat.le_of_ble_eq_true rfl) (Nat.le_of_ble_eq_true rfl) (dAt zX6_init_0 60 rfl) (fun r121 H hP hD hS => ?_)
  have hP : va_P D vwCl (([(b0, .inr (6, [.int 0, .int 0, .int 0, .ref r7, .ref r15, .ref r22, .ref r30, .ref r38, .int 0, .ref r46, .int 0, .ref r54, .ref r62, .ref r70, .int 0, .int 0, .int 0, .int 0, .ref r79, .int 0, .int 0, .int 0, .int 0, .int 0, .ref r87, .ref r95, .ref r103, .ref r112, .null, .null, .int 0, .int 0]))] : va_W) ++ (wA cI r7 100 (fun _ => 0) ++ (wA cI r15 100 (fun _ => 0) ++ (wA cI r22 4 (fun _ => 0) ++ (wA cI r30 8 (fun _ => 0) ++ (wA cI r38 8 (fun _ => 0) ++ (wA cI r46 60 (fun _ => 0) ++ (wA cI r54 60 (fun _ => 0) ++ (wA cI r62 60 (fun _ => 0) ++ (wA cI r70 60 (fun _ => 0) ++ (wA cI r79 203 (fun _ => 0) ++ (wA cI r87 6 (fun _ => 0) ++ (wA cI r95 6 (fun _ => 0) ++ (wAJ cJ r103 10 (fun _ => 0) ++ (wA cI r112 1000 (fun _ => 0) ++ (wA cI r121 480 (fun _ => 0))))))))))))))))) H := hP
  have hD : va_D A (([(b0, .inr (6, [.int 0, .int 0, .int 0, .ref r7, .ref r15, .ref r22, .ref r30, .ref r38, .int 0, .ref r46, .int 0, .ref r54, .ref r62, .ref r70, .int 0, .int 0, .int 0, .int 0, .ref r79, .int 0, .int 0, .int 0, .int 0, .int 0, .ref r87, .ref r95, .ref r103, .ref r112, .null, .null, .int 0, .int 0]))] : va_W) ++ (wA cI r7 100 (fun _ => 0) ++ (wA cI r15 100 (fun _ => 0) ++ (wA cI r22 4 (fun _ => 0) ++ (wA cI r30 8 (fun _ => 0) ++ (wA cI r38 8 (fun _ => 0) ++ (wA cI r46 60 (fun _ => 0) ++ (wA cI r54 60 (fun _ => 0) ++ (wA cI r62 60 (fun _ => 0) ++ (wA cI r70 60 (fun _ => 0) ++ (wA cI r79 203 (fun _ => 0) ++ (wA cI r87 6 (fun _ => 0) ++ (wA cI r95 6 (fun _ => 0) ++ (wAJ cJ r103 10 (fun _ => 0) ++ (wA cI r112 1000 (fun _ => 0) ++ (wA cI r121 480 (fun _ => 0))))))))))))))))) := hD
  refine W.widen (k := 15) (n := 2165) (by omega) (by omega) ?_
  refine va_putF (D := D) (ci := 6) (v := .ref r121) (ty := (.array .int)) (C := RX6) (T := TX6) (N := 32) hx hb htl inlX6 tyX6 tyX6_ok nmX6 hown hK hP hD hS 0 rfl rfl 28 (by decide) (htl _ W_99) (fun _ h9 => h9) rfl hin rfl (by decide +kernel) rfl rfl (Nat.le_of_ble_eq_true rfl) (dAt zX6_init_0 61 rfl) (fun H locs hP hD hS => ?_)
  have hP : va_P D vwCl (([(b0, .inr (6, [.int 0, .int 0, .int 0, .ref r7, .ref r15, .ref r22, .ref r30, .ref r38, .int 0, .ref r46, .int 0, .ref r54, .ref r62, .ref r70, .int 0, .int 0, .int 0, .int 0, .ref r79, .int 0, .int 0, .int 0, .int 0, .int 0, .ref r87, .ref r95, .ref r103, .ref r112, .ref r121, .null, .int 0, .int 0]))] : va_W) ++ (wA cI r7 100 (fun _ => 0) ++ (wA cI r15 100 (fun _ => 0) ++ (wA cI r22 4 (fun _ => 0) ++ (wA cI r30 8 (fun _ => 0) ++ (wA cI r38 8 (fun _ => 0) ++ (wA cI r46 60 (fun _ => 0) ++ (wA cI r54 60 (fun _ => 0) ++ (wA cI r62 60 (fun _ => 0) ++ (wA cI r70 60 (fun _ => 0) ++ (wA cI r79 203 (fun _ => 0) ++ (wA cI r87 6 (fun _ => 0) ++ (wA cI r95 6 (fun _ => 0) ++ (wAJ cJ r103 10 (fun _ => 0) ++ (wA cI r112 1000 (fun _ => 0) ++ (wA cI r121 480 (fun _ => 0))))))))))))))))) H := hP
  have hD : va_D A (([(b0, .inr (6, [.int 0, .int 0, .int 0, .ref r7, .ref r15, .ref r22, .ref r30, .ref r38, .int 0, .ref r46, .int 0, .ref r54, .ref r62, .ref r70, .int 0, .int 0, .int 0, .int 0, .ref r79, .int 0, .int 0, .int 0, .int 0, .int 0, .ref r87, .ref r95, .ref r103, .ref r112, .ref r121, .null, .int 0, .int 0]))] : va_W) ++ (wA cI r7 100 (fun _ => 0) ++ (wA cI r15 100 (fun _ => 0) ++ (wA cI r22 4 (fun _ => 0) ++ (wA cI r30 8 (fun _ => 0) ++ (wA cI r38 8 (fun _ => 0) ++ (wA cI r46 60 (fun _ => 0) ++ (wA cI r54 60 (fun _ => 0) ++ (wA cI r62 60 (fun _ => 0) ++ (wA cI r70 60 (fun _ => 0) ++ (wA cI r79 203 (fun _ => 0) ++ (wA cI r87 6 (fun _ => 0) ++ (wA cI r95 6 (fun _ => 0) ++ (wAJ cJ r103 10 (fun _ => 0) ++ (wA cI r112 1000 (fun _ => 0) ++ (wA cI r121 480 (fun _ => 0))))))))))))))))) := hD
  refine lv_aload_n hx hb (dAt zX6_init_0 62 rfl) rfl (lv_at hl 0 rfl) ?_
  refine lv_iconst (v := 2) hx hb (dAt zX6_init_0 63 rfl) (by decide) ?_
  refine xNewZ (n := 2) (N' := 2) (hbig := by decide) hx hb (htl _ W_100) hK hP hD hS hA (by decide) (by decide) (Nat.le_of_ble_eq_true rfl) (Nat.le_of_ble_eq_true rfl) (dAt zX6_init_0 64 rfl) (fun r128 H hP hD hS => ?_)
  have hP : va_P D vwCl (([(b0, .inr (6, [.int 0, .int 0, .int 0, .ref r7, .ref r15, .ref r22, .ref r30, .ref r38, .int 0, .ref r46, .int 0, .ref r54, .ref r62, .ref r70, .int 0, .int 0, .int 0, .int 0, .ref r79, .int 0, .int 0, .int 0, .int 0, .int 0, .ref r87, .ref r95, .ref r103, .ref r112, .ref r121, .null, .int 0, .int 0]))] : va_W) ++ (wA cI r7 100 (fun _ => 0) ++ (wA cI r15 100 (fun _ => 0) ++ (wA cI r22 4 (fun _ => 0) ++ (wA cI r30 8 (fun _ => 0) ++ (wA cI r38 8 (fun _ => 0) ++ (wA cI r46 60 (fun _ => 0) ++ (wA cI r54 60 (fun _ => 0) ++ (wA cI r62 60 (fun _ => 0) ++ (wA cI r70 60 (fun _ => 0) ++ (wA cI r79 203 (fun _ => 0) ++ (wA cI r87 6 (fun _ => 0) ++ (wA cI r95 6 (fun _ => 0) ++ (wAJ cJ r103 10 (fun _ => 0) ++ (wA cI r112 1000 (fun _ => 0) ++ (wA cI r121 480 (fun _ => 0) ++ (wAZ cZ r128 2 (fun _ => 0)))))))))))))))))) H := hP
  have hD : va_D A (([(b0, .inr (6, [.int 0, .int 0, .int 0, .ref r7, .ref r15, .ref r22, .ref r30, .ref r38, .int 0, .ref r46, .int 0, .ref r54, .ref r62, .ref r70, .int 0, .int 0, .int 0, .int 0, .ref r79, .int 0, .int 0, .int 0, .int 0, .int 0, .ref r87, .ref r95, .ref r103, .ref r112, .ref r121, .null, .int 0, .int 0]))] : va_W) ++ (wA cI r7 100 (fun _ => 0) ++ (wA cI r15 100 (fun _ => 0) ++ (wA cI r22 4 (fun _ => 0) ++ (wA cI r30 8 (fun _ => 0) ++ (wA cI r38 8 (fun _ => 0) ++ (wA cI r46 60 (fun _ => 0) ++ (wA cI r54 60 (fun _ => 0) ++ (wA cI r62 60 (fun _ => 0) ++ (wA cI r70 60 (fun _ => 0) ++ (wA cI r79 203 (fun _ => 0) ++ (wA cI r87 6 (fun _ => 0) ++ (wA cI r95 6 (fun _ => 0) ++ (wAJ cJ r103 10 (fun _ => 0) ++ (wA cI r112 1000 (fun _ => 0) ++ (wA cI r121 480 (fun _ => 0) ++ (wAZ cZ r128 2 (fun _ => 0)))))))))))))))))) := hD
  refine W.widen (k := 16) (n := 2167) (by omega) (by omega) ?_
  refine va_putF (D := D) (ci := 6) (v := .ref r128) (ty := (.array .boolean)) (C := RX6) (T := TX6) (N := 32) hx hb htl inlX6 tyX6 tyX6_ok nmX6 hown hK hP hD hS 0 rfl rfl 29 (by decide) (htl _ W_101) (fun _ h9 => h9) rfl hin rfl (by decide +kernel) rfl rfl (Nat.le_of_ble_eq_true rfl) (dAt zX6_init_0 65 rfl) (fun H locs hP hD hS => ?_)
  have hP : va_P D vwCl (([(b0, .inr (6, [.int 0, .int 0, .int 0, .ref r7, .ref r15, .ref r22, .ref r30, .ref r38, .int 0, .ref r46, .int 0, .ref r54, .ref r62, .ref r70, .int 0, .int 0, .int 0, .int 0, .ref r79, .int 0, .int 0, .int 0, .int 0, .int 0, .ref r87, .ref r95, .ref r103, .ref r112, .ref r121, .ref r128, .int 0, .int 0]))] : va_W) ++ (wA cI r7 100 (fun _ => 0) ++ (wA cI r15 100 (fun _ => 0) ++ (wA cI r22 4 (fun _ => 0) ++ (wA cI r30 8 (fun _ => 0) ++ (wA cI r38 8 (fun _ => 0) ++ (wA cI r46 60 (fun _ => 0) ++ (wA cI r54 60 (fun _ => 0) ++ (wA cI r62 60 (fun _ => 0) ++ (wA cI r70 60 (fun _ => 0) ++ (wA cI r79 203 (fun _ => 0) ++ (wA cI r87 6 (fun _ => 0) ++ (wA cI r95 6 (fun _ => 0) ++ (wAJ cJ r103 10 (fun _ => 0) ++ (wA cI r112 1000 (fun _ => 0) ++ (wA cI r121 480 (fun _ => 0) ++ (wAZ cZ r128 2 (fun _ => 0)))))))))))))))))) H := hP
  have hD : va_D A (([(b0, .inr (6, [.int 0, .int 0, .int 0, .ref r7, .ref r15, .ref r22, .ref r30, .ref r38, .int 0, .ref r46, .int 0, .ref r54, .ref r62, .ref r70, .int 0, .int 0, .int 0, .int 0, .ref r79, .int 0, .int 0, .int 0, .int 0, .int 0, .ref r87, .ref r95, .ref r103, .ref r112, .ref r121, .ref r128, .int 0, .int 0]))] : va_W) ++ (wA cI r7 100 (fun _ => 0) ++ (wA cI r15 100 (fun _ => 0) ++ (wA cI r22 4 (fun _ => 0) ++ (wA cI r30 8 (fun _ => 0) ++ (wA cI r38 8 (fun _ => 0) ++ (wA cI r46 60 (fun _ => 0) ++ (wA cI r54 60 (fun _ => 0) ++ (wA cI r62 60 (fun _ => 0) ++ (wA cI r70 60 (fun _ => 0) ++ (wA cI r79 203 (fun _ => 0) ++ (wA cI r87 6 (fun _ => 0) ++ (wA cI r95 6 (fun _ => 0) ++ (wAJ cJ r103 10 (fun _ => 0) ++ (wA cI r112 1000 (fun _ => 0) ++ (wA cI r121 480 (fun _ => 0) ++ (wAZ cZ r128 2 (fun _ => 0)))))))))))))))))) := hD
  refine lv_aload_n hx hb (dAt zX6_init_0 66 rfl) rfl (lv_at hl 0 rfl) ?_
  refine lv_sipush (v := 1023) hx hb (dAt zX6_init_0 67 rfl) (by decide) ?_
  refine va_put (D := D) (ci := 6) (v := .int 1023) (ty := .int) (C := RX6) (T := TX6) (N := 32) hx hb htl inlX6 tyX6 tyX6_ok nmX6 hown hK hP hD hS 0 rfl rfl 0 (by decide) (htl _ W_102) (fun _ h9 => h9) rfl (by decide +kernel) rfl rfl (Nat.le_of_ble_eq_true rfl) (dAt zX6_init_0 68 rfl) (fun H locs hP hD hS => ?_)
  have hP : va_P D vwCl (([(b0, .inr (6, [.int 1023, .int 0, .int 0, .ref r7, .ref r15, .ref r22, .ref r30, .ref r38, .int 0, .ref r46, .int 0, .ref r54, .ref r62, .ref r70, .int 0, .int 0, .int 0, .int 0, .ref r79, .int 0, .int 0, .int 0, .int 0, .int 0, .ref r87, .ref r95, .ref r103, .ref r112, .ref r121, .ref r128, .int 0, .int 0]))] : va_W) ++ (wA cI r7 100 (fun _ => 0) ++ (wA cI r15 100 (fun _ => 0) ++ (wA cI r22 4 (fun _ => 0) ++ (wA cI r30 8 (fun _ => 0) ++ (wA cI r38 8 (fun _ => 0) ++ (wA cI r46 60 (fun _ => 0) ++ (wA cI r54 60 (fun _ => 0) ++ (wA cI r62 60 (fun _ => 0) ++ (wA cI r70 60 (fun _ => 0) ++ (wA cI r79 203 (fun _ => 0) ++ (wA cI r87 6 (fun _ => 0) ++ (wA cI r95 6 (fun _ => 0) ++ (wAJ cJ r103 10 (fun _ => 0) ++ (wA cI r112 1000 (fun _ => 0) ++ (wA cI r121 480 (fun _ => 0) ++ (wAZ cZ r128 2 (fun _ => 0)))))))))))))))))) H := hP
  have hD : va_D A (([(b0, .inr (6, [.int 1023, .int 0, .int 0, .ref r7, .ref r15, .ref r22, .ref r30, .ref r38, .int 0, .ref r46, .int 0, .ref r54, .ref r62, .ref r70, .int 0, .int 0, .int 0, .int 0, .ref r79, .int 0, .int 0, .int 0, .int 0, .int 0, .ref r87, .ref r95, .ref r103, .ref r112, .ref r121, .ref r128, .int 0, .int 0]))] : va_W) ++ (wA cI r7 100 (fun _ => 0) ++ (wA cI r15 100 (fun _ => 0) ++ (wA cI r22 4 (fun _ => 0) ++ (wA cI r30 8 (fun _ => 0) ++ (wA cI r38 8 (fun _ => 0) ++ (wA cI r46 60 (fun _ => 0) ++ (wA cI r54 60 (fun _ => 0) ++ (wA cI r62 60 (fun _ => 0) ++ (wA cI r70 60 (fun _ => 0) ++ (wA cI r79 203 (fun _ => 0) ++ (wA cI r87 6 (fun _ => 0) ++ (wA cI r95 6 (fun _ => 0) ++ (wAJ cJ r103 10 (fun _ => 0) ++ (wA cI r112 1000 (fun _ => 0) ++ (wA cI r121 480 (fun _ => 0) ++ (wAZ cZ r128 2 (fun _ => 0)))))))))))))))))) := hD
  refine lv_iconst (v := 0) hx hb (dAt zX6_init_0 69 rfl) (by decide) ?_
  refine lv_istore_n (lv' := [(1, .int 0), (0, .ref b0)]) hx hb (dAt zX6_init_0 70 rfl) rfl hl (by decide) rfl (fun ls hl => ?_)
  have L_142 : ∀ (j_142 : Nat) (v1_142 : Int32) (zr15_142 : (Nat → Int32)) (H : Heap) (locs : List Loc) (ls : Array Slot), loopF (b_X6_init_142 n) j_142 (v1_142, zr15_142) = some out → va_P D vwCl (([(b0, .inr (6, [.int 1023, .int 0, .int 0, .ref r7, .ref r15, .ref r22, .ref r30, .ref r38, .int 0, .ref r46, .int 0, .ref r54, .ref r62, .ref r70, .int 0, .int 0, .int 0, .int 0, .ref r79, .int 0, .int 0, .int 0, .int 0, .int 0, .ref r87, .ref r95, .ref r103, .ref r112, .ref r121, .ref r128, .int 0, .int 0]))] : va_W) ++ (wA cI r7 100 (fun _ => 0) ++ (wA cI r15 100 zr15_142 ++ (wA cI r22 4 (fun _ => 0) ++ (wA cI r30 8 (fun _ => 0) ++ (wA cI r38 8 (fun _ => 0) ++ (wA cI r46 60 (fun _ => 0) ++ (wA cI r54 60 (fun _ => 0) ++ (wA cI r62 60 (fun _ => 0) ++ (wA cI r70 60 (fun _ => 0) ++ (wA cI r79 203 (fun _ => 0) ++ (wA cI r87 6 (fun _ => 0) ++ (wA cI r95 6 (fun _ => 0) ++ (wAJ cJ r103 10 (fun _ => 0) ++ (wA cI r112 1000 (fun _ => 0) ++ (wA cI r121 480 (fun _ => 0) ++ (wAZ cZ r128 2 (fun _ => 0)))))))))))))))))) H → va_D A (([(b0, .inr (6, [.int 1023, .int 0, .int 0, .ref r7, .ref r15, .ref r22, .ref r30, .ref r38, .int 0, .ref r46, .int 0, .ref r54, .ref r62, .ref r70, .int 0, .int 0, .int 0, .int 0, .ref r79, .int 0, .int 0, .int 0, .int 0, .int 0, .ref r87, .ref r95, .ref r103, .ref r112, .ref r121, .ref r128, .int 0, .int 0]))] : va_W) ++ (wA cI r7 100 (fun _ => 0) ++ (wA cI r15 100 zr15_142 ++ (wA cI r22 4 (fun _ => 0) ++ (wA cI r30 8 (fun _ => 0) ++ (wA cI r38 8 (fun _ => 0) ++ (wA cI r46 60 (fun _ => 0) ++ (wA cI r54 60 (fun _ => 0) ++ (wA cI r62 60 (fun _ => 0) ++ (wA cI r70 60 (fun _ => 0) ++ (wA cI r79 203 (fun _ => 0) ++ (wA cI r87 6 (fun _ => 0) ++ (wA cI r95 6 (fun _ => 0) ++ (wAJ cJ r103 10 (fun _ => 0) ++ (wA cI r112 1000 (fun _ => 0) ++ (wA cI r121 480 (fun _ => 0) ++ (wAZ cZ r128 2 (fun _ => 0)))))))))))))))))) → va_S A s.heap H locs → lv_has ls 2 [(0, .ref b0), (1, .int v1_142)] → W p l e { frames := 1, cells := 16, slots := 2167, locals := 12 } s m args below meth c H locs 16 2167 Q (F0 m 142 ls []) := by
    intro j_142
    induction j_142 with
    | zero => intro v1_142 zr15_142 H locs ls h hP hD hS hl; exact loopF_0 h
    | succ j_142 ih_142 =>
      intro v1_142 zr15_142 H locs ls h hP hD hS hl
      have h := loopF_s h
      unfold b_X6_init_142 at h
      refine lv_iload_n hx hb (dAt zX6_init_0 71 rfl) rfl (lv_at hl 1 rfl) ?_
      refine lv_bipush (v := 100) hx hb (dAt zX6_init_0 72 rfl) (by decide) ?_
      refine lv_icmp_ge (tgt := 161) hx hb (dAt zX6_init_0 73 rfl) (by decide) (fun c_145 => ?_) (fun c_145 => ?_)
      · have h := q_pos c_145 h
        refine lv_iconst (v := 0) hx hb (dAt zX6_init_0 81 rfl) (by decide) ?_
        refine lv_istore_n (lv' := [(1, .int 0), (0, .ref b0)]) hx hb (dAt zX6_init_0 82 rfl) rfl hl (by decide) rfl (fun ls hl => ?_)
        have L_163 : ∀ (j_163 : Nat) (v1_163 : Int32) (zr22_163 : (Nat → Int32)) (H : Heap) (locs : List Loc) (ls : Array Slot), loopF (b_X6_init_163 n zr15_142) j_163 (v1_163, zr22_163) = some out → va_P D vwCl (([(b0, .inr (6, [.int 1023, .int 0, .int 0, .ref r7, .ref r15, .ref r22, .ref r30, .ref r38, .int 0, .ref r46, .int 0, .ref r54, .ref r62, .ref r70, .int 0, .int 0, .int 0, .int 0, .ref r79, .int 0, .int 0, .int 0, .int 0, .int 0, .ref r87, .ref r95, .ref r103, .ref r112, .ref r121, .ref r128, .int 0, .int 0]))] : va_W) ++ (wA cI r7 100 (fun _ => 0) ++ (wA cI r15 100 zr15_142 ++ (wA cI r22 4 zr22_163 ++ (wA cI r30 8 (fun _ => 0) ++ (wA cI r38 8 (fun _ => 0) ++ (wA cI r46 60 (fun _ => 0) ++ (wA cI r54 60 (fun _ => 0) ++ (wA cI r62 60 (fun _ => 0) ++ (wA cI r70 60 (fun _ => 0) ++ (wA cI r79 203 (fun _ => 0) ++ (wA cI r87 6 (fun _ => 0) ++ (wA cI r95 6 (fun _ => 0) ++ (wAJ cJ r103 10 (fun _ => 0) ++ (wA cI r112 1000 (fun _ => 0) ++ (wA cI r121 480 (fun _ => 0) ++ (wAZ cZ r128 2 (fun _ => 0)))))))))))))))))) H → va_D A (([(b0, .inr (6, [.int 1023, .int 0, .int 0, .ref r7, .ref r15, .ref r22, .ref r30, .ref r38, .int 0, .ref r46, .int 0, .ref r54, .ref r62, .ref r70, .int 0, .int 0, .int 0, .int 0, .ref r79, .int 0, .int 0, .int 0, .int 0, .int 0, .ref r87, .ref r95, .ref r103, .ref r112, .ref r121, .ref r128, .int 0, .int 0]))] : va_W) ++ (wA cI r7 100 (fun _ => 0) ++ (wA cI r15 100 zr15_142 ++ (wA cI r22 4 zr22_163 ++ (wA cI r30 8 (fun _ => 0) ++ (wA cI r38 8 (fun _ => 0) ++ (wA cI r46 60 (fun _ => 0) ++ (wA cI r54 60 (fun _ => 0) ++ (wA cI r62 60 (fun _ => 0) ++ (wA cI r70 60 (fun _ => 0) ++ (wA cI r79 203 (fun _ => 0) ++ (wA cI r87 6 (fun _ => 0) ++ (wA cI r95 6 (fun _ => 0) ++ (wAJ cJ r103 10 (fun _ => 0) ++ (wA cI r112 1000 (fun _ => 0) ++ (wA cI r121 480 (fun _ => 0) ++ (wAZ cZ r128 2 (fun _ => 0)))))))))))))))))) → va_S A s.heap H locs → lv_has ls 2 [(0, .ref b0), (1, .int v1_163)] → W p l e { frames := 1, cells := 16, slots := 2167, locals := 12 } s m args below meth c H locs 16 2167 Q (F0 m 163 ls []) := by
          intro j_163
          induction j_163 with
          | zero => intro v1_163 zr22_163 H locs ls h hP hD hS hl; exact loopF_0 h
          | succ j_163 ih_163 =>
            intro v1_163 zr22_163 H locs ls h hP hD hS hl
            have h := loopF_s h
            unfold b_X6_init_163 at h
            refine lv_iload_n hx hb (dAt zX6_init_0 83 rfl) rfl (lv_at hl 1 rfl) ?_
            refine lv_iconst (v := 4) hx hb (dAt zX6_init_0 84 rfl) (by decide) ?_
            refine lv_icmp_ge (tgt := 181) hx hb (dAt zX6_init_0 85 rfl) (by decide) (fun c_165 => ?_) (fun c_165 => ?_)
            · have h := q_pos c_165 h
              obtain rfl := q_some h
              have hP : va_P D vwCl (w6 cI cJ cZ (fun k => match Nat.beq k 4 with | true => r7 | false => match Nat.beq k 5 with | true => r15 | false => match Nat.beq k 6 with | true => r22 | false => match Nat.beq k 7 with | true => r30 | false => match Nat.beq k 8 with | true => r38 | false => match Nat.beq k 10 with | true => r46 | false => match Nat.beq k 12 with | true => r54 | false => match Nat.beq k 13 with | true => r62 | false => match Nat.beq k 14 with | true => r70 | false => match Nat.beq k 19 with | true => r79 | false => match Nat.beq k 25 with | true => r87 | false => match Nat.beq k 26 with | true => r95 | false => match Nat.beq k 27 with | true => r103 | false => match Nat.beq k 28 with | true => r112 | false => match Nat.beq k 29 with | true => r121 | false => match Nat.beq k 30 with | true => r128 | false => b0) (mk6 1023 0 0 0 0 0 0 0 0 0 0 0 0 0 0 0 (fun _ => 0) zr15_142 zr22_163 (fun _ => 0) (fun _ => 0) (fun _ => 0) (fun _ => 0) (fun _ => 0) (fun _ => 0) (fun _ => 0) (fun _ => 0) (fun _ => 0) (fun _ => 0) (fun _ => 0) (fun _ => 0), mkL6 (fun _ => 0)).1 (mk6 1023 0 0 0 0 0 0 0 0 0 0 0 0 0 0 0 (fun _ => 0) zr15_142 zr22_163 (fun _ => 0) (fun _ => 0) (fun _ => 0) (fun _ => 0) (fun _ => 0) (fun _ => 0) (fun _ => 0) (fun _ => 0) (fun _ => 0) (fun _ => 0) (fun _ => 0) (fun _ => 0), mkL6 (fun _ => 0)).2) H := hP
              have hD : va_D A (w6 cI cJ cZ (fun k => match Nat.beq k 4 with | true => r7 | false => match Nat.beq k 5 with | true => r15 | false => match Nat.beq k 6 with | true => r22 | false => match Nat.beq k 7 with | true => r30 | false => match Nat.beq k 8 with | true => r38 | false => match Nat.beq k 10 with | true => r46 | false => match Nat.beq k 12 with | true => r54 | false => match Nat.beq k 13 with | true => r62 | false => match Nat.beq k 14 with | true => r70 | false => match Nat.beq k 19 with | true => r79 | false => match Nat.beq k 25 with | true => r87 | false => match Nat.beq k 26 with | true => r95 | false => match Nat.beq k 27 with | true => r103 | false => match Nat.beq k 28 with | true => r112 | false => match Nat.beq k 29 with | true => r121 | false => match Nat.beq k 30 with | true => r128 | false => b0) (mk6 1023 0 0 0 0 0 0 0 0 0 0 0 0 0 0 0 (fun _ => 0) zr15_142 zr22_163 (fun _ => 0) (fun _ => 0) (fun _ => 0) (fun _ => 0) (fun _ => 0) (fun _ => 0) (fun _ => 0) (fun _ => 0) (fun _ => 0) (fun _ => 0) (fun _ => 0) (fun _ => 0), mkL6 (fun _ => 0)).1 (mk6 1023 0 0 0 0 0 0 0 0 0 0 0 0 0 0 0 (fun _ => 0) zr15_142 zr22_163 (fun _ => 0) (fun _ => 0) (fun _ => 0) (fun _ => 0) (fun _ => 0) (fun _ => 0) (fun _ => 0) (fun _ => 0) (fun _ => 0) (fun _ => 0) (fun _ => 0) (fun _ => 0), mkL6 (fun _ => 0)).2) := hD
              exact xRvI (fun k => match Nat.beq k 4 with | true => r7 | false => match Nat.beq k 5 with | true => r15 | false => match Nat.beq k 6 with | true => r22 | false => match Nat.beq k 7 with | true => r30 | false => match Nat.beq k 8 with | true => r38 | false => match Nat.beq k 10 with | true => r46 | false => match Nat.beq k 12 with | true => r54 | false => match Nat.beq k 13 with | true => r62 | false => match Nat.beq k 14 with | true => r70 | false => match Nat.beq k 19 with | true => r79 | false => match Nat.beq k 25 with | true => r87 | false => match Nat.beq k 26 with | true => r95 | false => match Nat.beq k 27 with | true => r103 | false => match Nat.beq k 28 with | true => r112 | false => match Nat.beq k 29 with | true => r121 | false => match Nat.beq k 30 with | true => r128 | false => b0) hx hb hr hlocks hQ hAe (by simp) hP hD hK hS (dAt zX6_init_0 93 rfl)
            · have h := q_neg c_165 h
              refine lv_aload_n hx hb (dAt zX6_init_0 86 rfl) rfl (lv_at hl 0 rfl) ?_
              refine va_get (D := D) (ci := 6) (v := .ref r22) (C := RX6) (T := TX6) (N := 32) hx hb htl inlX6 hown hK hP 0 rfl rfl 5 (by decide) (htl _ W_87) (fun _ h9 => h9) rfl (dAt zX6_init_0 87 rfl) ?_
              refine lv_iload_n hx hb (dAt zX6_init_0 88 rfl) rfl (lv_at hl 1 rfl) ?_
              refine lv_iconst (v := 1) hx hb (dAt zX6_init_0 89 rfl) (by decide) ?_
              obtain ⟨hi_174, h⟩ := q_in h
              refine va_iast hx hb hK hP hD hS 3 0 rfl rfl hi_174 (dAt zX6_init_0 90 rfl) (fun H locs hP hD hS => ?_)
              have hP : va_P D vwCl (([(b0, .inr (6, [.int 1023, .int 0, .int 0, .ref r7, .ref r15, .ref r22, .ref r30, .ref r38, .int 0, .ref r46, .int 0, .ref r54, .ref r62, .ref r70, .int 0, .int 0, .int 0, .int 0, .ref r79, .int 0, .int 0, .int 0, .int 0, .int 0, .ref r87, .ref r95, .ref r103, .ref r112, .ref r121, .ref r128, .int 0, .int 0]))] : va_W) ++ (wA cI r7 100 (fun _ => 0) ++ (wA cI r15 100 zr15_142 ++ (wA cI r22 4 (upd zr22_163 (Int32.toNatClampNeg v1_163) 1) ++ (wA cI r30 8 (fun _ => 0) ++ (wA cI r38 8 (fun _ => 0) ++ (wA cI r46 60 (fun _ => 0) ++ (wA cI r54 60 (fun _ => 0) ++ (wA cI r62 60 (fun _ => 0) ++ (wA cI r70 60 (fun _ => 0) ++ (wA cI r79 203 (fun _ => 0) ++ (wA cI r87 6 (fun _ => 0) ++ (wA cI r95 6 (fun _ => 0) ++ (wAJ cJ r103 10 (fun _ => 0) ++ (wA cI r112 1000 (fun _ => 0) ++ (wA cI r121 480 (fun _ => 0) ++ (wAZ cZ r128 2 (fun _ => 0)))))))))))))))))) H := hP
              have hD : va_D A (([(b0, .inr (6, [.int 1023, .int 0, .int 0, .ref r7, .ref r15, .ref r22, .ref r30, .ref r38, .int 0, .ref r46, .int 0, .ref r54, .ref r62, .ref r70, .int 0, .int 0, .int 0, .int 0, .ref r79, .int 0, .int 0, .int 0, .int 0, .int 0, .ref r87, .ref r95, .ref r103, .ref r112, .ref r121, .ref r128, .int 0, .int 0]))] : va_W) ++ (wA cI r7 100 (fun _ => 0) ++ (wA cI r15 100 zr15_142 ++ (wA cI r22 4 (upd zr22_163 (Int32.toNatClampNeg v1_163) 1) ++ (wA cI r30 8 (fun _ => 0) ++ (wA cI r38 8 (fun _ => 0) ++ (wA cI r46 60 (fun _ => 0) ++ (wA cI r54 60 (fun _ => 0) ++ (wA cI r62 60 (fun _ => 0) ++ (wA cI r70 60 (fun _ => 0) ++ (wA cI r79 203 (fun _ => 0) ++ (wA cI r87 6 (fun _ => 0) ++ (wA cI r95 6 (fun _ => 0) ++ (wAJ cJ r103 10 (fun _ => 0) ++ (wA cI r112 1000 (fun _ => 0) ++ (wA cI r121 480 (fun _ => 0) ++ (wAZ cZ r128 2 (fun _ => 0)))))))))))))))))) := hD
              refine lv_iinc (v := (v1_163 + 1)) (lv' := [(1, .int (v1_163 + 1)), (0, .ref b0)]) hx hb (dAt zX6_init_0 91 rfl) hl (k := 1) rfl rfl (by decide) rfl (fun ls hl => ?_)
              refine lv_goto (tgt := 163) hx hb (dAt zX6_init_0 92 rfl) (by decide) ?_
              exact ih_163 (v1_163 + 1) (upd zr22_163 (Int32.toNatClampNeg v1_163) 1) _ _ _ h hP hD hS (lv_sub hl [1, 0] rfl)
        exact L_163 n 0 (fun _ => 0) _ _ _ h hP hD hS (lv_sub hl [1, 0] rfl)
      · have h := q_neg c_145 h
        refine lv_aload_n hx hb (dAt zX6_init_0 74 rfl) rfl (lv_at hl 0 rfl) ?_
        refine va_get (D := D) (ci := 6) (v := .ref r15) (C := RX6) (T := TX6) (N := 32) hx hb htl inlX6 hown hK hP 0 rfl rfl 4 (by decide) (htl _ W_86) (fun _ h9 => h9) rfl (dAt zX6_init_0 75 rfl) ?_
        refine lv_iload_n hx hb (dAt zX6_init_0 76 rfl) rfl (lv_at hl 1 rfl) ?_
        refine lv_iconst (v := 2) hx hb (dAt zX6_init_0 77 rfl) (by decide) ?_
        obtain ⟨hi_154, h⟩ := q_in h
        refine va_iast hx hb hK hP hD hS 2 0 rfl rfl hi_154 (dAt zX6_init_0 78 rfl) (fun H locs hP hD hS => ?_)
        have hP : va_P D vwCl (([(b0, .inr (6, [.int 1023, .int 0, .int 0, .ref r7, .ref r15, .ref r22, .ref r30, .ref r38, .int 0, .ref r46, .int 0, .ref r54, .ref r62, .ref r70, .int 0, .int 0, .int 0, .int 0, .ref r79, .int 0, .int 0, .int 0, .int 0, .int 0, .ref r87, .ref r95, .ref r103, .ref r112, .ref r121, .ref r128, .int 0, .int 0]))] : va_W) ++ (wA cI r7 100 (fun _ => 0) ++ (wA cI r15 100 (upd zr15_142 (Int32.toNatClampNeg v1_142) 2) ++ (wA cI r22 4 (fun _ => 0) ++ (wA cI r30 8 (fun _ => 0) ++ (wA cI r38 8 (fun _ => 0) ++ (wA cI r46 60 (fun _ => 0) ++ (wA cI r54 60 (fun _ => 0) ++ (wA cI r62 60 (fun _ => 0) ++ (wA cI r70 60 (fun _ => 0) ++ (wA cI r79 203 (fun _ => 0) ++ (wA cI r87 6 (fun _ => 0) ++ (wA cI r95 6 (fun _ => 0) ++ (wAJ cJ r103 10 (fun _ => 0) ++ (wA cI r112 1000 (fun _ => 0) ++ (wA cI r121 480 (fun _ => 0) ++ (wAZ cZ r128 2 (fun _ => 0)))))))))))))))))) H := hP
        have hD : va_D A (([(b0, .inr (6, [.int 1023, .int 0, .int 0, .ref r7, .ref r15, .ref r22, .ref r30, .ref r38, .int 0, .ref r46, .int 0, .ref r54, .ref r62, .ref r70, .int 0, .int 0, .int 0, .int 0, .ref r79, .int 0, .int 0, .int 0, .int 0, .int 0, .ref r87, .ref r95, .ref r103, .ref r112, .ref r121, .ref r128, .int 0, .int 0]))] : va_W) ++ (wA cI r7 100 (fun _ => 0) ++ (wA cI r15 100 (upd zr15_142 (Int32.toNatClampNeg v1_142) 2) ++ (wA cI r22 4 (fun _ => 0) ++ (wA cI r30 8 (fun _ => 0) ++ (wA cI r38 8 (fun _ => 0) ++ (wA cI r46 60 (fun _ => 0) ++ (wA cI r54 60 (fun _ => 0) ++ (wA cI r62 60 (fun _ => 0) ++ (wA cI r70 60 (fun _ => 0) ++ (wA cI r79 203 (fun _ => 0) ++ (wA cI r87 6 (fun _ => 0) ++ (wA cI r95 6 (fun _ => 0) ++ (wAJ cJ r103 10 (fun _ => 0) ++ (wA cI r112 1000 (fun _ => 0) ++ (wA cI r121 480 (fun _ => 0) ++ (wAZ cZ r128 2 (fun _ => 0)))))))))))))))))) := hD
        refine lv_iinc (v := (v1_142 + 1)) (lv' := [(1, .int (v1_142 + 1)), (0, .ref b0)]) hx hb (dAt zX6_init_0 79 rfl) hl (k := 1) rfl rfl (by decide) rfl (fun ls hl => ?_)
        refine lv_goto (tgt := 142) hx hb (dAt zX6_init_0 80 rfl) (by decide) ?_
        exact ih_142 (v1_142 + 1) (upd zr15_142 (Int32.toNatClampNeg v1_142) 2) _ _ _ h hP hD hS (lv_sub hl [1, 0] rfl)
  exact L_142 n 0 (fun _ => 0) _ _ _ h hP hD hS (lv_sub hl [1, 0] rfl)
noncomputable def m_X5_init (n : Nat) : Option (TI × TI × TI × TI × TI × TI × TI × TI × TL) := ((m_X4_init n).bind fun u9 => ((m_X4_init n).bind fun u20 => ((m_X4_init n).bind fun u31 => ((m_X2_init n).bind fun u47 => ((m_X1_init n).bind fun u58 => ((m_X3_init n).bind fun u69 => ((m_X0_init n).bind fun u80 => some (mk5 0, u9, u20, u31, u47, u58.1, u58.2, u69, u80))))))))
set_option maxHeartbeats 4000000 in
set_option maxRecDepth 100000 in
theorem c_X5_init (l : Launch) (D : va_G) (cI cJ cZ : ClassId) (n : Nat) (b0 : Nat) (sz : Nat) (out : TI × TI × TI × TI × TI × TI × TI × TI × TL) (hm : m_X5_init n = some out) : Met l yX5_init (wsM yX5_init cX5_init 1 none) { frames := 3, cells := 29, slots := 1002, locals := 53 } (xPre D (kT cI cJ cZ) ([(b0, .inr (5, [.null, .null, .null, .int 0, .null, .null, .null, .null]))] : va_W) sz [.ref b0]) (xQvI D (kT cI cJ cZ) ([(b0, .inr (5, [.null, .null, .null, .int 0, .null, .null, .null, .null]))] : va_W) (fun q : (Nat → Nat) × (Nat → Nat) × (Nat → Nat) × (Nat → Nat) × (Nat → Nat) × (Nat → Nat) × (Nat → Nat) × (Nat → Nat) × (Nat → Nat) => (w5 q.1 q.2.1 q.2.2.1 q.2.2.2.1 q.2.2.2.2.1 q.2.2.2.2.2.1 q.2.2.2.2.2.2.2.1 q.2.2.2.2.2.2.2.2 out.1 ++ (w4 cI q.2.1 out.2.1 ++ (w4 cI q.2.2.1 out.2.2.1 ++ (w4 cI q.2.2.2.1 out.2.2.2.1 ++ (w2 cI q.2.2.2.2.1 out.2.2.2.2.1 ++ (w1 q.2.2.2.2.2.1 q.2.2.2.2.2.2.1 out.2.2.2.2.2.1 ++ (w4 cI q.2.2.2.2.2.2.1 out.2.2.2.2.2.2.1 ++ (w3 cI q.2.2.2.2.2.2.2.1 out.2.2.2.2.2.2.2.1 ++ (w0 cJ q.2.2.2.2.2.2.2.2 out.2.2.2.2.2.2.2.2)))))))))) sz (fun q => q.1 0 = b0)) 29 1002 (va_A ([(b0, .inr (5, [.null, .null, .null, .int 0, .null, .null, .null, .null]))] : va_W) sz) := by
  refine Met.ofW (cc := cX5_init) (maxL := 1) (ret := none) (by decide) rfl ?_
  intro p e s m args below meth c s₁ B hml hv
  obtain ⟨hv, hsz, hP, hK, hD0, hN⟩ := hv
  have hx := B.exec; have hb := B.bytes; have hr := B.returns
  have hts := atoms_spec (ws := (wsM yX5_init cX5_init 1 none)) B.pre
  have hown : s.vm.findClass RX5 = some m.cls := findClass_of_methodNamed B.named
  have hlocks := B.notSynchronized
  have hin : meth.name = "<init>" := (name_of_methodNamed B.named B.method).1
  subst hsz
  have hD := hD0.self (sz := s.heap.size)
  obtain ⟨A, hAe⟩ : ∃ A, A = va_A ([(b0, .inr (5, [.null, .null, .null, .int 0, .null, .null, .null, .null]))] : va_W) s.heap.size := ⟨_, rfl⟩
  rw [← hAe] at hD
  have hA : ∀ q : Nat, s.heap.size ≤ q → A q := fun q h => by rw [hAe]; exact Or.inr h
  have htl : ∀ w ∈ wsL_law, w.before args s = true := fun w h => hts w (List.mem_cons_of_mem _ h)
  refine xHead (R' := { frames := 3, cells := 29, slots := 1002, locals := 53 }) rfl (fun Q H hQ hH => ?_)
  have hP : va_P D vwCl ([(b0, .inr (5, [.null, .null, .null, .int 0, .null, .null, .null, .null]))] : va_W) H := by rw [hH]; exact hP
  have hS : va_S A s.heap H [] := by rw [hH]; exact va_S.rf
  refine xStart hv (Nat.le_of_ble_eq_true rfl) (lv := [(0, .ref b0)]) rfl (fun ls hl => ?_)
  have h := hm
  unfold m_X5_init at h
  refine lv_aload_n hx hb (dAt zX5_init_0 0 rfl) rfl (lv_at hl 0 rfl) ?_
  refine W.objInit hx hb hown (htl _ W_9) (htl _ W_10) (htl _ W_11) rfl (by rw [hml]; exact hl.1) rfl (dAt zX5_init_0 1 rfl) (Nat.le_of_ble_eq_true rfl) (Nat.le_of_ble_eq_true rfl) ?_
  refine W.eq (g2 := F0 m 4 ls []) rfl ?_
  refine lv_aload_n hx hb (dAt zX5_init_0 2 rfl) rfl (lv_at hl 0 rfl) ?_
  refine va_new (ci := 4) (fs := [.int 0, .int 0, .int 0, .int 0, .int 0, .null, .null, .null, .null]) (C := RX4) (T := TX4) (N := 9) hx hb htl inlX4 tyX4 tyX4_ok hown (htl _ W_12) (htl _ W_13) (htl _ W_14) hK hP hD hS hA rfl (fun j hj => by rcases (show j = 0 ∨ j = 1 ∨ j = 2 ∨ j = 3 ∨ j = 4 ∨ j = 5 ∨ j = 6 ∨ j = 7 ∨ j = 8 by omega) with rfl | rfl | rfl | rfl | rfl | rfl | rfl | rfl | rfl <;> rfl) (Nat.le_of_ble_eq_true rfl) (Nat.le_of_ble_eq_true rfl) (dAt zX5_init_0 3 rfl) (fun b5 H hP hD hS => ?_)
  have hP : va_P D vwCl (([(b0, .inr (5, [.null, .null, .null, .int 0, .null, .null, .null, .null]))] : va_W) ++ (([(b5, .inr (4, [.int 0, .int 0, .int 0, .int 0, .int 0, .null, .null, .null, .null]))] : va_W))) H := hP
  have hD : va_D A (([(b0, .inr (5, [.null, .null, .null, .int 0, .null, .null, .null, .null]))] : va_W) ++ (([(b5, .inr (4, [.int 0, .int 0, .int 0, .int 0, .int 0, .null, .null, .null, .null]))] : va_W))) := hD
  refine W.widen (k := 1) (n := 9) (by omega) (by omega) ?_
  refine lv_dup hx hb (dAt zX5_init_0 4 rfl) rfl ?_
  obtain ⟨u9, hu9, h⟩ := q_bind h
  have hPc : va_P D vwCl ([(b5, .inr (4, [.int 0, .int 0, .int 0, .int 0, .int 0, .null, .null, .null, .null]))] : va_W) H := hP.sub [1] rfl
  have hDc : va_D A ([(b5, .inr (4, [.int 0, .int 0, .int 0, .int 0, .int 0, .null, .null, .null, .null]))] : va_W) := hD.sub [1] (by decide) rfl
  refine xFvI (wc := ([(b5, .inr (4, [.int 0, .int 0, .int 0, .int 0, .int 0, .null, .null, .null, .null]))] : va_W)) (wr := (([(b0, .inr (5, [.null, .null, .null, .int 0, .null, .null, .null, .null]))] : va_W))) (va_runI (As := []) (rest := [.ref b5, .ref b0]) ⟨hx, hb, hml, hown, htl⟩ (c_X4_init l D cI cJ cZ n b5 H.size u9 hu9) (cwI 0 htl (gM W_37) rfl rfl rfl (htl _ W_14) (htl _ W_35) (htl _ W_36) rfl (by decide +kernel) ⟨Nat.le_of_ble_eq_true rfl, Nat.le_of_ble_eq_true rfl⟩) (xPS hPc hDc hK hN) rfl rfl hl.1 rfl (lv_room (Nat.le_of_ble_eq_true rfl)) (dAt zX5_init_0 5 rfl) ⟨Nat.le_of_ble_eq_true rfl, Nat.le_of_ble_eq_true rfl⟩) hS hA hP hD [1] [0] rfl rfl (by decide) (by decide) (fun q9 H2 locs2 e_q9 hP2 hD2 hS2 => ?_)
  subst e_q9
  have hS := hS2; clear hS2; have hP := hP2; clear hP2; have hD := hD2; clear hD2
  generalize H2 = H at hP hS ⊢; generalize locs2 = locs at hS ⊢
  have hP : va_P D vwCl (([(b0, .inr (5, [.null, .null, .null, .int 0, .null, .null, .null, .null]))] : va_W) ++ ((w4 cI q9 u9))) H := hP
  have hD : va_D A (([(b0, .inr (5, [.null, .null, .null, .int 0, .null, .null, .null, .null]))] : va_W) ++ ((w4 cI q9 u9))) := hD
  refine W.widen (k := 5) (n := 221) (by omega) (by omega) ?_
  refine va_putF (D := D) (ci := 5) (v := .ref (q9 0)) (ty := (.object "LastTrain$Town")) (C := RX5) (T := TX5) (N := 8) hx hb htl inlX5 tyX5 tyX5_ok nmX5 hown hK hP hD hS 0 rfl rfl 0 (by decide) (htl _ W_15) (fun _ h9 => h9) rfl hin rfl (by decide +kernel) rfl rfl (Nat.le_of_ble_eq_true rfl) (dAt zX5_init_0 6 rfl) (fun H locs hP hD hS => ?_)
  have hP : va_P D vwCl (([(b0, .inr (5, [.ref (q9 0), .null, .null, .int 0, .null, .null, .null, .null]))] : va_W) ++ ((w4 cI q9 u9))) H := hP
  have hD : va_D A (([(b0, .inr (5, [.ref (q9 0), .null, .null, .int 0, .null, .null, .null, .null]))] : va_W) ++ ((w4 cI q9 u9))) := hD
  refine lv_aload_n hx hb (dAt zX5_init_0 7 rfl) rfl (lv_at hl 0 rfl) ?_
  refine va_new (ci := 4) (fs := [.int 0, .int 0, .int 0, .int 0, .int 0, .null, .null, .null, .null]) (C := RX4) (T := TX4) (N := 9) hx hb htl inlX4 tyX4 tyX4_ok hown (htl _ W_12) (htl _ W_13) (htl _ W_14) hK hP hD hS hA rfl (fun j hj => by rcases (show j = 0 ∨ j = 1 ∨ j = 2 ∨ j = 3 ∨ j = 4 ∨ j = 5 ∨ j = 6 ∨ j = 7 ∨ j = 8 by omega) with rfl | rfl | rfl | rfl | rfl | rfl | rfl | rfl | rfl <;> rfl) (Nat.le_of_ble_eq_true rfl) (Nat.le_of_ble_eq_true rfl) (dAt zX5_init_0 8 rfl) (fun b16 H hP hD hS => ?_)
  have hP : va_P D vwCl (([(b0, .inr (5, [.ref (q9 0), .null, .null, .int 0, .null, .null, .null, .null]))] : va_W) ++ ((w4 cI q9 u9) ++ (([(b16, .inr (4, [.int 0, .int 0, .int 0, .int 0, .int 0, .null, .null, .null, .null]))] : va_W)))) H := hP
  have hD : va_D A (([(b0, .inr (5, [.ref (q9 0), .null, .null, .int 0, .null, .null, .null, .null]))] : va_W) ++ ((w4 cI q9 u9) ++ (([(b16, .inr (4, [.int 0, .int 0, .int 0, .int 0, .int 0, .null, .null, .null, .null]))] : va_W)))) := hD
  refine W.widen (k := 6) (n := 230) (by omega) (by omega) ?_
  refine lv_dup hx hb (dAt zX5_init_0 9 rfl) rfl ?_
  obtain ⟨u20, hu20, h⟩ := q_bind h
  have hPc : va_P D vwCl ([(b16, .inr (4, [.int 0, .int 0, .int 0, .int 0, .int 0, .null, .null, .null, .null]))] : va_W) H := hP.sub [6] rfl
  have hDc : va_D A ([(b16, .inr (4, [.int 0, .int 0, .int 0, .int 0, .int 0, .null, .null, .null, .null]))] : va_W) := hD.sub [6] (by decide) rfl
  refine xFvI (wc := ([(b16, .inr (4, [.int 0, .int 0, .int 0, .int 0, .int 0, .null, .null, .null, .null]))] : va_W)) (wr := (([(b0, .inr (5, [.ref (q9 0), .null, .null, .int 0, .null, .null, .null, .null]))] : va_W) ++ ((w4 cI q9 u9)))) (va_runI (As := []) (rest := [.ref b16, .ref b0]) ⟨hx, hb, hml, hown, htl⟩ (c_X4_init l D cI cJ cZ n b16 H.size u20 hu20) (cwI 0 htl (gM W_37) rfl rfl rfl (htl _ W_14) (htl _ W_35) (htl _ W_36) rfl (by decide +kernel) ⟨Nat.le_of_ble_eq_true rfl, Nat.le_of_ble_eq_true rfl⟩) (xPS hPc hDc hK hN) rfl rfl hl.1 rfl (lv_room (Nat.le_of_ble_eq_true rfl)) (dAt zX5_init_0 10 rfl) ⟨Nat.le_of_ble_eq_true rfl, Nat.le_of_ble_eq_true rfl⟩) hS hA hP hD [6] [0, 1, 2, 3, 4, 5] rfl rfl (by decide) (by decide) (fun q20 H2 locs2 e_q20 hP2 hD2 hS2 => ?_)
  subst e_q20
  have hS := hS2; clear hS2; have hP := hP2; clear hP2; have hD := hD2; clear hD2
  generalize H2 = H at hP hS ⊢; generalize locs2 = locs at hS ⊢
  have hP : va_P D vwCl (([(b0, .inr (5, [.ref (q9 0), .null, .null, .int 0, .null, .null, .null, .null]))] : va_W) ++ ((w4 cI q9 u9) ++ ((w4 cI q20 u20)))) H := hP
  have hD : va_D A (([(b0, .inr (5, [.ref (q9 0), .null, .null, .int 0, .null, .null, .null, .null]))] : va_W) ++ ((w4 cI q9 u9) ++ ((w4 cI q20 u20)))) := hD
  refine W.widen (k := 10) (n := 442) (by omega) (by omega) ?_
  refine va_putF (D := D) (ci := 5) (v := .ref (q20 0)) (ty := (.object "LastTrain$Town")) (C := RX5) (T := TX5) (N := 8) hx hb htl inlX5 tyX5 tyX5_ok nmX5 hown hK hP hD hS 0 rfl rfl 1 (by decide) (htl _ W_16) (fun _ h9 => h9) rfl hin rfl (by decide +kernel) rfl rfl (Nat.le_of_ble_eq_true rfl) (dAt zX5_init_0 11 rfl) (fun H locs hP hD hS => ?_)
  have hP : va_P D vwCl (([(b0, .inr (5, [.ref (q9 0), .ref (q20 0), .null, .int 0, .null, .null, .null, .null]))] : va_W) ++ ((w4 cI q9 u9) ++ ((w4 cI q20 u20)))) H := hP
  have hD : va_D A (([(b0, .inr (5, [.ref (q9 0), .ref (q20 0), .null, .int 0, .null, .null, .null, .null]))] : va_W) ++ ((w4 cI q9 u9) ++ ((w4 cI q20 u20)))) := hD
  refine lv_aload_n hx hb (dAt zX5_init_0 12 rfl) rfl (lv_at hl 0 rfl) ?_
  refine va_new (ci := 4) (fs := [.int 0, .int 0, .int 0, .int 0, .int 0, .null, .null, .null, .null]) (C := RX4) (T := TX4) (N := 9) hx hb htl inlX4 tyX4 tyX4_ok hown (htl _ W_12) (htl _ W_13) (htl _ W_14) hK hP hD hS hA rfl (fun j hj => by rcases (show j = 0 ∨ j = 1 ∨ j = 2 ∨ j = 3 ∨ j = 4 ∨ j = 5 ∨ j = 6 ∨ j = 7 ∨ j = 8 by omega) with rfl | rfl | rfl | rfl | rfl | rfl | rfl | rfl | rfl <;> rfl) (Nat.le_of_ble_eq_true rfl) (Nat.le_of_ble_eq_true rfl) (dAt zX5_init_0 13 rfl) (fun b27 H hP hD hS => ?_)
  have hP : va_P D vwCl (([(b0, .inr (5, [.ref (q9 0), .ref (q20 0), .null, .int 0, .null, .null, .null, .null]))] : va_W) ++ ((w4 cI q9 u9) ++ ((w4 cI q20 u20) ++ (([(b27, .inr (4, [.int 0, .int 0, .int 0, .int 0, .int 0, .null, .null, .null, .null]))] : va_W))))) H := hP
  have hD : va_D A (([(b0, .inr (5, [.ref (q9 0), .ref (q20 0), .null, .int 0, .null, .null, .null, .null]))] : va_W) ++ ((w4 cI q9 u9) ++ ((w4 cI q20 u20) ++ (([(b27, .inr (4, [.int 0, .int 0, .int 0, .int 0, .int 0, .null, .null, .null, .null]))] : va_W))))) := hD
  refine W.widen (k := 11) (n := 451) (by omega) (by omega) ?_
  refine lv_dup hx hb (dAt zX5_init_0 14 rfl) rfl ?_
  obtain ⟨u31, hu31, h⟩ := q_bind h
  have hPc : va_P D vwCl ([(b27, .inr (4, [.int 0, .int 0, .int 0, .int 0, .int 0, .null, .null, .null, .null]))] : va_W) H := hP.sub [11] rfl
  have hDc : va_D A ([(b27, .inr (4, [.int 0, .int 0, .int 0, .int 0, .int 0, .null, .null, .null, .null]))] : va_W) := hD.sub [11] (by decide) rfl
  refine xFvI (wc := ([(b27, .inr (4, [.int 0, .int 0, .int 0, .int 0, .int 0, .null, .null, .null, .null]))] : va_W)) (wr := (([(b0, .inr (5, [.ref (q9 0), .ref (q20 0), .null, .int 0, .null, .null, .null, .null]))] : va_W) ++ ((w4 cI q9 u9) ++ ((w4 cI q20 u20))))) (va_runI (As := []) (rest := [.ref b27, .ref b0]) ⟨hx, hb, hml, hown, htl⟩ (c_X4_init l D cI cJ cZ n b27 H.size u31 hu31) (cwI 0 htl (gM W_37) rfl rfl rfl (htl _ W_14) (htl _ W_35) (htl _ W_36) rfl (by decide +kernel) ⟨Nat.le_of_ble_eq_true rfl, Nat.le_of_ble_eq_true rfl⟩) (xPS hPc hDc hK hN) rfl rfl hl.1 rfl (lv_room (Nat.le_of_ble_eq_true rfl)) (dAt zX5_init_0 15 rfl) ⟨Nat.le_of_ble_eq_true rfl, Nat.le_of_ble_eq_true rfl⟩) hS hA hP hD [11] [0, 1, 2, 3, 4, 5, 6, 7, 8, 9, 10] rfl rfl (by decide) (by decide) (fun q31 H2 locs2 e_q31 hP2 hD2 hS2 => ?_)
  subst e_q31
  have hS := hS2; clear hS2; have hP := hP2; clear hP2; have hD := hD2; clear hD2
  generalize H2 = H at hP hS ⊢; generalize locs2 = locs at hS ⊢
  have hP : va_P D vwCl (([(b0, .inr (5, [.ref (q9 0), .ref (q20 0), .null, .int 0, .null, .null, .null, .null]))] : va_W) ++ ((w4 cI q9 u9) ++ ((w4 cI q20 u20) ++ ((w4 cI q31 u31))))) H := hP
  have hD : va_D A (([(b0, .inr (5, [.ref (q9 0), .ref (q20 0), .null, .int 0, .null, .null, .null, .null]))] : va_W) ++ ((w4 cI q9 u9) ++ ((w4 cI q20 u20) ++ ((w4 cI q31 u31))))) := hD
  refine W.widen (k := 15) (n := 663) (by omega) (by omega) ?_
  refine va_putF (D := D) (ci := 5) (v := .ref (q31 0)) (ty := (.object "LastTrain$Town")) (C := RX5) (T := TX5) (N := 8) hx hb htl inlX5 tyX5 tyX5_ok nmX5 hown hK hP hD hS 0 rfl rfl 2 (by decide) (htl _ W_17) (fun _ h9 => h9) rfl hin rfl (by decide +kernel) rfl rfl (Nat.le_of_ble_eq_true rfl) (dAt zX5_init_0 16 rfl) (fun H locs hP hD hS => ?_)
  have hP : va_P D vwCl (([(b0, .inr (5, [.ref (q9 0), .ref (q20 0), .ref (q31 0), .int 0, .null, .null, .null, .null]))] : va_W) ++ ((w4 cI q9 u9) ++ ((w4 cI q20 u20) ++ ((w4 cI q31 u31))))) H := hP
  have hD : va_D A (([(b0, .inr (5, [.ref (q9 0), .ref (q20 0), .ref (q31 0), .int 0, .null, .null, .null, .null]))] : va_W) ++ ((w4 cI q9 u9) ++ ((w4 cI q20 u20) ++ ((w4 cI q31 u31))))) := hD
  refine lv_aload_n hx hb (dAt zX5_init_0 17 rfl) rfl (lv_at hl 0 rfl) ?_
  refine lv_iconst (v := 0) hx hb (dAt zX5_init_0 18 rfl) (by decide) ?_
  refine va_put (D := D) (ci := 5) (v := .int 0) (ty := .int) (C := RX5) (T := TX5) (N := 8) hx hb htl inlX5 tyX5 tyX5_ok nmX5 hown hK hP hD hS 0 rfl rfl 3 (by decide) (htl _ W_18) (fun _ h9 => h9) rfl (by decide +kernel) rfl rfl (Nat.le_of_ble_eq_true rfl) (dAt zX5_init_0 19 rfl) (fun H locs hP hD hS => ?_)
  have hP : va_P D vwCl (([(b0, .inr (5, [.ref (q9 0), .ref (q20 0), .ref (q31 0), .int 0, .null, .null, .null, .null]))] : va_W) ++ ((w4 cI q9 u9) ++ ((w4 cI q20 u20) ++ ((w4 cI q31 u31))))) H := hP
  have hD : va_D A (([(b0, .inr (5, [.ref (q9 0), .ref (q20 0), .ref (q31 0), .int 0, .null, .null, .null, .null]))] : va_W) ++ ((w4 cI q9 u9) ++ ((w4 cI q20 u20) ++ ((w4 cI q31 u31))))) := hD
  refine lv_aload_n hx hb (dAt zX5_init_0 20 rfl) rfl (lv_at hl 0 rfl) ?_
  refine va_new (ci := 2) (fs := [.null, .int 0]) (C := RX2) (T := TX2) (N := 2) hx hb htl inlX2 tyX2 tyX2_ok hown (htl _ W_19) (htl _ W_20) (htl _ W_21) hK hP hD hS hA rfl (fun j hj => by rcases (show j = 0 ∨ j = 1 by omega) with rfl | rfl <;> rfl) (Nat.le_of_ble_eq_true rfl) (Nat.le_of_ble_eq_true rfl) (dAt zX5_init_0 21 rfl) (fun b43 H hP hD hS => ?_)
  have hP : va_P D vwCl (([(b0, .inr (5, [.ref (q9 0), .ref (q20 0), .ref (q31 0), .int 0, .null, .null, .null, .null]))] : va_W) ++ ((w4 cI q9 u9) ++ ((w4 cI q20 u20) ++ ((w4 cI q31 u31) ++ (([(b43, .inr (2, [.null, .int 0]))] : va_W)))))) H := hP
  have hD : va_D A (([(b0, .inr (5, [.ref (q9 0), .ref (q20 0), .ref (q31 0), .int 0, .null, .null, .null, .null]))] : va_W) ++ ((w4 cI q9 u9) ++ ((w4 cI q20 u20) ++ ((w4 cI q31 u31) ++ (([(b43, .inr (2, [.null, .int 0]))] : va_W)))))) := hD
  refine W.widen (k := 16) (n := 665) (by omega) (by omega) ?_
  refine lv_dup hx hb (dAt zX5_init_0 22 rfl) rfl ?_
  obtain ⟨u47, hu47, h⟩ := q_bind h
  have hPc : va_P D vwCl ([(b43, .inr (2, [.null, .int 0]))] : va_W) H := hP.sub [16] rfl
  have hDc : va_D A ([(b43, .inr (2, [.null, .int 0]))] : va_W) := hD.sub [16] (by decide) rfl
  refine xFvI (wc := ([(b43, .inr (2, [.null, .int 0]))] : va_W)) (wr := (([(b0, .inr (5, [.ref (q9 0), .ref (q20 0), .ref (q31 0), .int 0, .null, .null, .null, .null]))] : va_W) ++ ((w4 cI q9 u9) ++ ((w4 cI q20 u20) ++ ((w4 cI q31 u31)))))) (va_runIN (host := RX5) (As := []) (rest := [.ref b43, .ref b0]) ⟨hx, hb, hml, hown, htl⟩ (c_X2_init l D cI cJ cZ n b43 H.size u47 hu47) ⟨va_cnB 0 htl (gM W_50) rfl rfl rfl hN.2.2.2.2.1 (htl _ W_21) (by decide +kernel) ⟨Nat.le_of_ble_eq_true rfl, Nat.le_of_ble_eq_true rfl⟩, rfl, htl _ W_49⟩ (xPS hPc hDc hK hN) rfl rfl hl.1 rfl (lv_room (Nat.le_of_ble_eq_true rfl)) (dAt zX5_init_0 23 rfl) ⟨Nat.le_of_ble_eq_true rfl, Nat.le_of_ble_eq_true rfl⟩) hS hA hP hD [16] [0, 1, 2, 3, 4, 5, 6, 7, 8, 9, 10, 11, 12, 13, 14, 15] rfl rfl (by decide) (by decide) (fun q47 H2 locs2 e_q47 hP2 hD2 hS2 => ?_)
  subst e_q47
  have hS := hS2; clear hS2; have hP := hP2; clear hP2; have hD := hD2; clear hD2
  generalize H2 = H at hP hS ⊢; generalize locs2 = locs at hS ⊢
  have hP : va_P D vwCl (([(b0, .inr (5, [.ref (q9 0), .ref (q20 0), .ref (q31 0), .int 0, .null, .null, .null, .null]))] : va_W) ++ ((w4 cI q9 u9) ++ ((w4 cI q20 u20) ++ ((w4 cI q31 u31) ++ ((w2 cI q47 u47)))))) H := hP
  have hD : va_D A (([(b0, .inr (5, [.ref (q9 0), .ref (q20 0), .ref (q31 0), .int 0, .null, .null, .null, .null]))] : va_W) ++ ((w4 cI q9 u9) ++ ((w4 cI q20 u20) ++ ((w4 cI q31 u31) ++ ((w2 cI q47 u47)))))) := hD
  refine W.widen (k := 17) (n := 725) (by omega) (by omega) ?_
  refine va_putF (D := D) (ci := 5) (v := .ref (q47 0)) (ty := (.object "LastTrain$Pad")) (C := RX5) (T := TX5) (N := 8) hx hb htl inlX5 tyX5 tyX5_ok nmX5 hown hK hP hD hS 0 rfl rfl 4 (by decide) (htl _ W_22) (fun _ h9 => h9) rfl hin rfl (by decide +kernel) rfl rfl (Nat.le_of_ble_eq_true rfl) (dAt zX5_init_0 24 rfl) (fun H locs hP hD hS => ?_)
  have hP : va_P D vwCl (([(b0, .inr (5, [.ref (q9 0), .ref (q20 0), .ref (q31 0), .int 0, .ref (q47 0), .null, .null, .null]))] : va_W) ++ ((w4 cI q9 u9) ++ ((w4 cI q20 u20) ++ ((w4 cI q31 u31) ++ ((w2 cI q47 u47)))))) H := hP
  have hD : va_D A (([(b0, .inr (5, [.ref (q9 0), .ref (q20 0), .ref (q31 0), .int 0, .ref (q47 0), .null, .null, .null]))] : va_W) ++ ((w4 cI q9 u9) ++ ((w4 cI q20 u20) ++ ((w4 cI q31 u31) ++ ((w2 cI q47 u47)))))) := hD
  refine lv_aload_n hx hb (dAt zX5_init_0 25 rfl) rfl (lv_at hl 0 rfl) ?_
  refine va_new (ci := 1) (fs := [.null, .int 0, .int 0, .int 0, .int 0, .int 0, .int 0]) (C := RX1) (T := TX1) (N := 7) hx hb htl inlX1 tyX1 tyX1_ok hown (htl _ W_23) (htl _ W_24) (htl _ W_25) hK hP hD hS hA rfl (fun j hj => by rcases (show j = 0 ∨ j = 1 ∨ j = 2 ∨ j = 3 ∨ j = 4 ∨ j = 5 ∨ j = 6 by omega) with rfl | rfl | rfl | rfl | rfl | rfl | rfl <;> rfl) (Nat.le_of_ble_eq_true rfl) (Nat.le_of_ble_eq_true rfl) (dAt zX5_init_0 26 rfl) (fun b54 H hP hD hS => ?_)
  have hP : va_P D vwCl (([(b0, .inr (5, [.ref (q9 0), .ref (q20 0), .ref (q31 0), .int 0, .ref (q47 0), .null, .null, .null]))] : va_W) ++ ((w4 cI q9 u9) ++ ((w4 cI q20 u20) ++ ((w4 cI q31 u31) ++ ((w2 cI q47 u47) ++ (([(b54, .inr (1, [.null, .int 0, .int 0, .int 0, .int 0, .int 0, .int 0]))] : va_W))))))) H := hP
  have hD : va_D A (([(b0, .inr (5, [.ref (q9 0), .ref (q20 0), .ref (q31 0), .int 0, .ref (q47 0), .null, .null, .null]))] : va_W) ++ ((w4 cI q9 u9) ++ ((w4 cI q20 u20) ++ ((w4 cI q31 u31) ++ ((w2 cI q47 u47) ++ (([(b54, .inr (1, [.null, .int 0, .int 0, .int 0, .int 0, .int 0, .int 0]))] : va_W))))))) := hD
  refine W.widen (k := 18) (n := 732) (by omega) (by omega) ?_
  refine lv_dup hx hb (dAt zX5_init_0 27 rfl) rfl ?_
  obtain ⟨u58, hu58, h⟩ := q_bind h
  have hPc : va_P D vwCl ([(b54, .inr (1, [.null, .int 0, .int 0, .int 0, .int 0, .int 0, .int 0]))] : va_W) H := hP.sub [18] rfl
  have hDc : va_D A ([(b54, .inr (1, [.null, .int 0, .int 0, .int 0, .int 0, .int 0, .int 0]))] : va_W) := hD.sub [18] (by decide) rfl
  refine xFvI (wc := ([(b54, .inr (1, [.null, .int 0, .int 0, .int 0, .int 0, .int 0, .int 0]))] : va_W)) (wr := (([(b0, .inr (5, [.ref (q9 0), .ref (q20 0), .ref (q31 0), .int 0, .ref (q47 0), .null, .null, .null]))] : va_W) ++ ((w4 cI q9 u9) ++ ((w4 cI q20 u20) ++ ((w4 cI q31 u31) ++ ((w2 cI q47 u47))))))) (va_runIN (host := RX5) (As := []) (rest := [.ref b54, .ref b0]) ⟨hx, hb, hml, hown, htl⟩ (c_X1_init l D cI cJ cZ n b54 H.size u58 hu58) ⟨va_cnB 0 htl (gM W_55) rfl rfl rfl hN.2.2.2.2.2.1 (htl _ W_25) (by decide +kernel) ⟨Nat.le_of_ble_eq_true rfl, Nat.le_of_ble_eq_true rfl⟩, rfl, htl _ W_54⟩ (xPS hPc hDc hK hN) rfl rfl hl.1 rfl (lv_room (Nat.le_of_ble_eq_true rfl)) (dAt zX5_init_0 28 rfl) ⟨Nat.le_of_ble_eq_true rfl, Nat.le_of_ble_eq_true rfl⟩) hS hA hP hD [18] [0, 1, 2, 3, 4, 5, 6, 7, 8, 9, 10, 11, 12, 13, 14, 15, 16, 17] rfl rfl (by decide) (by decide) (fun q58 H2 locs2 e_q58 hP2 hD2 hS2 => ?_)
  subst e_q58
  have hS := hS2; clear hS2; have hP := hP2; clear hP2; have hD := hD2; clear hD2
  generalize H2 = H at hP hS ⊢; generalize locs2 = locs at hS ⊢
  have hP : va_P D vwCl (([(b0, .inr (5, [.ref (q9 0), .ref (q20 0), .ref (q31 0), .int 0, .ref (q47 0), .null, .null, .null]))] : va_W) ++ ((w4 cI q9 u9) ++ ((w4 cI q20 u20) ++ ((w4 cI q31 u31) ++ ((w2 cI q47 u47) ++ ((w1 q58.1 q58.2 u58.1 ++ w4 cI q58.2 u58.2))))))) H := hP
  have hD : va_D A (([(b0, .inr (5, [.ref (q9 0), .ref (q20 0), .ref (q31 0), .int 0, .ref (q47 0), .null, .null, .null]))] : va_W) ++ ((w4 cI q9 u9) ++ ((w4 cI q20 u20) ++ ((w4 cI q31 u31) ++ ((w2 cI q47 u47) ++ ((w1 q58.1 q58.2 u58.1 ++ w4 cI q58.2 u58.2))))))) := hD
  refine W.widen (k := 23) (n := 953) (by omega) (by omega) ?_
  refine va_putF (D := D) (ci := 5) (v := .ref (q58.1 0)) (ty := (.object "LastTrain$Course")) (C := RX5) (T := TX5) (N := 8) hx hb htl inlX5 tyX5 tyX5_ok nmX5 hown hK hP hD hS 0 rfl rfl 5 (by decide) (htl _ W_26) (fun _ h9 => h9) rfl hin rfl (by decide +kernel) rfl rfl (Nat.le_of_ble_eq_true rfl) (dAt zX5_init_0 29 rfl) (fun H locs hP hD hS => ?_)
  have hP : va_P D vwCl (([(b0, .inr (5, [.ref (q9 0), .ref (q20 0), .ref (q31 0), .int 0, .ref (q47 0), .ref (q58.1 0), .null, .null]))] : va_W) ++ ((w4 cI q9 u9) ++ ((w4 cI q20 u20) ++ ((w4 cI q31 u31) ++ ((w2 cI q47 u47) ++ ((w1 q58.1 q58.2 u58.1 ++ w4 cI q58.2 u58.2))))))) H := hP
  have hD : va_D A (([(b0, .inr (5, [.ref (q9 0), .ref (q20 0), .ref (q31 0), .int 0, .ref (q47 0), .ref (q58.1 0), .null, .null]))] : va_W) ++ ((w4 cI q9 u9) ++ ((w4 cI q20 u20) ++ ((w4 cI q31 u31) ++ ((w2 cI q47 u47) ++ ((w1 q58.1 q58.2 u58.1 ++ w4 cI q58.2 u58.2))))))) := hD
  refine lv_aload_n hx hb (dAt zX5_init_0 30 rfl) rfl (lv_at hl 0 rfl) ?_
  refine va_new (ci := 3) (fs := [.null, .null, .null, .int 0]) (C := RX3) (T := TX3) (N := 4) hx hb htl inlX3 tyX3 tyX3_ok hown (htl _ W_27) (htl _ W_28) (htl _ W_29) hK hP hD hS hA rfl (fun j hj => by rcases (show j = 0 ∨ j = 1 ∨ j = 2 ∨ j = 3 by omega) with rfl | rfl | rfl | rfl <;> rfl) (Nat.le_of_ble_eq_true rfl) (Nat.le_of_ble_eq_true rfl) (dAt zX5_init_0 31 rfl) (fun b65 H hP hD hS => ?_)
  have hP : va_P D vwCl (([(b0, .inr (5, [.ref (q9 0), .ref (q20 0), .ref (q31 0), .int 0, .ref (q47 0), .ref (q58.1 0), .null, .null]))] : va_W) ++ ((w4 cI q9 u9) ++ ((w4 cI q20 u20) ++ ((w4 cI q31 u31) ++ ((w2 cI q47 u47) ++ ((w1 q58.1 q58.2 u58.1 ++ w4 cI q58.2 u58.2) ++ (([(b65, .inr (3, [.null, .null, .null, .int 0]))] : va_W)))))))) H := hP
  have hD : va_D A (([(b0, .inr (5, [.ref (q9 0), .ref (q20 0), .ref (q31 0), .int 0, .ref (q47 0), .ref (q58.1 0), .null, .null]))] : va_W) ++ ((w4 cI q9 u9) ++ ((w4 cI q20 u20) ++ ((w4 cI q31 u31) ++ ((w2 cI q47 u47) ++ ((w1 q58.1 q58.2 u58.1 ++ w4 cI q58.2 u58.2) ++ (([(b65, .inr (3, [.null, .null, .null, .int 0]))] : va_W)))))))) := hD
  refine W.widen (k := 24) (n := 957) (by omega) (by omega) ?_
  refine lv_dup hx hb (dAt zX5_init_0 32 rfl) rfl ?_
  obtain ⟨u69, hu69, h⟩ := q_bind h
  have hPc : va_P D vwCl ([(b65, .inr (3, [.null, .null, .null, .int 0]))] : va_W) H := hP.sub [24] rfl
  have hDc : va_D A ([(b65, .inr (3, [.null, .null, .null, .int 0]))] : va_W) := hD.sub [24] (by decide) rfl
  refine xFvI (wc := ([(b65, .inr (3, [.null, .null, .null, .int 0]))] : va_W)) (wr := (([(b0, .inr (5, [.ref (q9 0), .ref (q20 0), .ref (q31 0), .int 0, .ref (q47 0), .ref (q58.1 0), .null, .null]))] : va_W) ++ ((w4 cI q9 u9) ++ ((w4 cI q20 u20) ++ ((w4 cI q31 u31) ++ ((w2 cI q47 u47) ++ ((w1 q58.1 q58.2 u58.1 ++ w4 cI q58.2 u58.2)))))))) (va_runIN (host := RX5) (As := []) (rest := [.ref b65, .ref b0]) ⟨hx, hb, hml, hown, htl⟩ (c_X3_init l D cI cJ cZ n b65 H.size u69 hu69) ⟨va_cnB 0 htl (gM W_67) rfl rfl rfl hN.2.2.2.2.2.2.1 (htl _ W_29) (by decide +kernel) ⟨Nat.le_of_ble_eq_true rfl, Nat.le_of_ble_eq_true rfl⟩, rfl, htl _ W_66⟩ (xPS hPc hDc hK hN) rfl rfl hl.1 rfl (lv_room (Nat.le_of_ble_eq_true rfl)) (dAt zX5_init_0 33 rfl) ⟨Nat.le_of_ble_eq_true rfl, Nat.le_of_ble_eq_true rfl⟩) hS hA hP hD [24] [0, 1, 2, 3, 4, 5, 6, 7, 8, 9, 10, 11, 12, 13, 14, 15, 16, 17, 18, 19, 20, 21, 22, 23] rfl rfl (by decide) (by decide) (fun q69 H2 locs2 e_q69 hP2 hD2 hS2 => ?_)
  subst e_q69
  have hS := hS2; clear hS2; have hP := hP2; clear hP2; have hD := hD2; clear hD2
  generalize H2 = H at hP hS ⊢; generalize locs2 = locs at hS ⊢
  have hP : va_P D vwCl (([(b0, .inr (5, [.ref (q9 0), .ref (q20 0), .ref (q31 0), .int 0, .ref (q47 0), .ref (q58.1 0), .null, .null]))] : va_W) ++ ((w4 cI q9 u9) ++ ((w4 cI q20 u20) ++ ((w4 cI q31 u31) ++ ((w2 cI q47 u47) ++ ((w1 q58.1 q58.2 u58.1 ++ w4 cI q58.2 u58.2) ++ ((w3 cI q69 u69)))))))) H := hP
  have hD : va_D A (([(b0, .inr (5, [.ref (q9 0), .ref (q20 0), .ref (q31 0), .int 0, .ref (q47 0), .ref (q58.1 0), .null, .null]))] : va_W) ++ ((w4 cI q9 u9) ++ ((w4 cI q20 u20) ++ ((w4 cI q31 u31) ++ ((w2 cI q47 u47) ++ ((w1 q58.1 q58.2 u58.1 ++ w4 cI q58.2 u58.2) ++ ((w3 cI q69 u69)))))))) := hD
  refine W.widen (k := 27) (n := 987) (by omega) (by omega) ?_
  refine va_putF (D := D) (ci := 5) (v := .ref (q69 0)) (ty := (.object "LastTrain$Platform")) (C := RX5) (T := TX5) (N := 8) hx hb htl inlX5 tyX5 tyX5_ok nmX5 hown hK hP hD hS 0 rfl rfl 6 (by decide) (htl _ W_30) (fun _ h9 => h9) rfl hin rfl (by decide +kernel) rfl rfl (Nat.le_of_ble_eq_true rfl) (dAt zX5_init_0 34 rfl) (fun H locs hP hD hS => ?_)
  have hP : va_P D vwCl (([(b0, .inr (5, [.ref (q9 0), .ref (q20 0), .ref (q31 0), .int 0, .ref (q47 0), .ref (q58.1 0), .ref (q69 0), .null]))] : va_W) ++ ((w4 cI q9 u9) ++ ((w4 cI q20 u20) ++ ((w4 cI q31 u31) ++ ((w2 cI q47 u47) ++ ((w1 q58.1 q58.2 u58.1 ++ w4 cI q58.2 u58.2) ++ ((w3 cI q69 u69)))))))) H := hP
  have hD : va_D A (([(b0, .inr (5, [.ref (q9 0), .ref (q20 0), .ref (q31 0), .int 0, .ref (q47 0), .ref (q58.1 0), .ref (q69 0), .null]))] : va_W) ++ ((w4 cI q9 u9) ++ ((w4 cI q20 u20) ++ ((w4 cI q31 u31) ++ ((w2 cI q47 u47) ++ ((w1 q58.1 q58.2 u58.1 ++ w4 cI q58.2 u58.2) ++ ((w3 cI q69 u69)))))))) := hD
  refine lv_aload_n hx hb (dAt zX5_init_0 35 rfl) rfl (lv_at hl 0 rfl) ?_
  refine va_new (ci := 0) (fs := [.null, .long 0, .long 0, .long 0]) (C := RX0) (T := TX0) (N := 4) hx hb htl inlX0 tyX0 tyX0_ok hown (htl _ W_31) (htl _ W_32) (htl _ W_33) hK hP hD hS hA rfl (fun j hj => by rcases (show j = 0 ∨ j = 1 ∨ j = 2 ∨ j = 3 by omega) with rfl | rfl | rfl | rfl <;> rfl) (Nat.le_of_ble_eq_true rfl) (Nat.le_of_ble_eq_true rfl) (dAt zX5_init_0 36 rfl) (fun b76 H hP hD hS => ?_)
  have hP : va_P D vwCl (([(b0, .inr (5, [.ref (q9 0), .ref (q20 0), .ref (q31 0), .int 0, .ref (q47 0), .ref (q58.1 0), .ref (q69 0), .null]))] : va_W) ++ ((w4 cI q9 u9) ++ ((w4 cI q20 u20) ++ ((w4 cI q31 u31) ++ ((w2 cI q47 u47) ++ ((w1 q58.1 q58.2 u58.1 ++ w4 cI q58.2 u58.2) ++ ((w3 cI q69 u69) ++ (([(b76, .inr (0, [.null, .long 0, .long 0, .long 0]))] : va_W))))))))) H := hP
  have hD : va_D A (([(b0, .inr (5, [.ref (q9 0), .ref (q20 0), .ref (q31 0), .int 0, .ref (q47 0), .ref (q58.1 0), .ref (q69 0), .null]))] : va_W) ++ ((w4 cI q9 u9) ++ ((w4 cI q20 u20) ++ ((w4 cI q31 u31) ++ ((w2 cI q47 u47) ++ ((w1 q58.1 q58.2 u58.1 ++ w4 cI q58.2 u58.2) ++ ((w3 cI q69 u69) ++ (([(b76, .inr (0, [.null, .long 0, .long 0, .long 0]))] : va_W))))))))) := hD
  refine W.widen (k := 28) (n := 991) (by omega) (by omega) ?_
  refine lv_dup hx hb (dAt zX5_init_0 37 rfl) rfl ?_
  obtain ⟨u80, hu80, h⟩ := q_bind h
  have hPc : va_P D vwCl ([(b76, .inr (0, [.null, .long 0, .long 0, .long 0]))] : va_W) H := hP.sub [28] rfl
  have hDc : va_D A ([(b76, .inr (0, [.null, .long 0, .long 0, .long 0]))] : va_W) := hD.sub [28] (by decide) rfl
  refine xFvI (wc := ([(b76, .inr (0, [.null, .long 0, .long 0, .long 0]))] : va_W)) (wr := (([(b0, .inr (5, [.ref (q9 0), .ref (q20 0), .ref (q31 0), .int 0, .ref (q47 0), .ref (q58.1 0), .ref (q69 0), .null]))] : va_W) ++ ((w4 cI q9 u9) ++ ((w4 cI q20 u20) ++ ((w4 cI q31 u31) ++ ((w2 cI q47 u47) ++ ((w1 q58.1 q58.2 u58.1 ++ w4 cI q58.2 u58.2) ++ ((w3 cI q69 u69))))))))) (va_runIN (host := RX5) (As := []) (rest := [.ref b76, .ref b0]) ⟨hx, hb, hml, hown, htl⟩ (c_X0_init l D cI cJ cZ n b76 H.size u80 hu80) ⟨va_cnB 0 htl (gM W_74) rfl rfl rfl hN.2.2.2.2.2.2.2 (htl _ W_33) (by decide +kernel) ⟨Nat.le_of_ble_eq_true rfl, Nat.le_of_ble_eq_true rfl⟩, rfl, htl _ W_73⟩ (xPS hPc hDc hK hN) rfl rfl hl.1 rfl (lv_room (Nat.le_of_ble_eq_true rfl)) (dAt zX5_init_0 38 rfl) ⟨Nat.le_of_ble_eq_true rfl, Nat.le_of_ble_eq_true rfl⟩) hS hA hP hD [28] [0, 1, 2, 3, 4, 5, 6, 7, 8, 9, 10, 11, 12, 13, 14, 15, 16, 17, 18, 19, 20, 21, 22, 23, 24, 25, 26, 27] rfl rfl (by decide) (by decide) (fun q80 H2 locs2 e_q80 hP2 hD2 hS2 => ?_)
  subst e_q80
  have hS := hS2; clear hS2; have hP := hP2; clear hP2; have hD := hD2; clear hD2
  generalize H2 = H at hP hS ⊢; generalize locs2 = locs at hS ⊢
  have hP : va_P D vwCl (([(b0, .inr (5, [.ref (q9 0), .ref (q20 0), .ref (q31 0), .int 0, .ref (q47 0), .ref (q58.1 0), .ref (q69 0), .null]))] : va_W) ++ ((w4 cI q9 u9) ++ ((w4 cI q20 u20) ++ ((w4 cI q31 u31) ++ ((w2 cI q47 u47) ++ ((w1 q58.1 q58.2 u58.1 ++ w4 cI q58.2 u58.2) ++ ((w3 cI q69 u69) ++ ((w0 cJ q80 u80))))))))) H := hP
  have hD : va_D A (([(b0, .inr (5, [.ref (q9 0), .ref (q20 0), .ref (q31 0), .int 0, .ref (q47 0), .ref (q58.1 0), .ref (q69 0), .null]))] : va_W) ++ ((w4 cI q9 u9) ++ ((w4 cI q20 u20) ++ ((w4 cI q31 u31) ++ ((w2 cI q47 u47) ++ ((w1 q58.1 q58.2 u58.1 ++ w4 cI q58.2 u58.2) ++ ((w3 cI q69 u69) ++ ((w0 cJ q80 u80))))))))) := hD
  refine W.widen (k := 29) (n := 1002) (by omega) (by omega) ?_
  refine va_putF (D := D) (ci := 5) (v := .ref (q80 0)) (ty := (.object "LastTrain$Answers")) (C := RX5) (T := TX5) (N := 8) hx hb htl inlX5 tyX5 tyX5_ok nmX5 hown hK hP hD hS 0 rfl rfl 7 (by decide) (htl _ W_34) (fun _ h9 => h9) rfl hin rfl (by decide +kernel) rfl rfl (Nat.le_of_ble_eq_true rfl) (dAt zX5_init_0 39 rfl) (fun H locs hP hD hS => ?_)
  have hP : va_P D vwCl (([(b0, .inr (5, [.ref (q9 0), .ref (q20 0), .ref (q31 0), .int 0, .ref (q47 0), .ref (q58.1 0), .ref (q69 0), .ref (q80 0)]))] : va_W) ++ ((w4 cI q9 u9) ++ ((w4 cI q20 u20) ++ ((w4 cI q31 u31) ++ ((w2 cI q47 u47) ++ ((w1 q58.1 q58.2 u58.1 ++ w4 cI q58.2 u58.2) ++ ((w3 cI q69 u69) ++ ((w0 cJ q80 u80))))))))) H := hP
  have hD : va_D A (([(b0, .inr (5, [.ref (q9 0), .ref (q20 0), .ref (q31 0), .int 0, .ref (q47 0), .ref (q58.1 0), .ref (q69 0), .ref (q80 0)]))] : va_W) ++ ((w4 cI q9 u9) ++ ((w4 cI q20 u20) ++ ((w4 cI q31 u31) ++ ((w2 cI q47 u47) ++ ((w1 q58.1 q58.2 u58.1 ++ w4 cI q58.2 u58.2) ++ ((w3 cI q69 u69) ++ ((w0 cJ q80 u80))))))))) := hD
  obtain rfl := q_some h
  have hP : va_P D vwCl (w5 (fun _ => b0) q9 q20 q31 q47 q58.1 q69 q80 (mk5 0) ++ (w4 cI q9 u9 ++ (w4 cI q20 u20 ++ (w4 cI q31 u31 ++ (w2 cI q47 u47 ++ (w1 q58.1 q58.2 u58.1 ++ (w4 cI q58.2 u58.2 ++ (w3 cI q69 u69 ++ (w0 cJ q80 u80))))))))) H := hP
  have hD : va_D A (w5 (fun _ => b0) q9 q20 q31 q47 q58.1 q69 q80 (mk5 0) ++ (w4 cI q9 u9 ++ (w4 cI q20 u20 ++ (w4 cI q31 u31 ++ (w2 cI q47 u47 ++ (w1 q58.1 q58.2 u58.1 ++ (w4 cI q58.2 u58.2 ++ (w3 cI q69 u69 ++ (w0 cJ q80 u80))))))))) := hD
  exact xRvI ((fun _ => b0, q9, q20, q31, q47, q58.1, q58.2, q69, q80)) hx hb hr hlocks hQ hAe (by simp) hP hD hK hS (dAt zX5_init_0 40 rfl)
end
