section
-- ===== PART A: goes FIRST, ahead of the names: the tables' words, and 'selects' of the private methods out of them =====
/-- a private method of a class that the tables say can be made, by its rows of tables_1 -/
def lw_okq (q : MethodName × Nat) : Prop := (q.1.cls ≠ "java/lang/invoke/MethodHandle" ∧ q.1.cls ≠ "java/lang/invoke/VarHandle") ∧ Cond.instantiable q.1.cls q.2 ∈ tables_1 ∧ Cond.privateMethod q.1 ∈ tables_1 ∧ Cond.instanceMethod q.1 ∈ tables_1
theorem lw_p0 : lw_okq (⟨"GuessingHall$History", "slotAt", "(I)LGuessingHall$State;"⟩, 3) := ⟨⟨by decide +kernel, by decide +kernel⟩, List.mem_of_getElem? (i := 229) (by decide +kernel), List.mem_of_getElem? (i := 313) (by decide +kernel), List.mem_of_getElem? (i := 314) (by decide +kernel)⟩
theorem lw_p1 : lw_okq (⟨"GuessingHall$State", "countMiss", "()V"⟩, 9) := ⟨⟨by decide +kernel, by decide +kernel⟩, List.mem_of_getElem? (i := 24) (by decide +kernel), List.mem_of_getElem? (i := 475) (by decide +kernel), List.mem_of_getElem? (i := 476) (by decide +kernel)⟩
theorem lw_p2 : lw_okq (⟨"GuessingHall$State", "endRound", "(I)V"⟩, 9) := ⟨⟨by decide +kernel, by decide +kernel⟩, List.mem_of_getElem? (i := 24) (by decide +kernel), List.mem_of_getElem? (i := 479) (by decide +kernel), List.mem_of_getElem? (i := 480) (by decide +kernel)⟩
theorem lw_p3 : lw_okq (⟨"GuessingHall$State", "payForPlaces", "(IIZ)V"⟩, 9) := ⟨⟨by decide +kernel, by decide +kernel⟩, List.mem_of_getElem? (i := 24) (by decide +kernel), List.mem_of_getElem? (i := 494) (by decide +kernel), List.mem_of_getElem? (i := 495) (by decide +kernel)⟩
theorem lw_p4 : lw_okq (⟨"GuessingHall$State", "winRound", "()V"⟩, 9) := ⟨⟨by decide +kernel, by decide +kernel⟩, List.mem_of_getElem? (i := 24) (by decide +kernel), List.mem_of_getElem? (i := 509) (by decide +kernel), List.mem_of_getElem? (i := 510) (by decide +kernel)⟩
theorem lw_p5 : lw_okq (⟨"GuessingHall", "fitOf", "(I)I"⟩, 5) := ⟨⟨by decide +kernel, by decide +kernel⟩, List.mem_of_getElem? (i := 16) (by decide +kernel), List.mem_of_getElem? (i := 536) (by decide +kernel), List.mem_of_getElem? (i := 537) (by decide +kernel)⟩
theorem lw_p6 : lw_okq (⟨"GuessingHall$Words", "looksLike", "(III)Z"⟩, 5) := ⟨⟨by decide +kernel, by decide +kernel⟩, List.mem_of_getElem? (i := 30) (by decide +kernel), List.mem_of_getElem? (i := 548) (by decide +kernel), List.mem_of_getElem? (i := 549) (by decide +kernel)⟩
theorem lw_p7 : lw_okq (⟨"GuessingHall", "letterAtCode", "(II)I"⟩, 5) := ⟨⟨by decide +kernel, by decide +kernel⟩, List.mem_of_getElem? (i := 16) (by decide +kernel), List.mem_of_getElem? (i := 553) (by decide +kernel), List.mem_of_getElem? (i := 554) (by decide +kernel)⟩
theorem lw_p8 : lw_okq (⟨"GuessingHall", "countOfRound", "(I)I"⟩, 5) := ⟨⟨by decide +kernel, by decide +kernel⟩, List.mem_of_getElem? (i := 16) (by decide +kernel), List.mem_of_getElem? (i := 578) (by decide +kernel), List.mem_of_getElem? (i := 579) (by decide +kernel)⟩
theorem lw_p9 : lw_okq (⟨"GuessingHall", "countOfHall", "(I)I"⟩, 5) := ⟨⟨by decide +kernel, by decide +kernel⟩, List.mem_of_getElem? (i := 16) (by decide +kernel), List.mem_of_getElem? (i := 583) (by decide +kernel), List.mem_of_getElem? (i := 584) (by decide +kernel)⟩
theorem lw_p10 : lw_okq (⟨"GuessingHall$Words", "groupOf", "(III)I"⟩, 5) := ⟨⟨by decide +kernel, by decide +kernel⟩, List.mem_of_getElem? (i := 30) (by decide +kernel), List.mem_of_getElem? (i := 620) (by decide +kernel), List.mem_of_getElem? (i := 621) (by decide +kernel)⟩
theorem lw_p11 : lw_okq (⟨"GuessingHall$Text", "scanWord", "()V"⟩, 6) := ⟨⟨by decide +kernel, by decide +kernel⟩, List.mem_of_getElem? (i := 249) (by decide +kernel), List.mem_of_getElem? (i := 679) (by decide +kernel), List.mem_of_getElem? (i := 680) (by decide +kernel)⟩
theorem lw_p12 : lw_okq (⟨"GuessingHall$Text", "characterAt", "(I)I"⟩, 6) := ⟨⟨by decide +kernel, by decide +kernel⟩, List.mem_of_getElem? (i := 249) (by decide +kernel), List.mem_of_getElem? (i := 683) (by decide +kernel), List.mem_of_getElem? (i := 684) (by decide +kernel)⟩
theorem lw_p13 : lw_okq (⟨"GuessingHall$Text", "fail", "(II)Z"⟩, 6) := ⟨⟨by decide +kernel, by decide +kernel⟩, List.mem_of_getElem? (i := 249) (by decide +kernel), List.mem_of_getElem? (i := 692) (by decide +kernel), List.mem_of_getElem? (i := 693) (by decide +kernel)⟩
theorem lw_p14 : lw_okq (⟨"GuessingHall$Text", "scanLetters", "()Z"⟩, 6) := ⟨⟨by decide +kernel, by decide +kernel⟩, List.mem_of_getElem? (i := 249) (by decide +kernel), List.mem_of_getElem? (i := 696) (by decide +kernel), List.mem_of_getElem? (i := 697) (by decide +kernel)⟩
theorem lw_p15 : lw_okq (⟨"GuessingHall$Text", "scanSign", "(I)Z"⟩, 6) := ⟨⟨by decide +kernel, by decide +kernel⟩, List.mem_of_getElem? (i := 249) (by decide +kernel), List.mem_of_getElem? (i := 705) (by decide +kernel), List.mem_of_getElem? (i := 706) (by decide +kernel)⟩
def lw_privs_1 : List (MethodName × Nat) := [(⟨"GuessingHall$History", "slotAt", "(I)LGuessingHall$State;"⟩, 3), (⟨"GuessingHall$State", "countMiss", "()V"⟩, 9), (⟨"GuessingHall$State", "endRound", "(I)V"⟩, 9), (⟨"GuessingHall$State", "payForPlaces", "(IIZ)V"⟩, 9), (⟨"GuessingHall$State", "winRound", "()V"⟩, 9), (⟨"GuessingHall", "fitOf", "(I)I"⟩, 5), (⟨"GuessingHall$Words", "looksLike", "(III)Z"⟩, 5), (⟨"GuessingHall", "letterAtCode", "(II)I"⟩, 5), (⟨"GuessingHall", "countOfRound", "(I)I"⟩, 5), (⟨"GuessingHall", "countOfHall", "(I)I"⟩, 5), (⟨"GuessingHall$Words", "groupOf", "(III)I"⟩, 5), (⟨"GuessingHall$Text", "scanWord", "()V"⟩, 6), (⟨"GuessingHall$Text", "characterAt", "(I)I"⟩, 6), (⟨"GuessingHall$Text", "fail", "(II)Z"⟩, 6), (⟨"GuessingHall$Text", "scanLetters", "()Z"⟩, 6), (⟨"GuessingHall$Text", "scanSign", "(I)Z"⟩, 6)]
theorem lw_r1 : ∀ q ∈ lw_privs_1, lw_okq q := List.forall_mem_cons.mpr ⟨lw_p0, List.forall_mem_cons.mpr ⟨lw_p1, List.forall_mem_cons.mpr ⟨lw_p2, List.forall_mem_cons.mpr ⟨lw_p3, List.forall_mem_cons.mpr ⟨lw_p4, List.forall_mem_cons.mpr ⟨lw_p5, List.forall_mem_cons.mpr ⟨lw_p6, List.forall_mem_cons.mpr ⟨lw_p7, List.forall_mem_cons.mpr ⟨lw_p8, List.forall_mem_cons.mpr ⟨lw_p9, List.forall_mem_cons.mpr ⟨lw_p10, List.forall_mem_cons.mpr ⟨lw_p11, List.forall_mem_cons.mpr ⟨lw_p12, List.forall_mem_cons.mpr ⟨lw_p13, List.forall_mem_cons.mpr ⟨lw_p14, List.forall_mem_cons.mpr ⟨lw_p15, fun _ h => absurd h List.not_mem_nil⟩⟩⟩⟩⟩⟩⟩⟩⟩⟩⟩⟩⟩⟩⟩⟩
theorem lw_p16 : lw_okq (⟨"GuessingHall$Text", "scanWeight", "()Z"⟩, 6) := ⟨⟨by decide +kernel, by decide +kernel⟩, List.mem_of_getElem? (i := 249) (by decide +kernel), List.mem_of_getElem? (i := 709) (by decide +kernel), List.mem_of_getElem? (i := 710) (by decide +kernel)⟩
theorem lw_p17 : lw_okq (⟨"GuessingHall$Text", "addWord", "(I)V"⟩, 6) := ⟨⟨by decide +kernel, by decide +kernel⟩, List.mem_of_getElem? (i := 249) (by decide +kernel), List.mem_of_getElem? (i := 713) (by decide +kernel), List.mem_of_getElem? (i := 714) (by decide +kernel)⟩
theorem lw_p18 : lw_okq (⟨"GuessingHallModel", "isWord", "(I)Z"⟩, 11) := ⟨⟨by decide +kernel, by decide +kernel⟩, List.mem_of_getElem? (i := 731) (by decide +kernel), List.mem_of_getElem? (i := 775) (by decide +kernel), List.mem_of_getElem? (i := 776) (by decide +kernel)⟩
theorem lw_p19 : lw_okq (⟨"GuessingHallModel", "runs", "()Z"⟩, 11) := ⟨⟨by decide +kernel, by decide +kernel⟩, List.mem_of_getElem? (i := 731) (by decide +kernel), List.mem_of_getElem? (i := 782) (by decide +kernel), List.mem_of_getElem? (i := 783) (by decide +kernel)⟩
theorem lw_p20 : lw_okq (⟨"GuessingHallModel", "changes", "()V"⟩, 11) := ⟨⟨by decide +kernel, by decide +kernel⟩, List.mem_of_getElem? (i := 731) (by decide +kernel), List.mem_of_getElem? (i := 786) (by decide +kernel), List.mem_of_getElem? (i := 787) (by decide +kernel)⟩
theorem lw_p21 : lw_okq (⟨"GuessingHallModel", "of", "(II)I"⟩, 11) := ⟨⟨by decide +kernel, by decide +kernel⟩, List.mem_of_getElem? (i := 731) (by decide +kernel), List.mem_of_getElem? (i := 790) (by decide +kernel), List.mem_of_getElem? (i := 791) (by decide +kernel)⟩
theorem lw_p22 : lw_okq (⟨"GuessingHallModel", "isPlayer", "(I)Z"⟩, 11) := ⟨⟨by decide +kernel, by decide +kernel⟩, List.mem_of_getElem? (i := 731) (by decide +kernel), List.mem_of_getElem? (i := 805) (by decide +kernel), List.mem_of_getElem? (i := 806) (by decide +kernel)⟩
theorem lw_p23 : lw_okq (⟨"GuessingHallModel", "canPay", "(I)Z"⟩, 11) := ⟨⟨by decide +kernel, by decide +kernel⟩, List.mem_of_getElem? (i := 731) (by decide +kernel), List.mem_of_getElem? (i := 821) (by decide +kernel), List.mem_of_getElem? (i := 822) (by decide +kernel)⟩
theorem lw_p24 : lw_okq (⟨"GuessingHallModel", "drawn", "()I"⟩, 11) := ⟨⟨by decide +kernel, by decide +kernel⟩, List.mem_of_getElem? (i := 731) (by decide +kernel), List.mem_of_getElem? (i := 825) (by decide +kernel), List.mem_of_getElem? (i := 826) (by decide +kernel)⟩
theorem lw_p25 : lw_okq (⟨"GuessingHallModel", "wordBy", "(I)I"⟩, 11) := ⟨⟨by decide +kernel, by decide +kernel⟩, List.mem_of_getElem? (i := 731) (by decide +kernel), List.mem_of_getElem? (i := 832) (by decide +kernel), List.mem_of_getElem? (i := 833) (by decide +kernel)⟩
theorem lw_p26 : lw_okq (⟨"GuessingHallModel", "weights", "()I"⟩, 11) := ⟨⟨by decide +kernel, by decide +kernel⟩, List.mem_of_getElem? (i := 731) (by decide +kernel), List.mem_of_getElem? (i := 837) (by decide +kernel), List.mem_of_getElem? (i := 838) (by decide +kernel)⟩
theorem lw_p27 : lw_okq (⟨"GuessingHallModel", "places", "(II)I"⟩, 11) := ⟨⟨by decide +kernel, by decide +kernel⟩, List.mem_of_getElem? (i := 731) (by decide +kernel), List.mem_of_getElem? (i := 845) (by decide +kernel), List.mem_of_getElem? (i := 846) (by decide +kernel)⟩
theorem lw_p28 : lw_okq (⟨"GuessingHallModel", "letterAt", "(II)I"⟩, 11) := ⟨⟨by decide +kernel, by decide +kernel⟩, List.mem_of_getElem? (i := 731) (by decide +kernel), List.mem_of_getElem? (i := 849) (by decide +kernel), List.mem_of_getElem? (i := 850) (by decide +kernel)⟩
theorem lw_p29 : lw_okq (⟨"GuessingHallModel", "misses", "()V"⟩, 11) := ⟨⟨by decide +kernel, by decide +kernel⟩, List.mem_of_getElem? (i := 731) (by decide +kernel), List.mem_of_getElem? (i := 853) (by decide +kernel), List.mem_of_getElem? (i := 854) (by decide +kernel)⟩
theorem lw_p30 : lw_okq (⟨"GuessingHallModel", "ends", "(I)V"⟩, 11) := ⟨⟨by decide +kernel, by decide +kernel⟩, List.mem_of_getElem? (i := 731) (by decide +kernel), List.mem_of_getElem? (i := 857) (by decide +kernel), List.mem_of_getElem? (i := 858) (by decide +kernel)⟩
theorem lw_p31 : lw_okq (⟨"GuessingHallModel", "hits", "(IZI)V"⟩, 11) := ⟨⟨by decide +kernel, by decide +kernel⟩, List.mem_of_getElem? (i := 731) (by decide +kernel), List.mem_of_getElem? (i := 861) (by decide +kernel), List.mem_of_getElem? (i := 862) (by decide +kernel)⟩
def lw_privs_2 : List (MethodName × Nat) := [(⟨"GuessingHall$Text", "scanWeight", "()Z"⟩, 6), (⟨"GuessingHall$Text", "addWord", "(I)V"⟩, 6), (⟨"GuessingHallModel", "isWord", "(I)Z"⟩, 11), (⟨"GuessingHallModel", "runs", "()Z"⟩, 11), (⟨"GuessingHallModel", "changes", "()V"⟩, 11), (⟨"GuessingHallModel", "of", "(II)I"⟩, 11), (⟨"GuessingHallModel", "isPlayer", "(I)Z"⟩, 11), (⟨"GuessingHallModel", "canPay", "(I)Z"⟩, 11), (⟨"GuessingHallModel", "drawn", "()I"⟩, 11), (⟨"GuessingHallModel", "wordBy", "(I)I"⟩, 11), (⟨"GuessingHallModel", "weights", "()I"⟩, 11), (⟨"GuessingHallModel", "places", "(II)I"⟩, 11), (⟨"GuessingHallModel", "letterAt", "(II)I"⟩, 11), (⟨"GuessingHallModel", "misses", "()V"⟩, 11), (⟨"GuessingHallModel", "ends", "(I)V"⟩, 11), (⟨"GuessingHallModel", "hits", "(IZI)V"⟩, 11)]
theorem lw_r2 : ∀ q ∈ lw_privs_2, lw_okq q := List.forall_mem_cons.mpr ⟨lw_p16, List.forall_mem_cons.mpr ⟨lw_p17, List.forall_mem_cons.mpr ⟨lw_p18, List.forall_mem_cons.mpr ⟨lw_p19, List.forall_mem_cons.mpr ⟨lw_p20, List.forall_mem_cons.mpr ⟨lw_p21, List.forall_mem_cons.mpr ⟨lw_p22, List.forall_mem_cons.mpr ⟨lw_p23, List.forall_mem_cons.mpr ⟨lw_p24, List.forall_mem_cons.mpr ⟨lw_p25, List.forall_mem_cons.mpr ⟨lw_p26, List.forall_mem_cons.mpr ⟨lw_p27, List.forall_mem_cons.mpr ⟨lw_p28, List.forall_mem_cons.mpr ⟨lw_p29, List.forall_mem_cons.mpr ⟨lw_p30, List.forall_mem_cons.mpr ⟨lw_p31, fun _ h => absurd h List.not_mem_nil⟩⟩⟩⟩⟩⟩⟩⟩⟩⟩⟩⟩⟩⟩⟩⟩
theorem lw_p32 : lw_okq (⟨"GuessingHallModel", "fitting", "()I"⟩, 11) := ⟨⟨by decide +kernel, by decide +kernel⟩, List.mem_of_getElem? (i := 731) (by decide +kernel), List.mem_of_getElem? (i := 880) (by decide +kernel), List.mem_of_getElem? (i := 881) (by decide +kernel)⟩
theorem lw_p33 : lw_okq (⟨"GuessingHallModel", "fitsOne", "(I)Z"⟩, 11) := ⟨⟨by decide +kernel, by decide +kernel⟩, List.mem_of_getElem? (i := 731) (by decide +kernel), List.mem_of_getElem? (i := 884) (by decide +kernel), List.mem_of_getElem? (i := 885) (by decide +kernel)⟩
theorem lw_p34 : lw_okq (⟨"GuessingHallModel", "weightsOf", "(II)I"⟩, 11) := ⟨⟨by decide +kernel, by decide +kernel⟩, List.mem_of_getElem? (i := 731) (by decide +kernel), List.mem_of_getElem? (i := 888) (by decide +kernel), List.mem_of_getElem? (i := 889) (by decide +kernel)⟩
theorem lw_p35 : lw_okq (⟨"GuessingHallModel", "bestLetter", "(I)I"⟩, 11) := ⟨⟨by decide +kernel, by decide +kernel⟩, List.mem_of_getElem? (i := 731) (by decide +kernel), List.mem_of_getElem? (i := 892) (by decide +kernel), List.mem_of_getElem? (i := 893) (by decide +kernel)⟩
theorem lw_p36 : lw_okq (⟨"GuessingHallModel", "greatest", "(II)I"⟩, 11) := ⟨⟨by decide +kernel, by decide +kernel⟩, List.mem_of_getElem? (i := 731) (by decide +kernel), List.mem_of_getElem? (i := 910) (by decide +kernel), List.mem_of_getElem? (i := 911) (by decide +kernel)⟩
theorem lw_p37 : lw_okq (⟨"GuessingHallModel", "lettersOf", "(I)I"⟩, 11) := ⟨⟨by decide +kernel, by decide +kernel⟩, List.mem_of_getElem? (i := 731) (by decide +kernel), List.mem_of_getElem? (i := 926) (by decide +kernel), List.mem_of_getElem? (i := 927) (by decide +kernel)⟩
theorem lw_p38 : lw_okq (⟨"GuessingHallModel", "isRight", "()Z"⟩, 11) := ⟨⟨by decide +kernel, by decide +kernel⟩, List.mem_of_getElem? (i := 731) (by decide +kernel), List.mem_of_getElem? (i := 973) (by decide +kernel), List.mem_of_getElem? (i := 974) (by decide +kernel)⟩
theorem lw_p39 : lw_okq (⟨"GuessingHallModel", "readsWord", "()Z"⟩, 11) := ⟨⟨by decide +kernel, by decide +kernel⟩, List.mem_of_getElem? (i := 731) (by decide +kernel), List.mem_of_getElem? (i := 977) (by decide +kernel), List.mem_of_getElem? (i := 978) (by decide +kernel)⟩
theorem lw_p40 : lw_okq (⟨"GuessingHallModel", "isAt", "(II)Z"⟩, 11) := ⟨⟨by decide +kernel, by decide +kernel⟩, List.mem_of_getElem? (i := 731) (by decide +kernel), List.mem_of_getElem? (i := 981) (by decide +kernel), List.mem_of_getElem? (i := 982) (by decide +kernel)⟩
theorem lw_p41 : lw_okq (⟨"GuessingHallModel", "fails", "(I)Z"⟩, 11) := ⟨⟨by decide +kernel, by decide +kernel⟩, List.mem_of_getElem? (i := 731) (by decide +kernel), List.mem_of_getElem? (i := 985) (by decide +kernel), List.mem_of_getElem? (i := 986) (by decide +kernel)⟩
theorem lw_p42 : lw_okq (⟨"GuessingHallModel", "readsLetters", "()Z"⟩, 11) := ⟨⟨by decide +kernel, by decide +kernel⟩, List.mem_of_getElem? (i := 731) (by decide +kernel), List.mem_of_getElem? (i := 989) (by decide +kernel), List.mem_of_getElem? (i := 990) (by decide +kernel)⟩
theorem lw_p43 : lw_okq (⟨"GuessingHallModel", "sign", "(I)Z"⟩, 11) := ⟨⟨by decide +kernel, by decide +kernel⟩, List.mem_of_getElem? (i := 731) (by decide +kernel), List.mem_of_getElem? (i := 993) (by decide +kernel), List.mem_of_getElem? (i := 994) (by decide +kernel)⟩
theorem lw_p44 : lw_okq (⟨"GuessingHallModel", "readsWeight", "()Z"⟩, 11) := ⟨⟨by decide +kernel, by decide +kernel⟩, List.mem_of_getElem? (i := 731) (by decide +kernel), List.mem_of_getElem? (i := 997) (by decide +kernel), List.mem_of_getElem? (i := 998) (by decide +kernel)⟩
theorem lw_p45 : lw_okq (⟨"GuessingHallModel", "isDouble", "()Z"⟩, 11) := ⟨⟨by decide +kernel, by decide +kernel⟩, List.mem_of_getElem? (i := 731) (by decide +kernel), List.mem_of_getElem? (i := 1001) (by decide +kernel), List.mem_of_getElem? (i := 1002) (by decide +kernel)⟩
def lw_privs_3 : List (MethodName × Nat) := [(⟨"GuessingHallModel", "fitting", "()I"⟩, 11), (⟨"GuessingHallModel", "fitsOne", "(I)Z"⟩, 11), (⟨"GuessingHallModel", "weightsOf", "(II)I"⟩, 11), (⟨"GuessingHallModel", "bestLetter", "(I)I"⟩, 11), (⟨"GuessingHallModel", "greatest", "(II)I"⟩, 11), (⟨"GuessingHallModel", "lettersOf", "(I)I"⟩, 11), (⟨"GuessingHallModel", "isRight", "()Z"⟩, 11), (⟨"GuessingHallModel", "readsWord", "()Z"⟩, 11), (⟨"GuessingHallModel", "isAt", "(II)Z"⟩, 11), (⟨"GuessingHallModel", "fails", "(I)Z"⟩, 11), (⟨"GuessingHallModel", "readsLetters", "()Z"⟩, 11), (⟨"GuessingHallModel", "sign", "(I)Z"⟩, 11), (⟨"GuessingHallModel", "readsWeight", "()Z"⟩, 11), (⟨"GuessingHallModel", "isDouble", "()Z"⟩, 11)]
theorem lw_r3 : ∀ q ∈ lw_privs_3, lw_okq q := List.forall_mem_cons.mpr ⟨lw_p32, List.forall_mem_cons.mpr ⟨lw_p33, List.forall_mem_cons.mpr ⟨lw_p34, List.forall_mem_cons.mpr ⟨lw_p35, List.forall_mem_cons.mpr ⟨lw_p36, List.forall_mem_cons.mpr ⟨lw_p37, List.forall_mem_cons.mpr ⟨lw_p38, List.forall_mem_cons.mpr ⟨lw_p39, List.forall_mem_cons.mpr ⟨lw_p40, List.forall_mem_cons.mpr ⟨lw_p41, List.forall_mem_cons.mpr ⟨lw_p42, List.forall_mem_cons.mpr ⟨lw_p43, List.forall_mem_cons.mpr ⟨lw_p44, List.forall_mem_cons.mpr ⟨lw_p45, fun _ h => absurd h List.not_mem_nil⟩⟩⟩⟩⟩⟩⟩⟩⟩⟩⟩⟩⟩⟩
def lw_privs : List (MethodName × Nat) := lw_privs_1 ++ (lw_privs_2 ++ (lw_privs_3))
def lw_tbl : List Cond := k2_sels lw_privs ++ tables_1
theorem lw_privs_ok : ∀ q ∈ lw_privs, lw_okq q := by
  show ∀ q ∈ lw_privs_1 ++ (lw_privs_2 ++ (lw_privs_3)), lw_okq q
  exact List.forall_mem_append.mpr ⟨lw_r1, List.forall_mem_append.mpr ⟨lw_r2, lw_r3⟩⟩
/-- the streams that the claim lets the run draw from -/
abbrev lw_cs : List Choice := [Jvm.Choice.named "NaN.bits"]
theorem lw_bits : nanBits ∈ lw_cs := by first | decide | exact List.mem_cons_self | simp [lw_cs, nanBits]
end
section
/-! ===== BEGIN words of one list among another's, by their places ===== -/
theorem goodIn_r {big : List Cond} (ws : List Cond) (ps : List Nat) (hp : ws = ps.filterMap (fun i => big[i]?)) (h : ws.all goodWord = true) : GoodIn big ws := by
  intro w hw
  have h1 := List.all_eq_true.mp h w hw
  rw [hp] at hw
  obtain ⟨i, -, hi⟩ := List.mem_filterMap.mp hw
  have hm : w ∈ big := by first | exact List.mem_of_getElem? hi | exact List.getElem?_mem hi
  exact ⟨hm, good_of_word h1⟩
theorem goodIn_app {big a b : List Cond} (ha : GoodIn big a) (hb : GoodIn big b) : GoodIn big (a ++ b) := fun w h => (List.mem_append.mp h).elim (ha w) (hb w)
theorem goodIn_ca {big a b : List Cond} {c : Cond} (ha : GoodIn big (c :: a)) (hb : GoodIn big b) : GoodIn big (c :: (a ++ b)) := fun w h => (List.mem_cons.mp h).elim (fun e => ha w (List.mem_cons.mpr (Or.inl e))) (fun h => (List.mem_append.mp h).elim (fun h => ha w (List.mem_cons.mpr (Or.inr h))) (hb w))
theorem goodIn_sub {big ws : List Cond} (hm : ∀ w ∈ ws, w ∈ big) (h : ws.all goodWord = true) : GoodIn big ws := fun w hw => ⟨hm w hw, good_of_word (List.all_eq_true.mp h w hw)⟩
/-! ===== END ===== -/

/-! ===== BEGIN printed: names, fields, word lists, decode rows ===== -/
def RX0 : String := "GuessingHall$Bench"
def TX0 : u_T := fun k => match k with
  | 0 => ("GuessingHall$Bench", "size", "I", false)
  | 1 => ("GuessingHall$Bench", "purse", "LGuessingHall$Row;", true)
  | 2 => ("GuessingHall$Bench", "won", "LGuessingHall$Row;", true)
  | 3 => ("GuessingHall$Bench", "hits", "LGuessingHall$Row;", true)
  | 4 => ("GuessingHall$Bench", "misses", "LGuessingHall$Row;", true)
  | 5 => ("GuessingHall$Bench", "hint", "LGuessingHall$Row;", true)
  | _ => ("GuessingHall$Bench", "whisperer", "LGuessingHall$Row;", true)
def tyX0 : Nat → FieldType := fun k => match k with
  | 0 => .int
  | 1 => .object "GuessingHall$Row"
  | 2 => .object "GuessingHall$Row"
  | 3 => .object "GuessingHall$Row"
  | 4 => .object "GuessingHall$Row"
  | 5 => .object "GuessingHall$Row"
  | _ => .object "GuessingHall$Row"
abbrev wsX00 : List Cond := u_ws RX0 TX0 7
theorem nmX0 : ∀ a, a < 7 → ∀ b, b < 7 → a ≠ b → (TX0 a).2.1 ≠ (TX0 b).2.1 := by decide +kernel
theorem tyX0_ok : ∀ k, k < 7 → parseFieldDescriptor (TX0 k).2.2.1 = some (tyX0 k) := by decide +kernel
abbrev cX0_init : ByteArray := prog_2_method_1_code
def yX0_init : MethodName := ⟨RX0, "<init>", "()V"⟩
abbrev cX0_copyFrom : ByteArray := prog_2_method_2_code
def yX0_copyFrom : MethodName := ⟨RX0, "copyFrom", "(LGuessingHall$Bench;)V"⟩
abbrev cX0_has : ByteArray := prog_2_method_3_code
def yX0_has : MethodName := ⟨RX0, "has", "(I)Z"⟩
abbrev cX0_add : ByteArray := prog_2_method_4_code
def yX0_add : MethodName := ⟨RX0, "add", "(I)I"⟩
abbrev cX0_canAllPay : ByteArray := prog_2_method_5_code
def yX0_canAllPay : MethodName := ⟨RX0, "canAllPay", "(I)Z"⟩
abbrev cX0_takeFromAll : ByteArray := prog_2_method_6_code
def yX0_takeFromAll : MethodName := ⟨RX0, "takeFromAll", "(I)V"⟩
abbrev cX0_behind : ByteArray := prog_2_method_7_code
def yX0_behind : MethodName := ⟨RX0, "behind", "(I)I"⟩
abbrev cX0_hasHint : ByteArray := prog_2_method_8_code
def yX0_hasHint : MethodName := ⟨RX0, "hasHint", "(I)Z"⟩
abbrev cX0_dropHint : ByteArray := prog_2_method_9_code
def yX0_dropHint : MethodName := ⟨RX0, "dropHint", "(I)V"⟩
abbrev cX0_dropHints : ByteArray := prog_2_method_10_code
def yX0_dropHints : MethodName := ⟨RX0, "dropHints", "()V"⟩
def RX1 : String := "GuessingHall$History"
def TX1 : u_T := fun k => match k with
  | 0 => ("GuessingHall$History", "size", "I", false)
  | 1 => ("GuessingHall$History", "free", "I", false)
  | _ => ("GuessingHall$History", "ring", "[LGuessingHall$State;", true)
def tyX1 : Nat → FieldType := fun k => match k with
  | 0 => .int
  | 1 => .int
  | _ => .array (.object "GuessingHall$State")
abbrev wsX10 : List Cond := u_ws RX1 TX1 3
theorem nmX1 : ∀ a, a < 3 → ∀ b, b < 3 → a ≠ b → (TX1 a).2.1 ≠ (TX1 b).2.1 := by decide +kernel
theorem tyX1_ok : ∀ k, k < 3 → parseFieldDescriptor (TX1 k).2.2.1 = some (tyX1 k) := by decide +kernel
abbrev cX1_init : ByteArray := prog_3_method_1_code
def yX1_init : MethodName := ⟨RX1, "<init>", "()V"⟩
abbrev cX1_record : ByteArray := prog_3_method_2_code
def yX1_record : MethodName := ⟨RX1, "record", "(LGuessingHall$State;)V"⟩
abbrev cX1_takeLatest : ByteArray := prog_3_method_3_code
def yX1_takeLatest : MethodName := ⟨RX1, "takeLatest", "(LGuessingHall$State;)V"⟩
abbrev cX1_slotAt : ByteArray := prog_3_method_4_code
def yX1_slotAt : MethodName := ⟨RX1, "slotAt", "(I)LGuessingHall$State;"⟩
def RX2 : String := "GuessingHall$PastRounds"
def TX2 : u_T := fun k => match k with
  | 0 => ("GuessingHall$PastRounds", "size", "I", false)
  | 1 => ("GuessingHall$PastRounds", "word", "LGuessingHall$Row;", true)
  | 2 => ("GuessingHall$PastRounds", "winner", "LGuessingHall$Row;", true)
  | 3 => ("GuessingHall$PastRounds", "misses", "LGuessingHall$Row;", true)
  | _ => ("GuessingHall$PastRounds", "stake", "LGuessingHall$Row;", true)
def tyX2 : Nat → FieldType := fun k => match k with
  | 0 => .int
  | 1 => .object "GuessingHall$Row"
  | 2 => .object "GuessingHall$Row"
  | 3 => .object "GuessingHall$Row"
  | _ => .object "GuessingHall$Row"
abbrev wsX20 : List Cond := u_ws RX2 TX2 5
theorem nmX2 : ∀ a, a < 5 → ∀ b, b < 5 → a ≠ b → (TX2 a).2.1 ≠ (TX2 b).2.1 := by decide +kernel
theorem tyX2_ok : ∀ k, k < 5 → parseFieldDescriptor (TX2 k).2.2.1 = some (tyX2 k) := by decide +kernel
abbrev cX2_init : ByteArray := prog_4_method_1_code
def yX2_init : MethodName := ⟨RX2, "<init>", "()V"⟩
abbrev cX2_copyFrom : ByteArray := prog_4_method_2_code
def yX2_copyFrom : MethodName := ⟨RX2, "copyFrom", "(LGuessingHall$PastRounds;)V"⟩
abbrev cX2_putFirst : ByteArray := prog_4_method_3_code
def yX2_putFirst : MethodName := ⟨RX2, "putFirst", "(LGuessingHall$Round;I)V"⟩
def RX3 : String := "GuessingHall$Round"
def TX3 : u_T := fun k => match k with
  | 0 => ("GuessingHall$Round", "running", "Z", false)
  | 1 => ("GuessingHall$Round", "word", "I", false)
  | 2 => ("GuessingHall$Round", "stake", "I", false)
  | 3 => ("GuessingHall$Round", "turn", "I", false)
  | 4 => ("GuessingHall$Round", "pot", "I", false)
  | 5 => ("GuessingHall$Round", "misses", "I", false)
  | _ => ("GuessingHall$Round", "guessed", "I", false)
def tyX3 : Nat → FieldType := fun k => match k with
  | 0 => .boolean
  | 1 => .int
  | 2 => .int
  | 3 => .int
  | 4 => .int
  | 5 => .int
  | _ => .int
abbrev wsX30 : List Cond := u_ws RX3 TX3 7
theorem nmX3 : ∀ a, a < 7 → ∀ b, b < 7 → a ≠ b → (TX3 a).2.1 ≠ (TX3 b).2.1 := by decide +kernel
theorem tyX3_ok : ∀ k, k < 7 → parseFieldDescriptor (TX3 k).2.2.1 = some (tyX3 k) := by decide +kernel
abbrev cX3_init : ByteArray := prog_5_method_1_code
def yX3_init : MethodName := ⟨RX3, "<init>", "()V"⟩
abbrev cX3_copyFrom : ByteArray := prog_5_method_2_code
def yX3_copyFrom : MethodName := ⟨RX3, "copyFrom", "(LGuessingHall$Round;)V"⟩
abbrev cX3_takes : ByteArray := prog_5_method_3_code
def yX3_takes : MethodName := ⟨RX3, "takes", "(I)Z"⟩
abbrev cX3_takeFromPot : ByteArray := prog_5_method_4_code
def yX3_takeFromPot : MethodName := ⟨RX3, "takeFromPot", "(I)I"⟩
def RX4 : String := "GuessingHall$Row"
def TX4 : u_T := fun k => match k with
  | _ => ("GuessingHall$Row", "cells", "[I", true)
def tyX4 : Nat → FieldType := fun k => match k with
  | _ => .array .int
abbrev wsX40 : List Cond := u_ws RX4 TX4 1
theorem nmX4 : ∀ a, a < 1 → ∀ b, b < 1 → a ≠ b → (TX4 a).2.1 ≠ (TX4 b).2.1 := by decide +kernel
theorem tyX4_ok : ∀ k, k < 1 → parseFieldDescriptor (TX4 k).2.2.1 = some (tyX4 k) := by decide +kernel
abbrev cX4_init : ByteArray := prog_6_method_1_code
def yX4_init : MethodName := ⟨RX4, "<init>", "(I)V"⟩
abbrev cX4_at : ByteArray := prog_6_method_2_code
def yX4_at : MethodName := ⟨RX4, "at", "(I)I"⟩
abbrev cX4_put : ByteArray := prog_6_method_3_code
def yX4_put : MethodName := ⟨RX4, "put", "(II)V"⟩
abbrev cX4_add : ByteArray := prog_6_method_4_code
def yX4_add : MethodName := ⟨RX4, "add", "(II)V"⟩
abbrev cX4_copyFrom : ByteArray := prog_6_method_5_code
def yX4_copyFrom : MethodName := ⟨RX4, "copyFrom", "(LGuessingHall$Row;)V"⟩
def RX5 : String := "GuessingHall$State"
def TX5 : u_T := fun k => match k with
  | 0 => ("GuessingHall$State", "words", "LGuessingHall$Words;", true)
  | 1 => ("GuessingHall$State", "bench", "LGuessingHall$Bench;", true)
  | 2 => ("GuessingHall$State", "round", "LGuessingHall$Round;", true)
  | 3 => ("GuessingHall$State", "past", "LGuessingHall$PastRounds;", true)
  | 4 => ("GuessingHall$State", "rounds", "I", false)
  | 5 => ("GuessingHall$State", "starter", "I", false)
  | 6 => ("GuessingHall$State", "house", "I", false)
  | 7 => ("GuessingHall$State", "drawNumber", "I", false)
  | _ => ("GuessingHall$State", "missLimit", "I", false)
def tyX5 : Nat → FieldType := fun k => match k with
  | 0 => .object "GuessingHall$Words"
  | 1 => .object "GuessingHall$Bench"
  | 2 => .object "GuessingHall$Round"
  | 3 => .object "GuessingHall$PastRounds"
  | 4 => .int
  | 5 => .int
  | 6 => .int
  | 7 => .int
  | _ => .int
abbrev wsX50 : List Cond := u_ws RX5 TX5 9
theorem nmX5 : ∀ a, a < 9 → ∀ b, b < 9 → a ≠ b → (TX5 a).2.1 ≠ (TX5 b).2.1 := by decide +kernel
theorem tyX5_ok : ∀ k, k < 9 → parseFieldDescriptor (TX5 k).2.2.1 = some (tyX5 k) := by decide +kernel
abbrev cX5_init : ByteArray := prog_7_method_1_code
def yX5_init : MethodName := ⟨RX5, "<init>", "()V"⟩
abbrev cX5_copyFrom : ByteArray := prog_7_method_2_code
def yX5_copyFrom : MethodName := ⟨RX5, "copyFrom", "(LGuessingHall$State;)V"⟩
abbrev cX5_canBegin : ByteArray := prog_7_method_3_code
def yX5_canBegin : MethodName := ⟨RX5, "canBegin", "(I)Z"⟩
abbrev cX5_beginRound : ByteArray := prog_7_method_4_code
def yX5_beginRound : MethodName := ⟨RX5, "beginRound", "(I)V"⟩
abbrev cX5_guessLetter : ByteArray := prog_7_method_5_code
def yX5_guessLetter : MethodName := ⟨RX5, "guessLetter", "(I)I"⟩
abbrev cX5_payForPlaces : ByteArray := prog_7_method_6_code
def yX5_payForPlaces : MethodName := ⟨RX5, "payForPlaces", "(IIZ)V"⟩
abbrev cX5_tellWord : ByteArray := prog_7_method_7_code
def yX5_tellWord : MethodName := ⟨RX5, "tellWord", "(I)Z"⟩
abbrev cX5_countMiss : ByteArray := prog_7_method_8_code
def yX5_countMiss : MethodName := ⟨RX5, "countMiss", "()V"⟩
abbrev cX5_winRound : ByteArray := prog_7_method_9_code
def yX5_winRound : MethodName := ⟨RX5, "winRound", "()V"⟩
abbrev cX5_endRound : ByteArray := prog_7_method_10_code
def yX5_endRound : MethodName := ⟨RX5, "endRound", "(I)V"⟩
abbrev cX5_openPlaces : ByteArray := prog_7_method_11_code
def yX5_openPlaces : MethodName := ⟨RX5, "openPlaces", "()I"⟩
abbrev cX5_fitting : ByteArray := prog_7_method_12_code
def yX5_fitting : MethodName := ⟨RX5, "fitting", "()I"⟩
abbrev cX5_likeliestLetter : ByteArray := prog_7_method_13_code
def yX5_likeliestLetter : MethodName := ⟨RX5, "likeliestLetter", "(I)I"⟩
abbrev cX5_sharpestLetter : ByteArray := prog_7_method_14_code
def yX5_sharpestLetter : MethodName := ⟨RX5, "sharpestLetter", "(I)I"⟩
def RX6 : String := "GuessingHall$Text"
def TX6 : u_T := fun k => match k with
  | 0 => ("GuessingHall$Text", "length", "I", false)
  | 1 => ("GuessingHall$Text", "faultPlace", "I", false)
  | 2 => ("GuessingHall$Text", "faultReason", "I", false)
  | 3 => ("GuessingHall$Text", "list", "LGuessingHall$Words;", true)
  | 4 => ("GuessingHall$Text", "characters", "LGuessingHall$Row;", true)
  | _ => ("GuessingHall$Text", "position", "I", false)
def tyX6 : Nat → FieldType := fun k => match k with
  | 0 => .int
  | 1 => .int
  | 2 => .int
  | 3 => .object "GuessingHall$Words"
  | 4 => .object "GuessingHall$Row"
  | _ => .int
abbrev wsX60 : List Cond := u_ws RX6 TX6 6
theorem nmX6 : ∀ a, a < 6 → ∀ b, b < 6 → a ≠ b → (TX6 a).2.1 ≠ (TX6 b).2.1 := by decide +kernel
theorem tyX6_ok : ∀ k, k < 6 → parseFieldDescriptor (TX6 k).2.2.1 = some (tyX6 k) := by decide +kernel
abbrev cX6_init : ByteArray := prog_8_method_1_code
def yX6_init : MethodName := ⟨RX6, "<init>", "()V"⟩
abbrev cX6_append : ByteArray := prog_8_method_2_code
def yX6_append : MethodName := ⟨RX6, "append", "(I)V"⟩
abbrev cX6_hasFault : ByteArray := prog_8_method_3_code
def yX6_hasFault : MethodName := ⟨RX6, "hasFault", "()Z"⟩
abbrev cX6_scan : ByteArray := prog_8_method_4_code
def yX6_scan : MethodName := ⟨RX6, "scan", "()V"⟩
abbrev cX6_scanWord : ByteArray := prog_8_method_5_code
def yX6_scanWord : MethodName := ⟨RX6, "scanWord", "()V"⟩
abbrev cX6_addWord : ByteArray := prog_8_method_6_code
def yX6_addWord : MethodName := ⟨RX6, "addWord", "(I)V"⟩
abbrev cX6_scanLetters : ByteArray := prog_8_method_7_code
def yX6_scanLetters : MethodName := ⟨RX6, "scanLetters", "()Z"⟩
abbrev cX6_scanWeight : ByteArray := prog_8_method_8_code
def yX6_scanWeight : MethodName := ⟨RX6, "scanWeight", "()Z"⟩
abbrev cX6_scanSign : ByteArray := prog_8_method_9_code
def yX6_scanSign : MethodName := ⟨RX6, "scanSign", "(I)Z"⟩
abbrev cX6_fail : ByteArray := prog_8_method_10_code
def yX6_fail : MethodName := ⟨RX6, "fail", "(II)Z"⟩
abbrev cX6_characterAt : ByteArray := prog_8_method_11_code
def yX6_characterAt : MethodName := ⟨RX6, "characterAt", "(I)I"⟩
abbrev cX6_isSmallLetter : ByteArray := prog_8_method_12_code
def yX6_isSmallLetter : MethodName := ⟨RX6, "isSmallLetter", "(I)Z"⟩
def RX7 : String := "GuessingHall$Words"
def TX7 : u_T := fun k => match k with
  | 0 => ("GuessingHall$Words", "size", "I", false)
  | 1 => ("GuessingHall$Words", "length", "LGuessingHall$Row;", true)
  | 2 => ("GuessingHall$Words", "weight", "LGuessingHall$Row;", true)
  | 3 => ("GuessingHall$Words", "drawn", "LGuessingHall$Row;", true)
  | _ => ("GuessingHall$Words", "letters", "LGuessingHall$Row;", true)
def tyX7 : Nat → FieldType := fun k => match k with
  | 0 => .int
  | 1 => .object "GuessingHall$Row"
  | 2 => .object "GuessingHall$Row"
  | 3 => .object "GuessingHall$Row"
  | _ => .object "GuessingHall$Row"
abbrev wsX70 : List Cond := u_ws RX7 TX7 5
theorem nmX7 : ∀ a, a < 5 → ∀ b, b < 5 → a ≠ b → (TX7 a).2.1 ≠ (TX7 b).2.1 := by decide +kernel
theorem tyX7_ok : ∀ k, k < 5 → parseFieldDescriptor (TX7 k).2.2.1 = some (tyX7 k) := by decide +kernel
abbrev cX7_init : ByteArray := prog_9_method_1_code
def yX7_init : MethodName := ⟨RX7, "<init>", "()V"⟩
abbrev cX7_copyFrom : ByteArray := prog_9_method_2_code
def yX7_copyFrom : MethodName := ⟨RX7, "copyFrom", "(LGuessingHall$Words;)V"⟩
abbrev cX7_has : ByteArray := prog_9_method_3_code
def yX7_has : MethodName := ⟨RX7, "has", "(I)Z"⟩
abbrev cX7_letterAt : ByteArray := prog_9_method_4_code
def yX7_letterAt : MethodName := ⟨RX7, "letterAt", "(II)I"⟩
abbrev cX7_putLetter : ByteArray := prog_9_method_5_code
def yX7_putLetter : MethodName := ⟨RX7, "putLetter", "(III)V"⟩
abbrev cX7_letterSet : ByteArray := prog_9_method_6_code
def yX7_letterSet : MethodName := ⟨RX7, "letterSet", "(I)I"⟩
abbrev cX7_placesOf : ByteArray := prog_9_method_7_code
def yX7_placesOf : MethodName := ⟨RX7, "placesOf", "(II)I"⟩
abbrev cX7_areSame : ByteArray := prog_9_method_8_code
def yX7_areSame : MethodName := ⟨RX7, "areSame", "(II)Z"⟩
abbrev cX7_weightOf : ByteArray := prog_9_method_9_code
def yX7_weightOf : MethodName := ⟨RX7, "weightOf", "(I)I"⟩
abbrev cX7_weightSum : ByteArray := prog_9_method_10_code
def yX7_weightSum : MethodName := ⟨RX7, "weightSum", "()I"⟩
abbrev cX7_drawnBy : ByteArray := prog_9_method_11_code
def yX7_drawnBy : MethodName := ⟨RX7, "drawnBy", "(I)I"⟩
abbrev cX7_fitting : ByteArray := prog_9_method_12_code
def yX7_fitting : MethodName := ⟨RX7, "fitting", "(II)I"⟩
abbrev cX7_looksLike : ByteArray := prog_9_method_13_code
def yX7_looksLike : MethodName := ⟨RX7, "looksLike", "(III)Z"⟩
abbrev cX7_weightHaving : ByteArray := prog_9_method_14_code
def yX7_weightHaving : MethodName := ⟨RX7, "weightHaving", "(II)I"⟩
abbrev cX7_largestGroup : ByteArray := prog_9_method_15_code
def yX7_largestGroup : MethodName := ⟨RX7, "largestGroup", "(II)I"⟩
abbrev cX7_groupOf : ByteArray := prog_9_method_16_code
def yX7_groupOf : MethodName := ⟨RX7, "groupOf", "(III)I"⟩
def RX8 : String := "GuessingHall"
def TX8 : u_T := fun k => match k with
  | 0 => ("GuessingHall", "now", "LGuessingHall$State;", true)
  | 1 => ("GuessingHall", "snapshot", "LGuessingHall$State;", true)
  | 2 => ("GuessingHall", "history", "LGuessingHall$History;", true)
  | 3 => ("GuessingHall", "text", "LGuessingHall$Text;", true)
  | _ => ("GuessingHall", "hasSnapshot", "Z", false)
def tyX8 : Nat → FieldType := fun k => match k with
  | 0 => .object "GuessingHall$State"
  | 1 => .object "GuessingHall$State"
  | 2 => .object "GuessingHall$History"
  | 3 => .object "GuessingHall$Text"
  | _ => .boolean
abbrev wsX80 : List Cond := u_ws RX8 TX8 5
theorem nmX8 : ∀ a, a < 5 → ∀ b, b < 5 → a ≠ b → (TX8 a).2.1 ≠ (TX8 b).2.1 := by decide +kernel
theorem tyX8_ok : ∀ k, k < 5 → parseFieldDescriptor (TX8 k).2.2.1 = some (tyX8 k) := by decide +kernel
abbrev cX8_init : ByteArray := prog_1_method_1_code
def yX8_init : MethodName := ⟨RX8, "<init>", "()V"⟩
abbrev cX8_word : ByteArray := prog_1_method_2_code
def yX8_word : MethodName := ⟨RX8, "word", "(II)I"⟩
abbrev cX8_seat : ByteArray := prog_1_method_3_code
def yX8_seat : MethodName := ⟨RX8, "seat", "(I)I"⟩
abbrev cX8_lend : ByteArray := prog_1_method_4_code
def yX8_lend : MethodName := ⟨RX8, "lend", "(III)I"⟩
abbrev cX8_set : ByteArray := prog_1_method_5_code
def yX8_set : MethodName := ⟨RX8, "set", "(II)I"⟩
abbrev cX8_seed : ByteArray := prog_1_method_6_code
def yX8_seed : MethodName := ⟨RX8, "seed", "(I)I"⟩
abbrev cX8_begin : ByteArray := prog_1_method_7_code
def yX8_begin : MethodName := ⟨RX8, "begin", "(I)I"⟩
abbrev cX8_guess : ByteArray := prog_1_method_8_code
def yX8_guess : MethodName := ⟨RX8, "guess", "(I)I"⟩
abbrev cX8_tell : ByteArray := prog_1_method_9_code
def yX8_tell : MethodName := ⟨RX8, "tell", "(I)I"⟩
abbrev cX8_whisper : ByteArray := prog_1_method_10_code
def yX8_whisper : MethodName := ⟨RX8, "whisper", "(III)I"⟩
abbrev cX8_wordOf : ByteArray := prog_1_method_11_code
def yX8_wordOf : MethodName := ⟨RX8, "wordOf", "(II)I"⟩
abbrev cX8_playerOf : ByteArray := prog_1_method_12_code
def yX8_playerOf : MethodName := ⟨RX8, "playerOf", "(II)I"⟩
abbrev cX8_open : ByteArray := prog_1_method_13_code
def yX8_open : MethodName := ⟨RX8, "open", "(I)I"⟩
abbrev cX8_round : ByteArray := prog_1_method_14_code
def yX8_round : MethodName := ⟨RX8, "round", "(II)I"⟩
abbrev cX8_count : ByteArray := prog_1_method_15_code
def yX8_count : MethodName := ⟨RX8, "count", "(I)I"⟩
abbrev cX8_fits : ByteArray := prog_1_method_16_code
def yX8_fits : MethodName := ⟨RX8, "fits", "(I)I"⟩
abbrev cX8_letterOf : ByteArray := prog_1_method_17_code
def yX8_letterOf : MethodName := ⟨RX8, "letterOf", "(II)I"⟩
abbrev cX8_sharpest : ByteArray := prog_1_method_18_code
def yX8_sharpest : MethodName := ⟨RX8, "sharpest", "()I"⟩
abbrev cX8_next : ByteArray := prog_1_method_19_code
def yX8_next : MethodName := ⟨RX8, "next", "()I"⟩
abbrev cX8_keep : ByteArray := prog_1_method_20_code
def yX8_keep : MethodName := ⟨RX8, "keep", "()I"⟩
abbrev cX8_restore : ByteArray := prog_1_method_21_code
def yX8_restore : MethodName := ⟨RX8, "restore", "()I"⟩
abbrev cX8_undo : ByteArray := prog_1_method_22_code
def yX8_undo : MethodName := ⟨RX8, "undo", "()I"⟩
abbrev cX8_type : ByteArray := prog_1_method_23_code
def yX8_type : MethodName := ⟨RX8, "type", "(I)I"⟩
abbrev cX8_clearText : ByteArray := prog_1_method_24_code
def yX8_clearText : MethodName := ⟨RX8, "clearText", "()I"⟩
abbrev cX8_fault : ByteArray := prog_1_method_25_code
def yX8_fault : MethodName := ⟨RX8, "fault", "(I)I"⟩
abbrev cX8_read : ByteArray := prog_1_method_26_code
def yX8_read : MethodName := ⟨RX8, "read", "()I"⟩
abbrev cX8_fitOf : ByteArray := prog_1_method_27_code
def yX8_fitOf : MethodName := ⟨RX8, "fitOf", "(I)I"⟩
abbrev cX8_letterAtCode : ByteArray := prog_1_method_28_code
def yX8_letterAtCode : MethodName := ⟨RX8, "letterAtCode", "(II)I"⟩
abbrev cX8_countOfRound : ByteArray := prog_1_method_29_code
def yX8_countOfRound : MethodName := ⟨RX8, "countOfRound", "(I)I"⟩
abbrev cX8_countOfHall : ByteArray := prog_1_method_30_code
def yX8_countOfHall : MethodName := ⟨RX8, "countOfHall", "(I)I"⟩
abbrev cX8_isBetween : ByteArray := prog_1_method_31_code
def yX8_isBetween : MethodName := ⟨RX8, "isBetween", "(III)Z"⟩
abbrev cX8_isLetter : ByteArray := prog_1_method_32_code
def yX8_isLetter : MethodName := ⟨RX8, "isLetter", "(I)Z"⟩
abbrev cX8_holds : ByteArray := prog_1_method_33_code
def yX8_holds : MethodName := ⟨RX8, "holds", "(II)Z"⟩
abbrev cX8_numberBehind : ByteArray := prog_1_method_34_code
def yX8_numberBehind : MethodName := ⟨RX8, "numberBehind", "(I)I"⟩
abbrev cX8_chanceOf : ByteArray := prog_1_method_35_code
def yX8_chanceOf : MethodName := ⟨RX8, "chanceOf", "(II)F"⟩
abbrev cX8_bitsOf : ByteArray := prog_1_method_36_code
def yX8_bitsOf : MethodName := ⟨RX8, "bitsOf", "(F)I"⟩
def RX9 : String := "GuessingHallModel"
def TX9 : u_T := fun k => match k with
  | 0 => ("GuessingHallModel", "s", "[I", true)
  | 1 => ("GuessingHallModel", "past", "[I", true)
  | 2 => ("GuessingHallModel", "kept", "[I", true)
  | 3 => ("GuessingHallModel", "isKept", "Z", false)
  | 4 => ("GuessingHallModel", "pasts", "I", false)
  | 5 => ("GuessingHallModel", "text", "[I", true)
  | 6 => ("GuessingHallModel", "typed", "I", false)
  | 7 => ("GuessingHallModel", "spot", "I", false)
  | 8 => ("GuessingHallModel", "reason", "I", false)
  | 9 => ("GuessingHallModel", "words", "I", false)
  | _ => ("GuessingHallModel", "list", "[I", true)
def tyX9 : Nat → FieldType := fun k => match k with
  | 0 => .array .int
  | 1 => .array .int
  | 2 => .array .int
  | 3 => .boolean
  | 4 => .int
  | 5 => .array .int
  | 6 => .int
  | 7 => .int
  | 8 => .int
  | 9 => .int
  | _ => .array .int
abbrev wsX90 : List Cond := u_ws RX9 TX9 11
theorem nmX9 : ∀ a, a < 11 → ∀ b, b < 11 → a ≠ b → (TX9 a).2.1 ≠ (TX9 b).2.1 := by decide +kernel
theorem tyX9_ok : ∀ k, k < 11 → parseFieldDescriptor (TX9 k).2.2.1 = some (tyX9 k) := by decide +kernel
abbrev cX9_init : ByteArray := prog_11_method_1_code
def yX9_init : MethodName := ⟨RX9, "<init>", "()V"⟩
abbrev cX9_in : ByteArray := prog_11_method_3_code
def yX9_in : MethodName := ⟨RX9, "in", "(III)Z"⟩
abbrev cX9_copies : ByteArray := prog_11_method_4_code
def yX9_copies : MethodName := ⟨RX9, "copies", "([I[I)V"⟩
abbrev cX9_changes : ByteArray := prog_11_method_5_code
def yX9_changes : MethodName := ⟨RX9, "changes", "()V"⟩
abbrev cX9_runs : ByteArray := prog_11_method_6_code
def yX9_runs : MethodName := ⟨RX9, "runs", "()Z"⟩
abbrev cX9_isWord : ByteArray := prog_11_method_7_code
def yX9_isWord : MethodName := ⟨RX9, "isWord", "(I)Z"⟩
abbrev cX9_isPlayer : ByteArray := prog_11_method_8_code
def yX9_isPlayer : MethodName := ⟨RX9, "isPlayer", "(I)Z"⟩
abbrev cX9_of : ByteArray := prog_11_method_9_code
def yX9_of : MethodName := ⟨RX9, "of", "(II)I"⟩
abbrev cX9_letterAt : ByteArray := prog_11_method_10_code
def yX9_letterAt : MethodName := ⟨RX9, "letterAt", "(II)I"⟩
abbrev cX9_at : ByteArray := prog_11_method_11_code
def yX9_at : MethodName := ⟨RX9, "at", "(II)I"⟩
abbrev cX9_places : ByteArray := prog_11_method_12_code
def yX9_places : MethodName := ⟨RX9, "places", "(II)I"⟩
abbrev cX9_ones : ByteArray := prog_11_method_13_code
def yX9_ones : MethodName := ⟨RX9, "ones", "(I)I"⟩
abbrev cX9_word : ByteArray := prog_11_method_14_code
def yX9_word : MethodName := ⟨RX9, "word", "(II)I"⟩
abbrev cX9_seat : ByteArray := prog_11_method_15_code
def yX9_seat : MethodName := ⟨RX9, "seat", "(I)I"⟩
abbrev cX9_lend : ByteArray := prog_11_method_16_code
def yX9_lend : MethodName := ⟨RX9, "lend", "(III)I"⟩
abbrev cX9_set : ByteArray := prog_11_method_17_code
def yX9_set : MethodName := ⟨RX9, "set", "(II)I"⟩
abbrev cX9_seed : ByteArray := prog_11_method_18_code
def yX9_seed : MethodName := ⟨RX9, "seed", "(I)I"⟩
abbrev cX9_weights : ByteArray := prog_11_method_19_code
def yX9_weights : MethodName := ⟨RX9, "weights", "()I"⟩
abbrev cX9_drawn : ByteArray := prog_11_method_20_code
def yX9_drawn : MethodName := ⟨RX9, "drawn", "()I"⟩
abbrev cX9_wordBy : ByteArray := prog_11_method_21_code
def yX9_wordBy : MethodName := ⟨RX9, "wordBy", "(I)I"⟩
abbrev cX9_canPay : ByteArray := prog_11_method_22_code
def yX9_canPay : MethodName := ⟨RX9, "canPay", "(I)Z"⟩
abbrev cX9_begin : ByteArray := prog_11_method_23_code
def yX9_begin : MethodName := ⟨RX9, "begin", "(I)I"⟩
abbrev cX9_ends : ByteArray := prog_11_method_24_code
def yX9_ends : MethodName := ⟨RX9, "ends", "(I)V"⟩
abbrev cX9_misses : ByteArray := prog_11_method_25_code
def yX9_misses : MethodName := ⟨RX9, "misses", "()V"⟩
abbrev cX9_hits : ByteArray := prog_11_method_26_code
def yX9_hits : MethodName := ⟨RX9, "hits", "(IZI)V"⟩
abbrev cX9_guess : ByteArray := prog_11_method_27_code
def yX9_guess : MethodName := ⟨RX9, "guess", "(I)I"⟩
abbrev cX9_tell : ByteArray := prog_11_method_28_code
def yX9_tell : MethodName := ⟨RX9, "tell", "(I)I"⟩
abbrev cX9_whisper : ByteArray := prog_11_method_29_code
def yX9_whisper : MethodName := ⟨RX9, "whisper", "(III)I"⟩
abbrev cX9_fitsOne : ByteArray := prog_11_method_30_code
def yX9_fitsOne : MethodName := ⟨RX9, "fitsOne", "(I)Z"⟩
abbrev cX9_fitting : ByteArray := prog_11_method_31_code
def yX9_fitting : MethodName := ⟨RX9, "fitting", "()I"⟩
abbrev cX9_weightsOf : ByteArray := prog_11_method_32_code
def yX9_weightsOf : MethodName := ⟨RX9, "weightsOf", "(II)I"⟩
abbrev cX9_bestLetter : ByteArray := prog_11_method_33_code
def yX9_bestLetter : MethodName := ⟨RX9, "bestLetter", "(I)I"⟩
abbrev cX9_fits : ByteArray := prog_11_method_34_code
def yX9_fits : MethodName := ⟨RX9, "fits", "(I)I"⟩
abbrev cX9_greatest : ByteArray := prog_11_method_35_code
def yX9_greatest : MethodName := ⟨RX9, "greatest", "(II)I"⟩
abbrev cX9_letterOf : ByteArray := prog_11_method_36_code
def yX9_letterOf : MethodName := ⟨RX9, "letterOf", "(II)I"⟩
abbrev cX9_sharpest : ByteArray := prog_11_method_37_code
def yX9_sharpest : MethodName := ⟨RX9, "sharpest", "()I"⟩
abbrev cX9_next : ByteArray := prog_11_method_38_code
def yX9_next : MethodName := ⟨RX9, "next", "()I"⟩
abbrev cX9_lettersOf : ByteArray := prog_11_method_39_code
def yX9_lettersOf : MethodName := ⟨RX9, "lettersOf", "(I)I"⟩
abbrev cX9_wordOf : ByteArray := prog_11_method_40_code
def yX9_wordOf : MethodName := ⟨RX9, "wordOf", "(II)I"⟩
abbrev cX9_playerOf : ByteArray := prog_11_method_41_code
def yX9_playerOf : MethodName := ⟨RX9, "playerOf", "(II)I"⟩
abbrev cX9_open : ByteArray := prog_11_method_42_code
def yX9_open : MethodName := ⟨RX9, "open", "(I)I"⟩
abbrev cX9_round : ByteArray := prog_11_method_43_code
def yX9_round : MethodName := ⟨RX9, "round", "(II)I"⟩
abbrev cX9_count : ByteArray := prog_11_method_44_code
def yX9_count : MethodName := ⟨RX9, "count", "(I)I"⟩
abbrev cX9_keep : ByteArray := prog_11_method_45_code
def yX9_keep : MethodName := ⟨RX9, "keep", "()I"⟩
abbrev cX9_restore : ByteArray := prog_11_method_46_code
def yX9_restore : MethodName := ⟨RX9, "restore", "()I"⟩
abbrev cX9_undo : ByteArray := prog_11_method_47_code
def yX9_undo : MethodName := ⟨RX9, "undo", "()I"⟩
abbrev cX9_type : ByteArray := prog_11_method_48_code
def yX9_type : MethodName := ⟨RX9, "type", "(I)I"⟩
abbrev cX9_clearText : ByteArray := prog_11_method_49_code
def yX9_clearText : MethodName := ⟨RX9, "clearText", "()I"⟩
abbrev cX9_isAt : ByteArray := prog_11_method_50_code
def yX9_isAt : MethodName := ⟨RX9, "isAt", "(II)Z"⟩
abbrev cX9_sign : ByteArray := prog_11_method_51_code
def yX9_sign : MethodName := ⟨RX9, "sign", "(I)Z"⟩
abbrev cX9_fails : ByteArray := prog_11_method_52_code
def yX9_fails : MethodName := ⟨RX9, "fails", "(I)Z"⟩
abbrev cX9_isDouble : ByteArray := prog_11_method_53_code
def yX9_isDouble : MethodName := ⟨RX9, "isDouble", "()Z"⟩
abbrev cX9_readsLetters : ByteArray := prog_11_method_54_code
def yX9_readsLetters : MethodName := ⟨RX9, "readsLetters", "()Z"⟩
abbrev cX9_readsWeight : ByteArray := prog_11_method_55_code
def yX9_readsWeight : MethodName := ⟨RX9, "readsWeight", "()Z"⟩
abbrev cX9_readsWord : ByteArray := prog_11_method_56_code
def yX9_readsWord : MethodName := ⟨RX9, "readsWord", "()Z"⟩
abbrev cX9_isRight : ByteArray := prog_11_method_57_code
def yX9_isRight : MethodName := ⟨RX9, "isRight", "()Z"⟩
abbrev cX9_fault : ByteArray := prog_11_method_58_code
def yX9_fault : MethodName := ⟨RX9, "fault", "(I)I"⟩
abbrev cX9_read : ByteArray := prog_11_method_59_code
def yX9_read : MethodName := ⟨RX9, "read", "()I"⟩
def RJxf58ca : String := "java/lang/Float"
def TJxf58ca : u_T := fun k => match k with
  | _ => ("", "", "", false)
def tyJxf58ca : Nat → FieldType := fun k => match k with
  | _ => .int
abbrev wsJxf58ca0 : List Cond := u_ws RJxf58ca TJxf58ca 0
theorem nmJxf58ca : ∀ a, a < 0 → ∀ b, b < 0 → a ≠ b → (TJxf58ca a).2.1 ≠ (TJxf58ca b).2.1 := by decide +kernel
theorem tyJxf58ca_ok : ∀ k, k < 0 → parseFieldDescriptor (TJxf58ca k).2.2.1 = some (tyJxf58ca k) := by decide +kernel
abbrev cJxf58ca_isNaN_12338 : ByteArray := prog_12_method_6_code
def yJxf58ca_isNaN_12338 : MethodName := ⟨RJxf58ca, "isNaN", "(F)Z"⟩
abbrev cJxf58ca_floatToIntBits_5c35a : ByteArray := prog_12_method_24_code
def yJxf58ca_floatToIntBits_5c35a : MethodName := ⟨RJxf58ca, "floatToIntBits", "(F)I"⟩
def RJ6 : String := "java/lang/Integer"
def TJ6 : u_T := fun k => match k with
  | _ => ("", "", "", false)
def tyJ6 : Nat → FieldType := fun k => match k with
  | _ => .int
abbrev wsJ60 : List Cond := u_ws RJ6 TJ6 0
theorem nmJ6 : ∀ a, a < 0 → ∀ b, b < 0 → a ≠ b → (TJ6 a).2.1 ≠ (TJ6 b).2.1 := by decide +kernel
theorem tyJ6_ok : ∀ k, k < 0 → parseFieldDescriptor (TJ6 k).2.2.1 = some (tyJ6 k) := by decide +kernel
abbrev cJ6_bitCount_0f7a4 : ByteArray := prog_13_method_49_code
def yJ6_bitCount_0f7a4 : MethodName := ⟨RJ6, "bitCount", "(I)I"⟩
def RJ9 : String := "java/lang/Math"
def TJ9 : u_T := fun k => match k with
  | _ => ("", "", "", false)
def tyJ9 : Nat → FieldType := fun k => match k with
  | _ => .int
abbrev wsJ90 : List Cond := u_ws RJ9 TJ9 0
theorem nmJ9 : ∀ a, a < 0 → ∀ b, b < 0 → a ≠ b → (TJ9 a).2.1 ≠ (TJ9 b).2.1 := by decide +kernel
theorem tyJ9_ok : ∀ k, k < 0 → parseFieldDescriptor (TJ9 k).2.2.1 = some (tyJ9 k) := by decide +kernel
abbrev cJ9_abs_0f7a4 : ByteArray := prog_14_method_59_code
def yJ9_abs_0f7a4 : MethodName := ⟨RJ9, "abs", "(I)I"⟩
abbrev cJ9_max_7cf53 : ByteArray := prog_14_method_65_code
def yJ9_max_7cf53 : MethodName := ⟨RJ9, "max", "(II)I"⟩
abbrev cJ9_min_7cf53 : ByteArray := prog_14_method_69_code
def yJ9_min_7cf53 : MethodName := ⟨RJ9, "min", "(II)I"⟩
def RJ10 : String := "java/lang/System"
def TJ10 : u_T := fun k => match k with
  | _ => ("", "", "", false)
def tyJ10 : Nat → FieldType := fun k => match k with
  | _ => .int
abbrev wsJ100 : List Cond := u_ws RJ10 TJ10 0
theorem nmJ10 : ∀ a, a < 0 → ∀ b, b < 0 → a ≠ b → (TJ10 a).2.1 ≠ (TJ10 b).2.1 := by decide +kernel
theorem tyJ10_ok : ∀ k, k < 0 → parseFieldDescriptor (TJ10 k).2.2.1 = some (tyJ10 k) := by decide +kernel
def RL : String := "GuessingHallLaw"
abbrev cL_law : ByteArray := code
def yL_law : MethodName := ⟨RL, "law", "([I)Z"⟩
def wsL_law_r1 : List Cond := [Cond.classLink RL 7 RX8, Cond.instantiable RX8 5, Cond.initialized RX8, Cond.classLink RL 10 RX9, Cond.instantiable RX9 11, Cond.initialized RX9, Cond.methodLink RL 9 yX8_init, Cond.instanceMethod yX8_init, Cond.code yX8_init cX8_init 1 none, Cond.methodLink RX8 1 objectInit, Cond.instanceMethod objectInit, Cond.code objectInit ⟨#[0xb1]⟩ 1 none, Cond.classLink RX8 7 RX5, Cond.instantiable RX5 9, Cond.initialized RX5, Cond.fieldLink RX8 10 "GuessingHall" "now" "LGuessingHall$State;", Cond.fieldLink RX8 16 "GuessingHall" "snapshot" "LGuessingHall$State;", Cond.classLink RX8 19 RX1, Cond.instantiable RX1 3, Cond.initialized RX1, Cond.fieldLink RX8 22 "GuessingHall" "history" "LGuessingHall$History;", Cond.classLink RX8 26 RX6, Cond.instantiable RX6 6, Cond.initialized RX6]
def wsL_law_r2 : List Cond := [Cond.fieldLink RX8 29 "GuessingHall" "text" "LGuessingHall$Text;", Cond.fieldLink RX8 33 "GuessingHall" "hasSnapshot" "Z", Cond.instanceMethod yX5_init, Cond.code yX5_init cX5_init 1 none, Cond.methodLink RX5 3 objectInit, Cond.classLink RX5 9 RX7, Cond.instantiable RX7 5, Cond.initialized RX7, Cond.fieldLink RX5 12 "GuessingHall$State" "words" "LGuessingHall$Words;", Cond.classLink RX5 18 RX0, Cond.instantiable RX0 7, Cond.initialized RX0, Cond.fieldLink RX5 21 "GuessingHall$State" "bench" "LGuessingHall$Bench;", Cond.classLink RX5 25 RX3, Cond.instantiable RX3 7, Cond.initialized RX3, Cond.fieldLink RX5 28 "GuessingHall$State" "round" "LGuessingHall$Round;", Cond.classLink RX5 32 RX2, Cond.instantiable RX2 5, Cond.initialized RX2, Cond.fieldLink RX5 35 "GuessingHall$State" "past" "LGuessingHall$PastRounds;", Cond.fieldLink RX5 39 "GuessingHall$State" "rounds" "I", Cond.fieldLink RX5 43 "GuessingHall$State" "starter" "I", Cond.fieldLink RX5 46 "GuessingHall$State" "house" "I"]
def wsL_law_r3 : List Cond := [Cond.fieldLink RX5 49 "GuessingHall$State" "drawNumber" "I", Cond.fieldLink RX5 52 "GuessingHall$State" "missLimit" "I", Cond.instanceMethod yX7_init, Cond.code yX7_init cX7_init 1 none, Cond.methodLink RX7 3 objectInit, Cond.classLink RX7 9 RX4, Cond.instantiable RX4 1, Cond.initialized RX4, Cond.fieldLink RX7 14 "GuessingHall$Words" "length" "LGuessingHall$Row;", Cond.fieldLink RX7 20 "GuessingHall$Words" "weight" "LGuessingHall$Row;", Cond.fieldLink RX7 23 "GuessingHall$Words" "drawn" "LGuessingHall$Row;", Cond.fieldLink RX7 26 "GuessingHall$Words" "letters" "LGuessingHall$Row;", Cond.methodLink RX7 11 yX4_init, Cond.instanceMethod yX4_init, Cond.code yX4_init cX4_init 2 none, Cond.methodLink RX4 1 objectInit, Cond.methodLink RX4 7 Lib.Math.max.name, Cond.static Lib.Math.max.name, Cond.initialized "java/lang/Math", Cond.code Lib.Math.max.name Lib.Math.max.code 2 (some .int), Cond.arrayClass .int, Cond.fieldLink RX4 13 "GuessingHall$Row" "cells" "[I", Cond.instanceMethod yX0_init, Cond.code yX0_init cX0_init 1 none]
def wsL_law_r4 : List Cond := [Cond.methodLink RX0 3 objectInit, Cond.classLink RX0 9 RX4, Cond.fieldLink RX0 14 "GuessingHall$Bench" "purse" "LGuessingHall$Row;", Cond.fieldLink RX0 20 "GuessingHall$Bench" "won" "LGuessingHall$Row;", Cond.fieldLink RX0 23 "GuessingHall$Bench" "hits" "LGuessingHall$Row;", Cond.fieldLink RX0 26 "GuessingHall$Bench" "misses" "LGuessingHall$Row;", Cond.fieldLink RX0 29 "GuessingHall$Bench" "hint" "LGuessingHall$Row;", Cond.fieldLink RX0 32 "GuessingHall$Bench" "whisperer" "LGuessingHall$Row;", Cond.methodLink RX0 11 yX4_init, Cond.instanceMethod yX3_init, Cond.code yX3_init cX3_init 1 none, Cond.methodLink RX3 1 objectInit, Cond.instanceMethod yX2_init, Cond.code yX2_init cX2_init 1 none, Cond.methodLink RX2 3 objectInit, Cond.classLink RX2 9 RX4, Cond.fieldLink RX2 14 "GuessingHall$PastRounds" "word" "LGuessingHall$Row;", Cond.fieldLink RX2 20 "GuessingHall$PastRounds" "winner" "LGuessingHall$Row;", Cond.fieldLink RX2 23 "GuessingHall$PastRounds" "misses" "LGuessingHall$Row;", Cond.fieldLink RX2 26 "GuessingHall$PastRounds" "stake" "LGuessingHall$Row;", Cond.methodLink RX2 11 yX4_init, Cond.methodLink RX8 21 yX1_init, Cond.instanceMethod yX1_init, Cond.code yX1_init cX1_init 2 none]
def wsL_law_r5 : List Cond := [Cond.methodLink RX1 3 objectInit, Cond.fieldLink RX1 9 "GuessingHall$History" "size" "I", Cond.fieldLink RX1 15 "GuessingHall$History" "free" "I", Cond.classLink RX1 18 RX5, Cond.fieldLink RX1 20 "GuessingHall$History" "ring" "[LGuessingHall$State;", Cond.instanceMethod yX6_init, Cond.code yX6_init cX6_init 1 none, Cond.methodLink RX6 3 objectInit, Cond.fieldLink RX6 9 "GuessingHall$Text" "length" "I", Cond.fieldLink RX6 15 "GuessingHall$Text" "faultPlace" "I", Cond.fieldLink RX6 18 "GuessingHall$Text" "faultReason" "I", Cond.classLink RX6 21 RX7, Cond.fieldLink RX6 24 "GuessingHall$Text" "list" "LGuessingHall$Words;", Cond.classLink RX6 28 RX4, Cond.fieldLink RX6 33 "GuessingHall$Text" "characters" "LGuessingHall$Row;", Cond.fieldLink RX6 37 "GuessingHall$Text" "position" "I", Cond.methodLink RX6 30 yX4_init, Cond.methodLink RL 12 yX9_init, Cond.instanceMethod yX9_init, Cond.code yX9_init cX9_init 1 none, Cond.methodLink RX9 1 objectInit, Cond.fieldLink RX9 7 "GuessingHallModel" "s" "[I", Cond.fieldLink RX9 13 "GuessingHallModel" "past" "[I", Cond.fieldLink RX9 16 "GuessingHallModel" "kept" "[I"]
def wsL_law_r6 : List Cond := [Cond.fieldLink RX9 19 "GuessingHallModel" "text" "[I", Cond.fieldLink RX9 22 "GuessingHallModel" "list" "[I", Cond.methodLink RL 13 yX8_word, Cond.instanceMethod yX8_word, Cond.selects RX8 yX8_word yX8_word, Cond.code yX8_word cX8_word 4 (some .int), Cond.fieldLink RX8 37 "GuessingHall$State" "words" "LGuessingHall$Words;", Cond.fieldLink RX8 51 "GuessingHall$State" "round" "LGuessingHall$Round;", Cond.fieldLink RX8 55 "GuessingHall$Round" "running" "Z", Cond.fieldLink RX8 64 "GuessingHall$Words" "weight" "LGuessingHall$Row;", Cond.methodLink RX8 41 yX7_has, Cond.instanceMethod yX7_has, Cond.selects RX7 yX7_has yX7_has, Cond.code yX7_has cX7_has 2 (some .boolean), Cond.fieldLink RX7 29 "GuessingHall$Words" "size" "I", Cond.methodLink RX8 47 yX8_isBetween, Cond.static yX8_isBetween, Cond.code yX8_isBetween cX8_isBetween 3 (some .boolean), Cond.methodLink RX8 60 yX1_record, Cond.instanceMethod yX1_record, Cond.selects RX1 yX1_record yX1_record, Cond.code yX1_record cX1_record 3 none, Cond.methodLink RX1 33 Lib.Math.min.name, Cond.static Lib.Math.min.name]
def wsL_law_r7 : List Cond := [Cond.code Lib.Math.min.name Lib.Math.min.code 2 (some .int), Cond.methodLink RX1 25 yX1_slotAt, Cond.instanceMethod yX1_slotAt, Cond.selects RX1 yX1_slotAt yX1_slotAt, Cond.code yX1_slotAt cX1_slotAt 2 (some (.object "GuessingHall$State")), Cond.methodLink RX1 29 yX5_copyFrom, Cond.instanceMethod yX5_copyFrom, Cond.selects RX5 yX5_copyFrom yX5_copyFrom, Cond.code yX5_copyFrom cX5_copyFrom 2 none, Cond.methodLink RX5 55 yX7_copyFrom, Cond.instanceMethod yX7_copyFrom, Cond.selects RX7 yX7_copyFrom yX7_copyFrom, Cond.code yX7_copyFrom cX7_copyFrom 2 none, Cond.methodLink RX7 33 yX4_copyFrom, Cond.instanceMethod yX4_copyFrom, Cond.selects RX4 yX4_copyFrom yX4_copyFrom, Cond.code yX4_copyFrom cX4_copyFrom 2 none, Cond.methodLink RX4 27 Lib.Math.min.name, Cond.methodLink RX4 30 arraycopyName, Cond.native arraycopyName, Cond.static arraycopyName, Cond.initialized "java/lang/System", Cond.methodLink RX5 59 yX0_copyFrom, Cond.instanceMethod yX0_copyFrom]
def wsL_law_r8 : List Cond := [Cond.selects RX0 yX0_copyFrom yX0_copyFrom, Cond.code yX0_copyFrom cX0_copyFrom 2 none, Cond.fieldLink RX0 35 "GuessingHall$Bench" "size" "I", Cond.methodLink RX0 39 yX4_copyFrom, Cond.methodLink RX5 62 yX3_copyFrom, Cond.instanceMethod yX3_copyFrom, Cond.selects RX3 yX3_copyFrom yX3_copyFrom, Cond.code yX3_copyFrom cX3_copyFrom 2 none, Cond.fieldLink RX3 7 "GuessingHall$Round" "running" "Z", Cond.fieldLink RX3 13 "GuessingHall$Round" "word" "I", Cond.fieldLink RX3 17 "GuessingHall$Round" "stake" "I", Cond.fieldLink RX3 20 "GuessingHall$Round" "turn" "I", Cond.fieldLink RX3 23 "GuessingHall$Round" "pot" "I", Cond.fieldLink RX3 26 "GuessingHall$Round" "misses" "I", Cond.fieldLink RX3 29 "GuessingHall$Round" "guessed" "I", Cond.methodLink RX5 65 yX2_copyFrom, Cond.instanceMethod yX2_copyFrom, Cond.selects RX2 yX2_copyFrom yX2_copyFrom, Cond.code yX2_copyFrom cX2_copyFrom 2 none, Cond.fieldLink RX2 29 "GuessingHall$PastRounds" "size" "I", Cond.methodLink RX2 33 yX4_copyFrom, Cond.methodLink RX8 68 yX4_at, Cond.instanceMethod yX4_at, Cond.selects RX4 yX4_at yX4_at]
def wsL_law_r9 : List Cond := [Cond.code yX4_at cX4_at 2 (some .int), Cond.methodLink RX8 74 yX4_put, Cond.instanceMethod yX4_put, Cond.selects RX4 yX4_put yX4_put, Cond.code yX4_put cX4_put 3 none, Cond.methodLink RL 17 yX9_word, Cond.instanceMethod yX9_word, Cond.selects RX9 yX9_word yX9_word, Cond.code yX9_word cX9_word 4 (some .int), Cond.methodLink RX9 36 yX9_isWord, Cond.instanceMethod yX9_isWord, Cond.selects RX9 yX9_isWord yX9_isWord, Cond.code yX9_isWord cX9_isWord 2 (some .boolean), Cond.methodLink RX9 40 yX9_in, Cond.static yX9_in, Cond.code yX9_in cX9_in 3 (some .boolean), Cond.methodLink RX9 44 yX9_runs, Cond.instanceMethod yX9_runs, Cond.selects RX9 yX9_runs yX9_runs, Cond.code yX9_runs cX9_runs 1 (some .boolean), Cond.methodLink RX9 48 yX9_changes, Cond.instanceMethod yX9_changes, Cond.selects RX9 yX9_changes yX9_changes, Cond.code yX9_changes cX9_changes 2 none]
def wsL_law_r10 : List Cond := [Cond.fieldLink RX9 25 "GuessingHallModel" "pasts" "I", Cond.methodLink RX9 29 yX9_of, Cond.instanceMethod yX9_of, Cond.selects RX9 yX9_of yX9_of, Cond.code yX9_of cX9_of 3 (some .int), Cond.methodLink RL 18 yX8_seat, Cond.instanceMethod yX8_seat, Cond.selects RX8 yX8_seat yX8_seat, Cond.code yX8_seat cX8_seat 2 (some .int), Cond.fieldLink RX8 78 "GuessingHall$State" "bench" "LGuessingHall$Bench;", Cond.fieldLink RX8 82 "GuessingHall$Bench" "size" "I", Cond.methodLink RX8 88 yX0_add, Cond.instanceMethod yX0_add, Cond.selects RX0 yX0_add yX0_add, Cond.code yX0_add cX0_add 3 (some .int), Cond.methodLink RX0 43 yX4_put, Cond.methodLink RX0 47 yX0_dropHint, Cond.instanceMethod yX0_dropHint, Cond.selects RX0 yX0_dropHint yX0_dropHint, Cond.code yX0_dropHint cX0_dropHint 2 none, Cond.methodLink RL 22 yX9_seat, Cond.instanceMethod yX9_seat, Cond.selects RX9 yX9_seat yX9_seat, Cond.code yX9_seat cX9_seat 3 (some .int)]
def wsL_law_r11 : List Cond := [Cond.methodLink RX9 51 yX9_at, Cond.static yX9_at, Cond.code yX9_at cX9_at 2 (some .int), Cond.methodLink RL 23 yX8_lend, Cond.instanceMethod yX8_lend, Cond.selects RX8 yX8_lend yX8_lend, Cond.code yX8_lend cX8_lend 4 (some .int), Cond.fieldLink RX8 92 "GuessingHall$Bench" "purse" "LGuessingHall$Row;", Cond.methodLink RX8 91 yX0_has, Cond.instanceMethod yX0_has, Cond.selects RX0 yX0_has yX0_has, Cond.code yX0_has cX0_has 2 (some .boolean), Cond.methodLink RX8 95 yX4_add, Cond.instanceMethod yX4_add, Cond.selects RX4 yX4_add yX4_add, Cond.code yX4_add cX4_add 3 none, Cond.methodLink RX4 19 yX4_at, Cond.methodLink RX4 23 yX4_put, Cond.methodLink RL 27 yX9_lend, Cond.instanceMethod yX9_lend, Cond.selects RX9 yX9_lend yX9_lend, Cond.code yX9_lend cX9_lend 4 (some .int), Cond.methodLink RX9 54 yX9_isPlayer, Cond.instanceMethod yX9_isPlayer]
def wsL_law_r12 : List Cond := [Cond.selects RX9 yX9_isPlayer yX9_isPlayer, Cond.code yX9_isPlayer cX9_isPlayer 2 (some .boolean), Cond.methodLink RL 28 yX8_set, Cond.instanceMethod yX8_set, Cond.selects RX8 yX8_set yX8_set, Cond.code yX8_set cX8_set 4 (some .int), Cond.fieldLink RX8 97 "GuessingHall$State" "missLimit" "I", Cond.methodLink RL 31 yX9_set, Cond.instanceMethod yX9_set, Cond.selects RX9 yX9_set yX9_set, Cond.code yX9_set cX9_set 4 (some .int), Cond.methodLink RL 32 yX8_seed, Cond.instanceMethod yX8_seed, Cond.selects RX8 yX8_seed yX8_seed, Cond.code yX8_seed cX8_seed 3 (some .int), Cond.fieldLink RX8 100 "GuessingHall$State" "drawNumber" "I", Cond.methodLink RL 35 yX9_seed, Cond.instanceMethod yX9_seed, Cond.selects RX9 yX9_seed yX9_seed, Cond.code yX9_seed cX9_seed 3 (some .int), Cond.methodLink RL 36 yX8_begin, Cond.instanceMethod yX8_begin, Cond.selects RX8 yX8_begin yX8_begin, Cond.code yX8_begin cX8_begin 2 (some .int)]
def wsL_law_r13 : List Cond := [Cond.fieldLink RX8 110 "GuessingHall$Words" "length" "LGuessingHall$Row;", Cond.fieldLink RX8 113 "GuessingHall$Round" "word" "I", Cond.methodLink RX8 103 yX5_canBegin, Cond.instanceMethod yX5_canBegin, Cond.selects RX5 yX5_canBegin yX5_canBegin, Cond.code yX5_canBegin cX5_canBegin 2 (some .boolean), Cond.fieldLink RX5 68 "GuessingHall$Round" "running" "Z", Cond.fieldLink RX5 72 "GuessingHall$Words" "size" "I", Cond.fieldLink RX5 75 "GuessingHall$Bench" "size" "I", Cond.methodLink RX5 76 yX0_canAllPay, Cond.instanceMethod yX0_canAllPay, Cond.selects RX0 yX0_canAllPay yX0_canAllPay, Cond.code yX0_canAllPay cX0_canAllPay 3 (some .boolean), Cond.methodLink RX0 50 yX4_at, Cond.methodLink RX8 106 yX5_beginRound, Cond.instanceMethod yX5_beginRound, Cond.selects RX5 yX5_beginRound yX5_beginRound, Cond.code yX5_beginRound cX5_beginRound 2 none, Cond.fieldLink RX5 90 "GuessingHall$Round" "word" "I", Cond.fieldLink RX5 93 "GuessingHall$Round" "stake" "I", Cond.fieldLink RX5 96 "GuessingHall$Round" "turn" "I", Cond.fieldLink RX5 99 "GuessingHall$Round" "pot" "I", Cond.fieldLink RX5 102 "GuessingHall$Round" "misses" "I", Cond.fieldLink RX5 105 "GuessingHall$Round" "guessed" "I"]
def wsL_law_r14 : List Cond := [Cond.fieldLink RX5 112 "GuessingHall$Words" "drawn" "LGuessingHall$Row;", Cond.static yX8_numberBehind, Cond.code yX8_numberBehind cX8_numberBehind 1 (some .int), Cond.constantLong RX8 286 (1103515245), Cond.constantLong RX8 288 (12345), Cond.constantLong RX8 290 (2147483648), Cond.methodLink RX5 84 yX0_behind, Cond.instanceMethod yX0_behind, Cond.selects RX0 yX0_behind yX0_behind, Cond.code yX0_behind cX0_behind 2 (some .int), Cond.methodLink RX5 87 yX7_drawnBy, Cond.instanceMethod yX7_drawnBy, Cond.selects RX7 yX7_drawnBy yX7_drawnBy, Cond.code yX7_drawnBy cX7_drawnBy 6 (some .int), Cond.constant RX7 60 (65536), Cond.methodLink RX7 56 yX7_weightSum, Cond.instanceMethod yX7_weightSum, Cond.selects RX7 yX7_weightSum yX7_weightSum, Cond.code yX7_weightSum cX7_weightSum 1 (some .int), Cond.methodLink RX7 53 yX7_weightOf, Cond.instanceMethod yX7_weightOf, Cond.selects RX7 yX7_weightOf yX7_weightOf, Cond.code yX7_weightOf cX7_weightOf 4 (some .int), Cond.static yX8_holds]
def wsL_law_r15 : List Cond := [Cond.code yX8_holds cX8_holds 2 (some .boolean), Cond.methodLink RX7 37 yX4_at, Cond.methodLink RX5 108 yX0_takeFromAll, Cond.instanceMethod yX0_takeFromAll, Cond.selects RX0 yX0_takeFromAll yX0_takeFromAll, Cond.code yX0_takeFromAll cX0_takeFromAll 3 none, Cond.methodLink RX0 54 yX4_add, Cond.methodLink RX5 116 yX4_add, Cond.methodLink RL 39 yX9_begin, Cond.instanceMethod yX9_begin, Cond.selects RX9 yX9_begin yX9_begin, Cond.code yX9_begin cX9_begin 3 (some .int), Cond.methodLink RX9 68 yX9_canPay, Cond.instanceMethod yX9_canPay, Cond.selects RX9 yX9_canPay yX9_canPay, Cond.code yX9_canPay cX9_canPay 4 (some .boolean), Cond.methodLink RX9 71 yX9_drawn, Cond.instanceMethod yX9_drawn, Cond.selects RX9 yX9_drawn yX9_drawn, Cond.code yX9_drawn cX9_drawn 1 (some .int), Cond.constantLong RX9 57 (1103515245), Cond.constantLong RX9 59 (12345), Cond.constantLong RX9 61 (2147483648), Cond.methodLink RX9 74 yX9_wordBy]
def wsL_law_r16 : List Cond := [Cond.instanceMethod yX9_wordBy, Cond.selects RX9 yX9_wordBy yX9_wordBy, Cond.code yX9_wordBy cX9_wordBy 4 (some .int), Cond.constant RX9 63 (65536), Cond.methodLink RX9 64 yX9_weights, Cond.instanceMethod yX9_weights, Cond.selects RX9 yX9_weights yX9_weights, Cond.code yX9_weights cX9_weights 3 (some .int), Cond.methodLink RL 40 yX8_guess, Cond.instanceMethod yX8_guess, Cond.selects RX8 yX8_guess yX8_guess, Cond.code yX8_guess cX8_guess 2 (some .int), Cond.methodLink RX8 116 yX8_isLetter, Cond.static yX8_isLetter, Cond.code yX8_isLetter cX8_isLetter 1 (some .boolean), Cond.methodLink RX8 119 yX3_takes, Cond.instanceMethod yX3_takes, Cond.selects RX3 yX3_takes yX3_takes, Cond.code yX3_takes cX3_takes 2 (some .boolean), Cond.methodLink RX8 122 yX5_guessLetter, Cond.instanceMethod yX5_guessLetter, Cond.selects RX5 yX5_guessLetter yX5_guessLetter, Cond.code yX5_guessLetter cX5_guessLetter 5 (some .int), Cond.fieldLink RX5 122 "GuessingHall$Bench" "hint" "LGuessingHall$Row;"]
def wsL_law_r17 : List Cond := [Cond.fieldLink RX5 143 "GuessingHall$Bench" "hits" "LGuessingHall$Row;", Cond.fieldLink RX5 154 "GuessingHall$Words" "length" "LGuessingHall$Row;", Cond.methodLink RX5 125 yX4_at, Cond.methodLink RX5 128 yX0_dropHint, Cond.methodLink RX5 131 yX7_placesOf, Cond.instanceMethod yX7_placesOf, Cond.selects RX7 yX7_placesOf yX7_placesOf, Cond.code yX7_placesOf cX7_placesOf 6 (some .int), Cond.methodLink RX7 45 yX7_letterAt, Cond.instanceMethod yX7_letterAt, Cond.selects RX7 yX7_letterAt yX7_letterAt, Cond.code yX7_letterAt cX7_letterAt 3 (some .int), Cond.methodLink RX5 135 yJ6_bitCount_0f7a4, Cond.static yJ6_bitCount_0f7a4, Cond.initialized RJ6, Cond.code yJ6_bitCount_0f7a4 cJ6_bitCount_0f7a4 1 (some .int), Cond.constant RJ6 265 (1431655765), Cond.constant RJ6 266 (858993459), Cond.constant RJ6 267 (252645135), Cond.methodLink RX5 140 yX5_countMiss, Cond.instanceMethod yX5_countMiss, Cond.selects RX5 yX5_countMiss yX5_countMiss, Cond.code yX5_countMiss cX5_countMiss 1 none, Cond.fieldLink RX5 169 "GuessingHall$Bench" "misses" "LGuessingHall$Row;"]
def wsL_law_r18 : List Cond := [Cond.methodLink RX5 171 yX5_endRound, Cond.instanceMethod yX5_endRound, Cond.selects RX5 yX5_endRound yX5_endRound, Cond.code yX5_endRound cX5_endRound 2 none, Cond.methodLink RX5 177 yX2_putFirst, Cond.instanceMethod yX2_putFirst, Cond.selects RX2 yX2_putFirst yX2_putFirst, Cond.code yX2_putFirst cX2_putFirst 4 none, Cond.methodLink RX2 37 Lib.Math.min.name, Cond.fieldLink RX2 51 "GuessingHall$Round" "word" "I", Cond.fieldLink RX2 55 "GuessingHall$Round" "misses" "I", Cond.fieldLink RX2 57 "GuessingHall$Round" "stake" "I", Cond.methodLink RX2 43 yX4_at, Cond.methodLink RX2 47 yX4_put, Cond.methodLink RX5 181 yX0_dropHints, Cond.instanceMethod yX0_dropHints, Cond.selects RX0 yX0_dropHints yX0_dropHints, Cond.code yX0_dropHints cX0_dropHints 2 none, Cond.methodLink RX5 146 yX5_payForPlaces, Cond.instanceMethod yX5_payForPlaces, Cond.selects RX5 yX5_payForPlaces yX5_payForPlaces, Cond.code yX5_payForPlaces cX5_payForPlaces 6 none, Cond.fieldLink RX5 163 "GuessingHall$Bench" "purse" "LGuessingHall$Row;", Cond.fieldLink RX5 166 "GuessingHall$Bench" "whisperer" "LGuessingHall$Row;"]
def wsL_law_r19 : List Cond := [Cond.methodLink RX5 160 yX3_takeFromPot, Cond.instanceMethod yX3_takeFromPot, Cond.selects RX3 yX3_takeFromPot yX3_takeFromPot, Cond.code yX3_takeFromPot cX3_takeFromPot 3 (some .int), Cond.methodLink RX3 38 Lib.Math.min.name, Cond.methodLink RX5 150 yX5_openPlaces, Cond.instanceMethod yX5_openPlaces, Cond.selects RX5 yX5_openPlaces yX5_openPlaces, Cond.code yX5_openPlaces cX5_openPlaces 4 (some .int), Cond.methodLink RX5 184 yX7_letterAt, Cond.methodLink RX5 157 yX5_winRound, Cond.instanceMethod yX5_winRound, Cond.selects RX5 yX5_winRound yX5_winRound, Cond.code yX5_winRound cX5_winRound 1 none, Cond.fieldLink RX5 174 "GuessingHall$Bench" "won" "LGuessingHall$Row;", Cond.methodLink RL 43 yX9_guess, Cond.instanceMethod yX9_guess, Cond.selects RX9 yX9_guess yX9_guess, Cond.code yX9_guess cX9_guess 5 (some .int), Cond.methodLink RX9 85 yX9_places, Cond.instanceMethod yX9_places, Cond.selects RX9 yX9_places yX9_places, Cond.code yX9_places cX9_places 5 (some .int), Cond.methodLink RX9 33 yX9_letterAt]
def wsL_law_r20 : List Cond := [Cond.instanceMethod yX9_letterAt, Cond.selects RX9 yX9_letterAt yX9_letterAt, Cond.code yX9_letterAt cX9_letterAt 3 (some .int), Cond.methodLink RX9 88 yX9_misses, Cond.instanceMethod yX9_misses, Cond.selects RX9 yX9_misses yX9_misses, Cond.code yX9_misses cX9_misses 1 none, Cond.methodLink RX9 78 yX9_ends, Cond.instanceMethod yX9_ends, Cond.selects RX9 yX9_ends yX9_ends, Cond.code yX9_ends cX9_ends 3 none, Cond.methodLink RX9 91 yX9_hits, Cond.instanceMethod yX9_hits, Cond.selects RX9 yX9_hits yX9_hits, Cond.code yX9_hits cX9_hits 7 none, Cond.methodLink RX9 82 yX9_ones, Cond.static yX9_ones, Cond.code yX9_ones cX9_ones 3 (some .int), Cond.methodLink RL 44 yX8_tell, Cond.instanceMethod yX8_tell, Cond.selects RX8 yX8_tell yX8_tell, Cond.code yX8_tell cX8_tell 2 (some .int), Cond.methodLink RX8 125 yX5_tellWord, Cond.instanceMethod yX5_tellWord]
def wsL_law_r21 : List Cond := [Cond.selects RX5 yX5_tellWord yX5_tellWord, Cond.code yX5_tellWord cX5_tellWord 2 (some .boolean), Cond.methodLink RL 47 yX9_tell, Cond.instanceMethod yX9_tell, Cond.selects RX9 yX9_tell yX9_tell, Cond.code yX9_tell cX9_tell 3 (some .int), Cond.methodLink RL 48 yX8_whisper, Cond.instanceMethod yX8_whisper, Cond.selects RX8 yX8_whisper yX8_whisper, Cond.code yX8_whisper cX8_whisper 5 (some .int), Cond.methodLink RX8 128 Lib.Math.abs.name, Cond.static Lib.Math.abs.name, Cond.code Lib.Math.abs.name Lib.Math.abs.code 1 (some .int), Cond.fieldLink RX8 133 "GuessingHall$Bench" "hint" "LGuessingHall$Row;", Cond.fieldLink RX8 136 "GuessingHall$Bench" "whisperer" "LGuessingHall$Row;", Cond.methodLink RL 51 yX9_whisper, Cond.instanceMethod yX9_whisper, Cond.selects RX9 yX9_whisper yX9_whisper, Cond.code yX9_whisper cX9_whisper 6 (some .int), Cond.methodLink RL 52 yX8_wordOf, Cond.instanceMethod yX8_wordOf, Cond.selects RX8 yX8_wordOf yX8_wordOf, Cond.code yX8_wordOf cX8_wordOf 4 (some .int), Cond.fieldLink RX8 142 "GuessingHall$Words" "drawn" "LGuessingHall$Row;"]
def wsL_law_r22 : List Cond := [Cond.methodLink RX8 139 yX7_letterSet, Cond.instanceMethod yX7_letterSet, Cond.selects RX7 yX7_letterSet yX7_letterSet, Cond.code yX7_letterSet cX7_letterSet 5 (some .int), Cond.methodLink RX8 145 yX8_fitOf, Cond.instanceMethod yX8_fitOf, Cond.selects RX8 yX8_fitOf yX8_fitOf, Cond.code yX8_fitOf cX8_fitOf 2 (some .int), Cond.methodLink RX8 196 yX5_fitting, Cond.instanceMethod yX5_fitting, Cond.selects RX5 yX5_fitting yX5_fitting, Cond.code yX5_fitting cX5_fitting 1 (some .int), Cond.methodLink RX5 191 yX7_fitting, Cond.instanceMethod yX7_fitting, Cond.selects RX7 yX7_fitting yX7_fitting, Cond.code yX7_fitting cX7_fitting 5 (some .int), Cond.methodLink RX7 61 yX7_looksLike, Cond.instanceMethod yX7_looksLike, Cond.selects RX7 yX7_looksLike yX7_looksLike, Cond.code yX7_looksLike cX7_looksLike 9 (some .boolean), Cond.methodLink RX8 170 yX8_holds, Cond.methodLink RX8 148 yX8_letterAtCode, Cond.instanceMethod yX8_letterAtCode, Cond.selects RX8 yX8_letterAtCode yX8_letterAtCode]
def wsL_law_r23 : List Cond := [Cond.code yX8_letterAtCode cX8_letterAtCode 3 (some .int), Cond.methodLink RX8 164 yX7_letterAt, Cond.methodLink RL 55 yX9_wordOf, Cond.instanceMethod yX9_wordOf, Cond.selects RX9 yX9_wordOf yX9_wordOf, Cond.code yX9_wordOf cX9_wordOf 3 (some .int), Cond.methodLink RX9 116 yX9_lettersOf, Cond.instanceMethod yX9_lettersOf, Cond.selects RX9 yX9_lettersOf yX9_lettersOf, Cond.code yX9_lettersOf cX9_lettersOf 4 (some .int), Cond.methodLink RX9 95 yX9_fitsOne, Cond.instanceMethod yX9_fitsOne, Cond.selects RX9 yX9_fitsOne yX9_fitsOne, Cond.code yX9_fitsOne cX9_fitsOne 6 (some .boolean), Cond.methodLink RL 56 yX8_playerOf, Cond.instanceMethod yX8_playerOf, Cond.selects RX8 yX8_playerOf yX8_playerOf, Cond.code yX8_playerOf cX8_playerOf 4 (some .int), Cond.fieldLink RX8 152 "GuessingHall$Bench" "won" "LGuessingHall$Row;", Cond.fieldLink RX8 155 "GuessingHall$Bench" "hits" "LGuessingHall$Row;", Cond.fieldLink RX8 158 "GuessingHall$Bench" "misses" "LGuessingHall$Row;", Cond.methodLink RX8 161 yX0_hasHint, Cond.instanceMethod yX0_hasHint, Cond.selects RX0 yX0_hasHint yX0_hasHint]
def wsL_law_r24 : List Cond := [Cond.code yX0_hasHint cX0_hasHint 2 (some .boolean), Cond.methodLink RL 59 yX9_playerOf, Cond.instanceMethod yX9_playerOf, Cond.selects RX9 yX9_playerOf yX9_playerOf, Cond.code yX9_playerOf cX9_playerOf 3 (some .int), Cond.methodLink RL 60 yX8_open, Cond.instanceMethod yX8_open, Cond.selects RX8 yX8_open yX8_open, Cond.code yX8_open cX8_open 3 (some .int), Cond.fieldLink RX8 167 "GuessingHall$Round" "guessed" "I", Cond.methodLink RL 63 yX9_open, Cond.instanceMethod yX9_open, Cond.selects RX9 yX9_open yX9_open, Cond.code yX9_open cX9_open 2 (some .int), Cond.methodLink RL 64 yX8_round, Cond.instanceMethod yX8_round, Cond.selects RX8 yX8_round yX8_round, Cond.code yX8_round cX8_round 3 (some .int), Cond.fieldLink RX8 174 "GuessingHall$State" "past" "LGuessingHall$PastRounds;", Cond.fieldLink RX8 178 "GuessingHall$PastRounds" "size" "I", Cond.fieldLink RX8 181 "GuessingHall$PastRounds" "word" "LGuessingHall$Row;", Cond.fieldLink RX8 183 "GuessingHall$PastRounds" "winner" "LGuessingHall$Row;", Cond.fieldLink RX8 186 "GuessingHall$PastRounds" "misses" "LGuessingHall$Row;", Cond.fieldLink RX8 187 "GuessingHall$PastRounds" "stake" "LGuessingHall$Row;"]
def wsL_law_r25 : List Cond := [Cond.methodLink RL 67 yX9_round, Cond.instanceMethod yX9_round, Cond.selects RX9 yX9_round yX9_round, Cond.code yX9_round cX9_round 3 (some .int), Cond.methodLink RL 68 yX8_count, Cond.instanceMethod yX8_count, Cond.selects RX8 yX8_count yX8_count, Cond.code yX8_count cX8_count 2 (some .int), Cond.methodLink RX8 190 yX8_countOfRound, Cond.instanceMethod yX8_countOfRound, Cond.selects RX8 yX8_countOfRound yX8_countOfRound, Cond.code yX8_countOfRound cX8_countOfRound 2 (some .int), Cond.fieldLink RX8 266 "GuessingHall$Round" "turn" "I", Cond.fieldLink RX8 269 "GuessingHall$Round" "pot" "I", Cond.fieldLink RX8 272 "GuessingHall$Round" "misses" "I", Cond.methodLink RX8 274 yX5_openPlaces, Cond.methodLink RX8 193 yX8_countOfHall, Cond.instanceMethod yX8_countOfHall, Cond.selects RX8 yX8_countOfHall yX8_countOfHall, Cond.code yX8_countOfHall cX8_countOfHall 2 (some .int), Cond.fieldLink RX8 228 "GuessingHall$Words" "size" "I", Cond.fieldLink RX8 277 "GuessingHall$State" "rounds" "I", Cond.fieldLink RX8 280 "GuessingHall$State" "house" "I", Cond.fieldLink RX8 238 "GuessingHall$History" "size" "I"]
def wsL_law_r26 : List Cond := [Cond.fieldLink RX8 242 "GuessingHall$Text" "length" "I", Cond.methodLink RX8 283 yX7_weightSum, Cond.methodLink RL 71 yX9_count, Cond.instanceMethod yX9_count, Cond.selects RX9 yX9_count yX9_count, Cond.code yX9_count cX9_count 2 (some .int), Cond.fieldLink RX9 119 "GuessingHallModel" "typed" "I", Cond.fieldLink RX9 122 "GuessingHallModel" "isKept" "Z", Cond.methodLink RL 72 yX8_fits, Cond.instanceMethod yX8_fits, Cond.selects RX8 yX8_fits yX8_fits, Cond.code yX8_fits cX8_fits 3 (some .int), Cond.methodLink RX8 200 yJ6_bitCount_0f7a4, Cond.methodLink RX8 205 yX7_weightOf, Cond.methodLink RX8 208 yX5_likeliestLetter, Cond.instanceMethod yX5_likeliestLetter, Cond.selects RX5 yX5_likeliestLetter yX5_likeliestLetter, Cond.code yX5_likeliestLetter cX5_likeliestLetter 6 (some .int), Cond.methodLink RX5 194 yX3_takes, Cond.methodLink RX5 197 yX7_weightHaving, Cond.instanceMethod yX7_weightHaving, Cond.selects RX7 yX7_weightHaving yX7_weightHaving, Cond.code yX7_weightHaving cX7_weightHaving 5 (some .int), Cond.methodLink RX7 65 yX7_placesOf]
def wsL_law_r27 : List Cond := [Cond.methodLink RX8 211 yX7_weightHaving, Cond.methodLink RL 75 yX9_fits, Cond.instanceMethod yX9_fits, Cond.selects RX9 yX9_fits yX9_fits, Cond.code yX9_fits cX9_fits 3 (some .int), Cond.methodLink RX9 101 yX9_fitting, Cond.instanceMethod yX9_fitting, Cond.selects RX9 yX9_fitting yX9_fitting, Cond.code yX9_fitting cX9_fitting 3 (some .int), Cond.methodLink RX9 98 yX9_weightsOf, Cond.instanceMethod yX9_weightsOf, Cond.selects RX9 yX9_weightsOf yX9_weightsOf, Cond.code yX9_weightsOf cX9_weightsOf 6 (some .int), Cond.methodLink RX9 104 yX9_bestLetter, Cond.instanceMethod yX9_bestLetter, Cond.selects RX9 yX9_bestLetter yX9_bestLetter, Cond.code yX9_bestLetter cX9_bestLetter 6 (some .int), Cond.methodLink RL 76 yX8_letterOf, Cond.instanceMethod yX8_letterOf, Cond.selects RX8 yX8_letterOf yX8_letterOf, Cond.code yX8_letterOf cX8_letterOf 4 (some .int), Cond.methodLink RX8 214 yX8_chanceOf, Cond.static yX8_chanceOf, Cond.code yX8_chanceOf cX8_chanceOf 2 (some .float)]
def wsL_law_r28 : List Cond := [Cond.methodLink RX8 218 yX8_bitsOf, Cond.static yX8_bitsOf, Cond.code yX8_bitsOf cX8_bitsOf 4 (some .int), Cond.constantFloat RX8 292 (1258291200), Cond.methodLink RX8 222 yX7_largestGroup, Cond.instanceMethod yX7_largestGroup, Cond.selects RX7 yX7_largestGroup yX7_largestGroup, Cond.code yX7_largestGroup cX7_largestGroup 5 (some .int), Cond.methodLink RX7 72 Lib.Math.max.name, Cond.methodLink RX7 68 yX7_groupOf, Cond.instanceMethod yX7_groupOf, Cond.selects RX7 yX7_groupOf yX7_groupOf, Cond.code yX7_groupOf cX7_groupOf 7 (some .int), Cond.methodLink RL 79 yX9_letterOf, Cond.instanceMethod yX9_letterOf, Cond.selects RX9 yX9_letterOf yX9_letterOf, Cond.code yX9_letterOf cX9_letterOf 5 (some .int), Cond.methodLink RX9 107 yJxf58ca_floatToIntBits_5c35a, Cond.static yJxf58ca_floatToIntBits_5c35a, Cond.initialized RJxf58ca, Cond.code yJxf58ca_floatToIntBits_5c35a cJxf58ca_floatToIntBits_5c35a 1 (some .int), Cond.methodLink RJxf58ca 74 ⟨"java/lang/Float", "floatToRawIntBits", "(F)I"⟩, Cond.native ⟨"java/lang/Float", "floatToRawIntBits", "(F)I"⟩, Cond.static ⟨"java/lang/Float", "floatToRawIntBits", "(F)I"⟩]
def wsL_law_r29 : List Cond := [Cond.initialized "java/lang/Float", Cond.constant RJxf58ca 77 (2143289344), Cond.methodLink RJxf58ca 59 yJxf58ca_isNaN_12338, Cond.static yJxf58ca_isNaN_12338, Cond.code yJxf58ca_isNaN_12338 cJxf58ca_isNaN_12338 1 (some .boolean), Cond.methodLink RX9 113 yX9_greatest, Cond.instanceMethod yX9_greatest, Cond.selects RX9 yX9_greatest yX9_greatest, Cond.code yX9_greatest cX9_greatest 7 (some .int), Cond.methodLink RL 80 yX8_sharpest, Cond.instanceMethod yX8_sharpest, Cond.selects RX8 yX8_sharpest yX8_sharpest, Cond.code yX8_sharpest cX8_sharpest 1 (some .int), Cond.methodLink RX8 225 yX5_sharpestLetter, Cond.instanceMethod yX5_sharpestLetter, Cond.selects RX5 yX5_sharpestLetter yX5_sharpestLetter, Cond.code yX5_sharpestLetter cX5_sharpestLetter 6 (some .int), Cond.methodLink RX5 200 yX7_largestGroup, Cond.methodLink RL 84 yX9_sharpest, Cond.instanceMethod yX9_sharpest, Cond.selects RX9 yX9_sharpest yX9_sharpest, Cond.code yX9_sharpest cX9_sharpest 6 (some .int), Cond.methodLink RL 85 yX8_next, Cond.instanceMethod yX8_next]
def wsL_law_r30 : List Cond := [Cond.selects RX8 yX8_next yX8_next, Cond.code yX8_next cX8_next 1 (some .int), Cond.methodLink RX8 229 yX8_numberBehind, Cond.methodLink RX8 232 yX7_drawnBy, Cond.methodLink RL 88 yX9_next, Cond.instanceMethod yX9_next, Cond.selects RX9 yX9_next yX9_next, Cond.code yX9_next cX9_next 1 (some .int), Cond.methodLink RL 89 yX8_keep, Cond.instanceMethod yX8_keep, Cond.selects RX8 yX8_keep yX8_keep, Cond.code yX8_keep cX8_keep 1 (some .int), Cond.methodLink RX8 235 yX5_copyFrom, Cond.methodLink RL 92 yX9_keep, Cond.instanceMethod yX9_keep, Cond.selects RX9 yX9_keep yX9_keep, Cond.code yX9_keep cX9_keep 1 (some .int), Cond.methodLink RX9 126 yX9_copies, Cond.static yX9_copies, Cond.code yX9_copies cX9_copies 3 none, Cond.methodLink RL 93 yX8_restore, Cond.instanceMethod yX8_restore, Cond.selects RX8 yX8_restore yX8_restore, Cond.code yX8_restore cX8_restore 1 (some .int)]
def wsL_law_r31 : List Cond := [Cond.methodLink RL 96 yX9_restore, Cond.instanceMethod yX9_restore, Cond.selects RX9 yX9_restore yX9_restore, Cond.code yX9_restore cX9_restore 1 (some .int), Cond.methodLink RL 97 yX8_undo, Cond.instanceMethod yX8_undo, Cond.selects RX8 yX8_undo yX8_undo, Cond.code yX8_undo cX8_undo 1 (some .int), Cond.methodLink RX8 239 yX1_takeLatest, Cond.instanceMethod yX1_takeLatest, Cond.selects RX1 yX1_takeLatest yX1_takeLatest, Cond.code yX1_takeLatest cX1_takeLatest 4 none, Cond.methodLink RX1 39 Lib.Math.max.name, Cond.methodLink RL 100 yX9_undo, Cond.instanceMethod yX9_undo, Cond.selects RX9 yX9_undo yX9_undo, Cond.code yX9_undo cX9_undo 2 (some .int), Cond.methodLink RL 101 yX8_type, Cond.instanceMethod yX8_type, Cond.selects RX8 yX8_type yX8_type, Cond.code yX8_type cX8_type 2 (some .int), Cond.methodLink RX8 244 yX6_append, Cond.instanceMethod yX6_append, Cond.selects RX6 yX6_append yX6_append]
def wsL_law_r32 : List Cond := [Cond.code yX6_append cX6_append 2 none, Cond.methodLink RX6 40 yX4_put, Cond.methodLink RL 104 yX9_type, Cond.instanceMethod yX9_type, Cond.selects RX9 yX9_type yX9_type, Cond.code yX9_type cX9_type 2 (some .int), Cond.methodLink RL 105 yX8_clearText, Cond.instanceMethod yX8_clearText, Cond.selects RX8 yX8_clearText yX8_clearText, Cond.code yX8_clearText cX8_clearText 2 (some .int), Cond.methodLink RL 108 yX9_clearText, Cond.instanceMethod yX9_clearText, Cond.selects RX9 yX9_clearText yX9_clearText, Cond.code yX9_clearText cX9_clearText 2 (some .int), Cond.methodLink RL 109 yX8_fault, Cond.instanceMethod yX8_fault, Cond.selects RX8 yX8_fault yX8_fault, Cond.code yX8_fault cX8_fault 2 (some .int), Cond.fieldLink RX8 254 "GuessingHall$Text" "faultPlace" "I", Cond.fieldLink RX8 257 "GuessingHall$Text" "faultReason" "I", Cond.methodLink RX8 247 yX6_scan, Cond.instanceMethod yX6_scan, Cond.selects RX6 yX6_scan yX6_scan, Cond.code yX6_scan cX6_scan 2 none]
def wsL_law_r33 : List Cond := [Cond.fieldLink RX6 44 "GuessingHall$Words" "size" "I", Cond.methodLink RX6 47 yX6_scanWord, Cond.instanceMethod yX6_scanWord, Cond.selects RX6 yX6_scanWord yX6_scanWord, Cond.code yX6_scanWord cX6_scanWord 2 none, Cond.methodLink RX6 54 yX6_characterAt, Cond.instanceMethod yX6_characterAt, Cond.selects RX6 yX6_characterAt yX6_characterAt, Cond.code yX6_characterAt cX6_characterAt 2 (some .int), Cond.methodLink RX6 94 yX4_at, Cond.methodLink RX6 58 yX6_isSmallLetter, Cond.static yX6_isSmallLetter, Cond.code yX6_isSmallLetter cX6_isSmallLetter 1 (some .boolean), Cond.methodLink RX6 62 yX6_fail, Cond.instanceMethod yX6_fail, Cond.selects RX6 yX6_fail yX6_fail, Cond.code yX6_fail cX6_fail 3 (some .boolean), Cond.methodLink RX6 66 yX6_scanLetters, Cond.instanceMethod yX6_scanLetters, Cond.selects RX6 yX6_scanLetters yX6_scanLetters, Cond.code yX6_scanLetters cX6_scanLetters 2 (some .boolean), Cond.fieldLink RX6 85 "GuessingHall$Words" "length" "LGuessingHall$Row;", Cond.methodLink RX6 81 yX7_putLetter, Cond.instanceMethod yX7_putLetter]
def wsL_law_r34 : List Cond := [Cond.selects RX7 yX7_putLetter yX7_putLetter, Cond.code yX7_putLetter cX7_putLetter 4 none, Cond.methodLink RX7 41 yX4_put, Cond.methodLink RX6 69 yX6_scanSign, Cond.instanceMethod yX6_scanSign, Cond.selects RX6 yX6_scanSign yX6_scanSign, Cond.code yX6_scanSign cX6_scanSign 2 (some .boolean), Cond.methodLink RX6 72 yX6_scanWeight, Cond.instanceMethod yX6_scanWeight, Cond.selects RX6 yX6_scanWeight yX6_scanWeight, Cond.code yX6_scanWeight cX6_scanWeight 4 (some .boolean), Cond.fieldLink RX6 91 "GuessingHall$Words" "weight" "LGuessingHall$Row;", Cond.methodLink RX6 75 yX6_addWord, Cond.instanceMethod yX6_addWord, Cond.selects RX6 yX6_addWord yX6_addWord, Cond.code yX6_addWord cX6_addWord 3 none, Cond.methodLink RX6 78 yX7_areSame, Cond.instanceMethod yX7_areSame, Cond.selects RX7 yX7_areSame yX7_areSame, Cond.code yX7_areSame cX7_areSame 5 (some .boolean), Cond.methodLink RX6 50 yX6_hasFault, Cond.instanceMethod yX6_hasFault, Cond.selects RX6 yX6_hasFault yX6_hasFault, Cond.code yX6_hasFault cX6_hasFault 1 (some .boolean)]
def wsL_law_r35 : List Cond := [Cond.methodLink RX8 250 yX6_hasFault, Cond.methodLink RL 112 yX9_fault, Cond.instanceMethod yX9_fault, Cond.selects RX9 yX9_fault yX9_fault, Cond.code yX9_fault cX9_fault 2 (some .int), Cond.fieldLink RX9 130 "GuessingHallModel" "spot" "I", Cond.fieldLink RX9 137 "GuessingHallModel" "reason" "I", Cond.methodLink RX9 161 yX9_isRight, Cond.instanceMethod yX9_isRight, Cond.selects RX9 yX9_isRight yX9_isRight, Cond.code yX9_isRight cX9_isRight 2 (some .boolean), Cond.fieldLink RX9 140 "GuessingHallModel" "words" "I", Cond.methodLink RX9 158 yX9_readsWord, Cond.instanceMethod yX9_readsWord, Cond.selects RX9 yX9_readsWord yX9_readsWord, Cond.code yX9_readsWord cX9_readsWord 2 (some .boolean), Cond.methodLink RX9 133 yX9_isAt, Cond.instanceMethod yX9_isAt, Cond.selects RX9 yX9_isAt yX9_isAt, Cond.code yX9_isAt cX9_isAt 3 (some .boolean), Cond.methodLink RX9 143 yX9_fails, Cond.instanceMethod yX9_fails, Cond.selects RX9 yX9_fails yX9_fails, Cond.code yX9_fails cX9_fails 2 (some .boolean)]
def wsL_law_r36 : List Cond := [Cond.methodLink RX9 146 yX9_readsLetters, Cond.instanceMethod yX9_readsLetters, Cond.selects RX9 yX9_readsLetters yX9_readsLetters, Cond.code yX9_readsLetters cX9_readsLetters 2 (some .boolean), Cond.methodLink RX9 149 yX9_sign, Cond.instanceMethod yX9_sign, Cond.selects RX9 yX9_sign yX9_sign, Cond.code yX9_sign cX9_sign 3 (some .boolean), Cond.methodLink RX9 152 yX9_readsWeight, Cond.instanceMethod yX9_readsWeight, Cond.selects RX9 yX9_readsWeight yX9_readsWeight, Cond.code yX9_readsWeight cX9_readsWeight 2 (some .boolean), Cond.methodLink RX9 155 yX9_isDouble, Cond.instanceMethod yX9_isDouble, Cond.selects RX9 yX9_isDouble yX9_isDouble, Cond.code yX9_isDouble cX9_isDouble 4 (some .boolean), Cond.methodLink RL 113 yX8_read, Cond.instanceMethod yX8_read, Cond.selects RX8 yX8_read yX8_read, Cond.code yX8_read cX8_read 1 (some .int), Cond.fieldLink RX8 260 "GuessingHall$Text" "list" "LGuessingHall$Words;", Cond.methodLink RX8 263 yX7_copyFrom, Cond.methodLink RL 116 yX9_read, Cond.instanceMethod yX9_read]
def wsL_law_r37 : List Cond := [Cond.selects RX9 yX9_read yX9_read, Cond.code yX9_read cX9_read 3 (some .int)]
def wsL_law : List Cond := (wsL_law_r1 ++ (wsL_law_r2 ++ (wsL_law_r3 ++ (wsL_law_r4 ++ (wsL_law_r5 ++ (wsL_law_r6 ++ (wsL_law_r7 ++ (wsL_law_r8 ++ (wsL_law_r9 ++ (wsL_law_r10 ++ (wsL_law_r11 ++ (wsL_law_r12 ++ (wsL_law_r13 ++ (wsL_law_r14 ++ (wsL_law_r15 ++ (wsL_law_r16 ++ (wsL_law_r17 ++ (wsL_law_r18 ++ (wsL_law_r19 ++ (wsL_law_r20 ++ (wsL_law_r21 ++ (wsL_law_r22 ++ (wsL_law_r23 ++ (wsL_law_r24 ++ (wsL_law_r25 ++ (wsL_law_r26 ++ (wsL_law_r27 ++ (wsL_law_r28 ++ (wsL_law_r29 ++ (wsL_law_r30 ++ (wsL_law_r31 ++ (wsL_law_r32 ++ (wsL_law_r33 ++ (wsL_law_r34 ++ (wsL_law_r35 ++ (wsL_law_r36 ++ wsL_law_r37)))))))))))))))))))))))))))))))))))) ++ wsX80 ++ wsX90 ++ wsX50 ++ wsX10 ++ wsX60 ++ wsX70 ++ wsX00 ++ wsX30 ++ wsX20 ++ wsX40 ++ ([] : List Cond)
theorem inlX0 : ∀ w ∈ wsX00, w ∈ wsL_law := fun _ h => List.mem_append_left _ (List.mem_append_left _ (List.mem_append_left _ (List.mem_append_left _ (List.mem_append_right _ h))))
theorem inlX1 : ∀ w ∈ wsX10, w ∈ wsL_law := fun _ h => List.mem_append_left _ (List.mem_append_left _ (List.mem_append_left _ (List.mem_append_left _ (List.mem_append_left _ (List.mem_append_left _ (List.mem_append_left _ (List.mem_append_right _ h)))))))
theorem inlX2 : ∀ w ∈ wsX20, w ∈ wsL_law := fun _ h => List.mem_append_left _ (List.mem_append_left _ (List.mem_append_right _ h))
theorem inlX3 : ∀ w ∈ wsX30, w ∈ wsL_law := fun _ h => List.mem_append_left _ (List.mem_append_left _ (List.mem_append_left _ (List.mem_append_right _ h)))
theorem inlX4 : ∀ w ∈ wsX40, w ∈ wsL_law := fun _ h => List.mem_append_left _ (List.mem_append_right _ h)
theorem inlX5 : ∀ w ∈ wsX50, w ∈ wsL_law := fun _ h => List.mem_append_left _ (List.mem_append_left _ (List.mem_append_left _ (List.mem_append_left _ (List.mem_append_left _ (List.mem_append_left _ (List.mem_append_left _ (List.mem_append_left _ (List.mem_append_right _ h))))))))
theorem inlX6 : ∀ w ∈ wsX60, w ∈ wsL_law := fun _ h => List.mem_append_left _ (List.mem_append_left _ (List.mem_append_left _ (List.mem_append_left _ (List.mem_append_left _ (List.mem_append_left _ (List.mem_append_right _ h))))))
theorem inlX7 : ∀ w ∈ wsX70, w ∈ wsL_law := fun _ h => List.mem_append_left _ (List.mem_append_left _ (List.mem_append_left _ (List.mem_append_left _ (List.mem_append_left _ (List.mem_append_right _ h)))))
theorem inlX8 : ∀ w ∈ wsX80, w ∈ wsL_law := fun _ h => List.mem_append_left _ (List.mem_append_left _ (List.mem_append_left _ (List.mem_append_left _ (List.mem_append_left _ (List.mem_append_left _ (List.mem_append_left _ (List.mem_append_left _ (List.mem_append_left _ (List.mem_append_left _ (List.mem_append_right _ h))))))))))
theorem inlX9 : ∀ w ∈ wsX90, w ∈ wsL_law := fun _ h => List.mem_append_left _ (List.mem_append_left _ (List.mem_append_left _ (List.mem_append_left _ (List.mem_append_left _ (List.mem_append_left _ (List.mem_append_left _ (List.mem_append_left _ (List.mem_append_left _ (List.mem_append_right _ h)))))))))
abbrev vwCl : List vw_C := [(RX0, TX0, 7), (RX1, TX1, 3), (RX2, TX2, 5), (RX3, TX3, 7), (RX4, TX4, 1), (RX5, TX5, 9), (RX6, TX6, 6), (RX7, TX7, 5), (RX8, TX8, 5), (RX9, TX9, 11)]
end
section
theorem gh_good : wsL_law.all goodWord = true := by decide +kernel
theorem lr1 : ∀ w ∈ wsL_law_r1, w ∈ wsL_law := fun _ h => List.mem_append_left _ (List.mem_append_left _ (List.mem_append_left _ (List.mem_append_left _ (List.mem_append_left _ (List.mem_append_left _ (List.mem_append_left _ (List.mem_append_left _ (List.mem_append_left _ (List.mem_append_left _ (List.mem_append_left _ (List.mem_append_left _ h)))))))))))
theorem uw0 : Cond.classLink RL 7 RX8 ∈ wsL_law := lr1 _ (List.mem_of_getElem? (i := 0) rfl)
theorem uw1 : Cond.instantiable RX8 5 ∈ wsL_law := lr1 _ (List.mem_of_getElem? (i := 1) rfl)
theorem uw2 : Cond.initialized RX8 ∈ wsL_law := lr1 _ (List.mem_of_getElem? (i := 2) rfl)
theorem uw3 : Cond.classLink RL 10 RX9 ∈ wsL_law := lr1 _ (List.mem_of_getElem? (i := 3) rfl)
theorem uw4 : Cond.instantiable RX9 11 ∈ wsL_law := lr1 _ (List.mem_of_getElem? (i := 4) rfl)
theorem uw5 : Cond.initialized RX9 ∈ wsL_law := lr1 _ (List.mem_of_getElem? (i := 5) rfl)
theorem uw6 : Cond.methodLink RL 9 yX8_init ∈ wsL_law := lr1 _ (List.mem_of_getElem? (i := 6) rfl)
theorem uw7 : Cond.instanceMethod yX8_init ∈ wsL_law := lr1 _ (List.mem_of_getElem? (i := 7) rfl)
theorem uw8 : Cond.code yX8_init cX8_init 1 none ∈ wsL_law := lr1 _ (List.mem_of_getElem? (i := 8) rfl)
theorem uw9 : Cond.methodLink RX8 1 objectInit ∈ wsL_law := lr1 _ (List.mem_of_getElem? (i := 9) rfl)
theorem uw10 : Cond.instanceMethod objectInit ∈ wsL_law := lr1 _ (List.mem_of_getElem? (i := 10) rfl)
theorem uw11 : Cond.code objectInit ⟨#[0xb1]⟩ 1 none ∈ wsL_law := lr1 _ (List.mem_of_getElem? (i := 11) rfl)
theorem uw12 : Cond.classLink RX8 7 RX5 ∈ wsL_law := lr1 _ (List.mem_of_getElem? (i := 12) rfl)
theorem uw13 : Cond.instantiable RX5 9 ∈ wsL_law := lr1 _ (List.mem_of_getElem? (i := 13) rfl)
theorem uw14 : Cond.initialized RX5 ∈ wsL_law := lr1 _ (List.mem_of_getElem? (i := 14) rfl)
theorem uw15 : Cond.fieldLink RX8 10 "GuessingHall" "now" "LGuessingHall$State;" ∈ wsL_law := lr1 _ (List.mem_of_getElem? (i := 15) rfl)
theorem uw16 : Cond.fieldLink RX8 16 "GuessingHall" "snapshot" "LGuessingHall$State;" ∈ wsL_law := lr1 _ (List.mem_of_getElem? (i := 16) rfl)
theorem uw17 : Cond.classLink RX8 19 RX1 ∈ wsL_law := lr1 _ (List.mem_of_getElem? (i := 17) rfl)
theorem uw18 : Cond.instantiable RX1 3 ∈ wsL_law := lr1 _ (List.mem_of_getElem? (i := 18) rfl)
theorem uw19 : Cond.initialized RX1 ∈ wsL_law := lr1 _ (List.mem_of_getElem? (i := 19) rfl)
theorem uw20 : Cond.fieldLink RX8 22 "GuessingHall" "history" "LGuessingHall$History;" ∈ wsL_law := lr1 _ (List.mem_of_getElem? (i := 20) rfl)
theorem uw21 : Cond.classLink RX8 26 RX6 ∈ wsL_law := lr1 _ (List.mem_of_getElem? (i := 21) rfl)
theorem uw22 : Cond.instantiable RX6 6 ∈ wsL_law := lr1 _ (List.mem_of_getElem? (i := 22) rfl)
theorem uw23 : Cond.initialized RX6 ∈ wsL_law := lr1 _ (List.mem_of_getElem? (i := 23) rfl)
theorem lr2 : ∀ w ∈ wsL_law_r2, w ∈ wsL_law := fun _ h => List.mem_append_left _ (List.mem_append_left _ (List.mem_append_left _ (List.mem_append_left _ (List.mem_append_left _ (List.mem_append_left _ (List.mem_append_left _ (List.mem_append_left _ (List.mem_append_left _ (List.mem_append_left _ (List.mem_append_left _ (List.mem_append_right _ (List.mem_append_left _ h))))))))))))
theorem uw24 : Cond.fieldLink RX8 29 "GuessingHall" "text" "LGuessingHall$Text;" ∈ wsL_law := lr2 _ (List.mem_of_getElem? (i := 0) rfl)
theorem uw25 : Cond.fieldLink RX8 33 "GuessingHall" "hasSnapshot" "Z" ∈ wsL_law := lr2 _ (List.mem_of_getElem? (i := 1) rfl)
theorem uw26 : Cond.instanceMethod yX5_init ∈ wsL_law := lr2 _ (List.mem_of_getElem? (i := 2) rfl)
theorem uw27 : Cond.code yX5_init cX5_init 1 none ∈ wsL_law := lr2 _ (List.mem_of_getElem? (i := 3) rfl)
theorem uw28 : Cond.methodLink RX5 3 objectInit ∈ wsL_law := lr2 _ (List.mem_of_getElem? (i := 4) rfl)
theorem uw29 : Cond.classLink RX5 9 RX7 ∈ wsL_law := lr2 _ (List.mem_of_getElem? (i := 5) rfl)
theorem uw30 : Cond.instantiable RX7 5 ∈ wsL_law := lr2 _ (List.mem_of_getElem? (i := 6) rfl)
theorem uw31 : Cond.initialized RX7 ∈ wsL_law := lr2 _ (List.mem_of_getElem? (i := 7) rfl)
theorem uw32 : Cond.fieldLink RX5 12 "GuessingHall$State" "words" "LGuessingHall$Words;" ∈ wsL_law := lr2 _ (List.mem_of_getElem? (i := 8) rfl)
theorem uw33 : Cond.classLink RX5 18 RX0 ∈ wsL_law := lr2 _ (List.mem_of_getElem? (i := 9) rfl)
theorem uw34 : Cond.instantiable RX0 7 ∈ wsL_law := lr2 _ (List.mem_of_getElem? (i := 10) rfl)
theorem uw35 : Cond.initialized RX0 ∈ wsL_law := lr2 _ (List.mem_of_getElem? (i := 11) rfl)
theorem uw36 : Cond.fieldLink RX5 21 "GuessingHall$State" "bench" "LGuessingHall$Bench;" ∈ wsL_law := lr2 _ (List.mem_of_getElem? (i := 12) rfl)
theorem uw37 : Cond.classLink RX5 25 RX3 ∈ wsL_law := lr2 _ (List.mem_of_getElem? (i := 13) rfl)
theorem uw38 : Cond.instantiable RX3 7 ∈ wsL_law := lr2 _ (List.mem_of_getElem? (i := 14) rfl)
theorem uw39 : Cond.initialized RX3 ∈ wsL_law := lr2 _ (List.mem_of_getElem? (i := 15) rfl)
theorem uw40 : Cond.fieldLink RX5 28 "GuessingHall$State" "round" "LGuessingHall$Round;" ∈ wsL_law := lr2 _ (List.mem_of_getElem? (i := 16) rfl)
theorem uw41 : Cond.classLink RX5 32 RX2 ∈ wsL_law := lr2 _ (List.mem_of_getElem? (i := 17) rfl)
theorem uw42 : Cond.instantiable RX2 5 ∈ wsL_law := lr2 _ (List.mem_of_getElem? (i := 18) rfl)
theorem uw43 : Cond.initialized RX2 ∈ wsL_law := lr2 _ (List.mem_of_getElem? (i := 19) rfl)
theorem uw44 : Cond.fieldLink RX5 35 "GuessingHall$State" "past" "LGuessingHall$PastRounds;" ∈ wsL_law := lr2 _ (List.mem_of_getElem? (i := 20) rfl)
theorem uw45 : Cond.fieldLink RX5 39 "GuessingHall$State" "rounds" "I" ∈ wsL_law := lr2 _ (List.mem_of_getElem? (i := 21) rfl)
theorem uw46 : Cond.fieldLink RX5 43 "GuessingHall$State" "starter" "I" ∈ wsL_law := lr2 _ (List.mem_of_getElem? (i := 22) rfl)
theorem uw47 : Cond.fieldLink RX5 46 "GuessingHall$State" "house" "I" ∈ wsL_law := lr2 _ (List.mem_of_getElem? (i := 23) rfl)
theorem lr3 : ∀ w ∈ wsL_law_r3, w ∈ wsL_law := fun _ h => List.mem_append_left _ (List.mem_append_left _ (List.mem_append_left _ (List.mem_append_left _ (List.mem_append_left _ (List.mem_append_left _ (List.mem_append_left _ (List.mem_append_left _ (List.mem_append_left _ (List.mem_append_left _ (List.mem_append_left _ (List.mem_append_right _ (List.mem_append_right _ (List.mem_append_left _ h)))))))))))))
theorem uw48 : Cond.fieldLink RX5 49 "GuessingHall$State" "drawNumber" "I" ∈ wsL_law := lr3 _ (List.mem_of_getElem? (i := 0) rfl)
theorem uw49 : Cond.fieldLink RX5 52 "GuessingHall$State" "missLimit" "I" ∈ wsL_law := lr3 _ (List.mem_of_getElem? (i := 1) rfl)
theorem uw50 : Cond.instanceMethod yX7_init ∈ wsL_law := lr3 _ (List.mem_of_getElem? (i := 2) rfl)
theorem uw51 : Cond.code yX7_init cX7_init 1 none ∈ wsL_law := lr3 _ (List.mem_of_getElem? (i := 3) rfl)
theorem uw52 : Cond.methodLink RX7 3 objectInit ∈ wsL_law := lr3 _ (List.mem_of_getElem? (i := 4) rfl)
theorem uw53 : Cond.classLink RX7 9 RX4 ∈ wsL_law := lr3 _ (List.mem_of_getElem? (i := 5) rfl)
theorem uw54 : Cond.instantiable RX4 1 ∈ wsL_law := lr3 _ (List.mem_of_getElem? (i := 6) rfl)
theorem uw55 : Cond.initialized RX4 ∈ wsL_law := lr3 _ (List.mem_of_getElem? (i := 7) rfl)
theorem uw56 : Cond.fieldLink RX7 14 "GuessingHall$Words" "length" "LGuessingHall$Row;" ∈ wsL_law := lr3 _ (List.mem_of_getElem? (i := 8) rfl)
theorem uw57 : Cond.fieldLink RX7 20 "GuessingHall$Words" "weight" "LGuessingHall$Row;" ∈ wsL_law := lr3 _ (List.mem_of_getElem? (i := 9) rfl)
theorem uw58 : Cond.fieldLink RX7 23 "GuessingHall$Words" "drawn" "LGuessingHall$Row;" ∈ wsL_law := lr3 _ (List.mem_of_getElem? (i := 10) rfl)
theorem uw59 : Cond.fieldLink RX7 26 "GuessingHall$Words" "letters" "LGuessingHall$Row;" ∈ wsL_law := lr3 _ (List.mem_of_getElem? (i := 11) rfl)
theorem uw60 : Cond.methodLink RX7 11 yX4_init ∈ wsL_law := lr3 _ (List.mem_of_getElem? (i := 12) rfl)
theorem uw61 : Cond.instanceMethod yX4_init ∈ wsL_law := lr3 _ (List.mem_of_getElem? (i := 13) rfl)
theorem uw62 : Cond.code yX4_init cX4_init 2 none ∈ wsL_law := lr3 _ (List.mem_of_getElem? (i := 14) rfl)
theorem uw63 : Cond.methodLink RX4 1 objectInit ∈ wsL_law := lr3 _ (List.mem_of_getElem? (i := 15) rfl)
theorem uw64 : Cond.methodLink RX4 7 Lib.Math.max.name ∈ wsL_law := lr3 _ (List.mem_of_getElem? (i := 16) rfl)
theorem uw65 : Cond.static Lib.Math.max.name ∈ wsL_law := lr3 _ (List.mem_of_getElem? (i := 17) rfl)
theorem uw66 : Cond.initialized "java/lang/Math" ∈ wsL_law := lr3 _ (List.mem_of_getElem? (i := 18) rfl)
theorem uw67 : Cond.code Lib.Math.max.name Lib.Math.max.code 2 (some .int) ∈ wsL_law := lr3 _ (List.mem_of_getElem? (i := 19) rfl)
theorem uw68 : Cond.arrayClass .int ∈ wsL_law := lr3 _ (List.mem_of_getElem? (i := 20) rfl)
theorem uw69 : Cond.fieldLink RX4 13 "GuessingHall$Row" "cells" "[I" ∈ wsL_law := lr3 _ (List.mem_of_getElem? (i := 21) rfl)
theorem uw70 : Cond.instanceMethod yX0_init ∈ wsL_law := lr3 _ (List.mem_of_getElem? (i := 22) rfl)
theorem uw71 : Cond.code yX0_init cX0_init 1 none ∈ wsL_law := lr3 _ (List.mem_of_getElem? (i := 23) rfl)
theorem lr4 : ∀ w ∈ wsL_law_r4, w ∈ wsL_law := fun _ h => List.mem_append_left _ (List.mem_append_left _ (List.mem_append_left _ (List.mem_append_left _ (List.mem_append_left _ (List.mem_append_left _ (List.mem_append_left _ (List.mem_append_left _ (List.mem_append_left _ (List.mem_append_left _ (List.mem_append_left _ (List.mem_append_right _ (List.mem_append_right _ (List.mem_append_right _ (List.mem_append_left _ h))))))))))))))
theorem uw72 : Cond.methodLink RX0 3 objectInit ∈ wsL_law := lr4 _ (List.mem_of_getElem? (i := 0) rfl)
theorem uw73 : Cond.classLink RX0 9 RX4 ∈ wsL_law := lr4 _ (List.mem_of_getElem? (i := 1) rfl)
theorem uw74 : Cond.fieldLink RX0 14 "GuessingHall$Bench" "purse" "LGuessingHall$Row;" ∈ wsL_law := lr4 _ (List.mem_of_getElem? (i := 2) rfl)
theorem uw75 : Cond.fieldLink RX0 20 "GuessingHall$Bench" "won" "LGuessingHall$Row;" ∈ wsL_law := lr4 _ (List.mem_of_getElem? (i := 3) rfl)
theorem uw76 : Cond.fieldLink RX0 23 "GuessingHall$Bench" "hits" "LGuessingHall$Row;" ∈ wsL_law := lr4 _ (List.mem_of_getElem? (i := 4) rfl)
theorem uw77 : Cond.fieldLink RX0 26 "GuessingHall$Bench" "misses" "LGuessingHall$Row;" ∈ wsL_law := lr4 _ (List.mem_of_getElem? (i := 5) rfl)
theorem uw78 : Cond.fieldLink RX0 29 "GuessingHall$Bench" "hint" "LGuessingHall$Row;" ∈ wsL_law := lr4 _ (List.mem_of_getElem? (i := 6) rfl)
theorem uw79 : Cond.fieldLink RX0 32 "GuessingHall$Bench" "whisperer" "LGuessingHall$Row;" ∈ wsL_law := lr4 _ (List.mem_of_getElem? (i := 7) rfl)
theorem uw80 : Cond.methodLink RX0 11 yX4_init ∈ wsL_law := lr4 _ (List.mem_of_getElem? (i := 8) rfl)
theorem uw81 : Cond.instanceMethod yX3_init ∈ wsL_law := lr4 _ (List.mem_of_getElem? (i := 9) rfl)
theorem uw82 : Cond.code yX3_init cX3_init 1 none ∈ wsL_law := lr4 _ (List.mem_of_getElem? (i := 10) rfl)
theorem uw83 : Cond.methodLink RX3 1 objectInit ∈ wsL_law := lr4 _ (List.mem_of_getElem? (i := 11) rfl)
theorem uw84 : Cond.instanceMethod yX2_init ∈ wsL_law := lr4 _ (List.mem_of_getElem? (i := 12) rfl)
theorem uw85 : Cond.code yX2_init cX2_init 1 none ∈ wsL_law := lr4 _ (List.mem_of_getElem? (i := 13) rfl)
theorem uw86 : Cond.methodLink RX2 3 objectInit ∈ wsL_law := lr4 _ (List.mem_of_getElem? (i := 14) rfl)
theorem uw87 : Cond.classLink RX2 9 RX4 ∈ wsL_law := lr4 _ (List.mem_of_getElem? (i := 15) rfl)
theorem uw88 : Cond.fieldLink RX2 14 "GuessingHall$PastRounds" "word" "LGuessingHall$Row;" ∈ wsL_law := lr4 _ (List.mem_of_getElem? (i := 16) rfl)
theorem uw89 : Cond.fieldLink RX2 20 "GuessingHall$PastRounds" "winner" "LGuessingHall$Row;" ∈ wsL_law := lr4 _ (List.mem_of_getElem? (i := 17) rfl)
theorem uw90 : Cond.fieldLink RX2 23 "GuessingHall$PastRounds" "misses" "LGuessingHall$Row;" ∈ wsL_law := lr4 _ (List.mem_of_getElem? (i := 18) rfl)
theorem uw91 : Cond.fieldLink RX2 26 "GuessingHall$PastRounds" "stake" "LGuessingHall$Row;" ∈ wsL_law := lr4 _ (List.mem_of_getElem? (i := 19) rfl)
theorem uw92 : Cond.methodLink RX2 11 yX4_init ∈ wsL_law := lr4 _ (List.mem_of_getElem? (i := 20) rfl)
theorem uw93 : Cond.methodLink RX8 21 yX1_init ∈ wsL_law := lr4 _ (List.mem_of_getElem? (i := 21) rfl)
theorem uw94 : Cond.instanceMethod yX1_init ∈ wsL_law := lr4 _ (List.mem_of_getElem? (i := 22) rfl)
theorem uw95 : Cond.code yX1_init cX1_init 2 none ∈ wsL_law := lr4 _ (List.mem_of_getElem? (i := 23) rfl)
theorem lr5 : ∀ w ∈ wsL_law_r5, w ∈ wsL_law := fun _ h => List.mem_append_left _ (List.mem_append_left _ (List.mem_append_left _ (List.mem_append_left _ (List.mem_append_left _ (List.mem_append_left _ (List.mem_append_left _ (List.mem_append_left _ (List.mem_append_left _ (List.mem_append_left _ (List.mem_append_left _ (List.mem_append_right _ (List.mem_append_right _ (List.mem_append_right _ (List.mem_append_right _ (List.mem_append_left _ h)))))))))))))))
theorem uw96 : Cond.methodLink RX1 3 objectInit ∈ wsL_law := lr5 _ (List.mem_of_getElem? (i := 0) rfl)
theorem uw97 : Cond.fieldLink RX1 9 "GuessingHall$History" "size" "I" ∈ wsL_law := lr5 _ (List.mem_of_getElem? (i := 1) rfl)
theorem uw98 : Cond.fieldLink RX1 15 "GuessingHall$History" "free" "I" ∈ wsL_law := lr5 _ (List.mem_of_getElem? (i := 2) rfl)
theorem uw99 : Cond.classLink RX1 18 RX5 ∈ wsL_law := lr5 _ (List.mem_of_getElem? (i := 3) rfl)
theorem uw100 : Cond.fieldLink RX1 20 "GuessingHall$History" "ring" "[LGuessingHall$State;" ∈ wsL_law := lr5 _ (List.mem_of_getElem? (i := 4) rfl)
theorem uw101 : Cond.instanceMethod yX6_init ∈ wsL_law := lr5 _ (List.mem_of_getElem? (i := 5) rfl)
theorem uw102 : Cond.code yX6_init cX6_init 1 none ∈ wsL_law := lr5 _ (List.mem_of_getElem? (i := 6) rfl)
theorem uw103 : Cond.methodLink RX6 3 objectInit ∈ wsL_law := lr5 _ (List.mem_of_getElem? (i := 7) rfl)
theorem uw104 : Cond.fieldLink RX6 9 "GuessingHall$Text" "length" "I" ∈ wsL_law := lr5 _ (List.mem_of_getElem? (i := 8) rfl)
theorem uw105 : Cond.fieldLink RX6 15 "GuessingHall$Text" "faultPlace" "I" ∈ wsL_law := lr5 _ (List.mem_of_getElem? (i := 9) rfl)
theorem uw106 : Cond.fieldLink RX6 18 "GuessingHall$Text" "faultReason" "I" ∈ wsL_law := lr5 _ (List.mem_of_getElem? (i := 10) rfl)
theorem uw107 : Cond.classLink RX6 21 RX7 ∈ wsL_law := lr5 _ (List.mem_of_getElem? (i := 11) rfl)
theorem uw108 : Cond.fieldLink RX6 24 "GuessingHall$Text" "list" "LGuessingHall$Words;" ∈ wsL_law := lr5 _ (List.mem_of_getElem? (i := 12) rfl)
theorem uw109 : Cond.classLink RX6 28 RX4 ∈ wsL_law := lr5 _ (List.mem_of_getElem? (i := 13) rfl)
theorem uw110 : Cond.fieldLink RX6 33 "GuessingHall$Text" "characters" "LGuessingHall$Row;" ∈ wsL_law := lr5 _ (List.mem_of_getElem? (i := 14) rfl)
theorem uw111 : Cond.fieldLink RX6 37 "GuessingHall$Text" "position" "I" ∈ wsL_law := lr5 _ (List.mem_of_getElem? (i := 15) rfl)
theorem uw112 : Cond.methodLink RX6 30 yX4_init ∈ wsL_law := lr5 _ (List.mem_of_getElem? (i := 16) rfl)
theorem uw113 : Cond.methodLink RL 12 yX9_init ∈ wsL_law := lr5 _ (List.mem_of_getElem? (i := 17) rfl)
theorem uw114 : Cond.instanceMethod yX9_init ∈ wsL_law := lr5 _ (List.mem_of_getElem? (i := 18) rfl)
theorem uw115 : Cond.code yX9_init cX9_init 1 none ∈ wsL_law := lr5 _ (List.mem_of_getElem? (i := 19) rfl)
theorem uw116 : Cond.methodLink RX9 1 objectInit ∈ wsL_law := lr5 _ (List.mem_of_getElem? (i := 20) rfl)
theorem uw117 : Cond.fieldLink RX9 7 "GuessingHallModel" "s" "[I" ∈ wsL_law := lr5 _ (List.mem_of_getElem? (i := 21) rfl)
theorem uw118 : Cond.fieldLink RX9 13 "GuessingHallModel" "past" "[I" ∈ wsL_law := lr5 _ (List.mem_of_getElem? (i := 22) rfl)
theorem uw119 : Cond.fieldLink RX9 16 "GuessingHallModel" "kept" "[I" ∈ wsL_law := lr5 _ (List.mem_of_getElem? (i := 23) rfl)
theorem lr6 : ∀ w ∈ wsL_law_r6, w ∈ wsL_law := fun _ h => List.mem_append_left _ (List.mem_append_left _ (List.mem_append_left _ (List.mem_append_left _ (List.mem_append_left _ (List.mem_append_left _ (List.mem_append_left _ (List.mem_append_left _ (List.mem_append_left _ (List.mem_append_left _ (List.mem_append_left _ (List.mem_append_right _ (List.mem_append_right _ (List.mem_append_right _ (List.mem_append_right _ (List.mem_append_right _ (List.mem_append_left _ h))))))))))))))))
theorem uw120 : Cond.fieldLink RX9 19 "GuessingHallModel" "text" "[I" ∈ wsL_law := lr6 _ (List.mem_of_getElem? (i := 0) rfl)
theorem uw121 : Cond.fieldLink RX9 22 "GuessingHallModel" "list" "[I" ∈ wsL_law := lr6 _ (List.mem_of_getElem? (i := 1) rfl)
theorem uw122 : Cond.methodLink RL 13 yX8_word ∈ wsL_law := lr6 _ (List.mem_of_getElem? (i := 2) rfl)
theorem uw123 : Cond.instanceMethod yX8_word ∈ wsL_law := lr6 _ (List.mem_of_getElem? (i := 3) rfl)
theorem uw124 : Cond.selects RX8 yX8_word yX8_word ∈ wsL_law := lr6 _ (List.mem_of_getElem? (i := 4) rfl)
theorem uw125 : Cond.code yX8_word cX8_word 4 (some .int) ∈ wsL_law := lr6 _ (List.mem_of_getElem? (i := 5) rfl)
theorem uw126 : Cond.fieldLink RX8 37 "GuessingHall$State" "words" "LGuessingHall$Words;" ∈ wsL_law := lr6 _ (List.mem_of_getElem? (i := 6) rfl)
theorem uw127 : Cond.fieldLink RX8 51 "GuessingHall$State" "round" "LGuessingHall$Round;" ∈ wsL_law := lr6 _ (List.mem_of_getElem? (i := 7) rfl)
theorem uw128 : Cond.fieldLink RX8 55 "GuessingHall$Round" "running" "Z" ∈ wsL_law := lr6 _ (List.mem_of_getElem? (i := 8) rfl)
theorem uw129 : Cond.fieldLink RX8 64 "GuessingHall$Words" "weight" "LGuessingHall$Row;" ∈ wsL_law := lr6 _ (List.mem_of_getElem? (i := 9) rfl)
theorem uw130 : Cond.methodLink RX8 41 yX7_has ∈ wsL_law := lr6 _ (List.mem_of_getElem? (i := 10) rfl)
theorem uw131 : Cond.instanceMethod yX7_has ∈ wsL_law := lr6 _ (List.mem_of_getElem? (i := 11) rfl)
theorem uw132 : Cond.selects RX7 yX7_has yX7_has ∈ wsL_law := lr6 _ (List.mem_of_getElem? (i := 12) rfl)
theorem uw133 : Cond.code yX7_has cX7_has 2 (some .boolean) ∈ wsL_law := lr6 _ (List.mem_of_getElem? (i := 13) rfl)
theorem uw134 : Cond.fieldLink RX7 29 "GuessingHall$Words" "size" "I" ∈ wsL_law := lr6 _ (List.mem_of_getElem? (i := 14) rfl)
theorem uw135 : Cond.methodLink RX8 47 yX8_isBetween ∈ wsL_law := lr6 _ (List.mem_of_getElem? (i := 15) rfl)
theorem uw136 : Cond.static yX8_isBetween ∈ wsL_law := lr6 _ (List.mem_of_getElem? (i := 16) rfl)
theorem uw137 : Cond.code yX8_isBetween cX8_isBetween 3 (some .boolean) ∈ wsL_law := lr6 _ (List.mem_of_getElem? (i := 17) rfl)
theorem uw138 : Cond.methodLink RX8 60 yX1_record ∈ wsL_law := lr6 _ (List.mem_of_getElem? (i := 18) rfl)
theorem uw139 : Cond.instanceMethod yX1_record ∈ wsL_law := lr6 _ (List.mem_of_getElem? (i := 19) rfl)
theorem uw140 : Cond.selects RX1 yX1_record yX1_record ∈ wsL_law := lr6 _ (List.mem_of_getElem? (i := 20) rfl)
theorem uw141 : Cond.code yX1_record cX1_record 3 none ∈ wsL_law := lr6 _ (List.mem_of_getElem? (i := 21) rfl)
theorem uw142 : Cond.methodLink RX1 33 Lib.Math.min.name ∈ wsL_law := lr6 _ (List.mem_of_getElem? (i := 22) rfl)
theorem uw143 : Cond.static Lib.Math.min.name ∈ wsL_law := lr6 _ (List.mem_of_getElem? (i := 23) rfl)
theorem lr7 : ∀ w ∈ wsL_law_r7, w ∈ wsL_law := fun _ h => List.mem_append_left _ (List.mem_append_left _ (List.mem_append_left _ (List.mem_append_left _ (List.mem_append_left _ (List.mem_append_left _ (List.mem_append_left _ (List.mem_append_left _ (List.mem_append_left _ (List.mem_append_left _ (List.mem_append_left _ (List.mem_append_right _ (List.mem_append_right _ (List.mem_append_right _ (List.mem_append_right _ (List.mem_append_right _ (List.mem_append_right _ (List.mem_append_left _ h)))))))))))))))))
theorem uw144 : Cond.code Lib.Math.min.name Lib.Math.min.code 2 (some .int) ∈ wsL_law := lr7 _ (List.mem_of_getElem? (i := 0) rfl)
theorem uw145 : Cond.methodLink RX1 25 yX1_slotAt ∈ wsL_law := lr7 _ (List.mem_of_getElem? (i := 1) rfl)
theorem uw146 : Cond.instanceMethod yX1_slotAt ∈ wsL_law := lr7 _ (List.mem_of_getElem? (i := 2) rfl)
theorem uw147 : Cond.selects RX1 yX1_slotAt yX1_slotAt ∈ wsL_law := lr7 _ (List.mem_of_getElem? (i := 3) rfl)
theorem uw148 : Cond.code yX1_slotAt cX1_slotAt 2 (some (.object "GuessingHall$State")) ∈ wsL_law := lr7 _ (List.mem_of_getElem? (i := 4) rfl)
theorem uw149 : Cond.methodLink RX1 29 yX5_copyFrom ∈ wsL_law := lr7 _ (List.mem_of_getElem? (i := 5) rfl)
theorem uw150 : Cond.instanceMethod yX5_copyFrom ∈ wsL_law := lr7 _ (List.mem_of_getElem? (i := 6) rfl)
theorem uw151 : Cond.selects RX5 yX5_copyFrom yX5_copyFrom ∈ wsL_law := lr7 _ (List.mem_of_getElem? (i := 7) rfl)
theorem uw152 : Cond.code yX5_copyFrom cX5_copyFrom 2 none ∈ wsL_law := lr7 _ (List.mem_of_getElem? (i := 8) rfl)
theorem uw153 : Cond.methodLink RX5 55 yX7_copyFrom ∈ wsL_law := lr7 _ (List.mem_of_getElem? (i := 9) rfl)
theorem uw154 : Cond.instanceMethod yX7_copyFrom ∈ wsL_law := lr7 _ (List.mem_of_getElem? (i := 10) rfl)
theorem uw155 : Cond.selects RX7 yX7_copyFrom yX7_copyFrom ∈ wsL_law := lr7 _ (List.mem_of_getElem? (i := 11) rfl)
theorem uw156 : Cond.code yX7_copyFrom cX7_copyFrom 2 none ∈ wsL_law := lr7 _ (List.mem_of_getElem? (i := 12) rfl)
theorem uw157 : Cond.methodLink RX7 33 yX4_copyFrom ∈ wsL_law := lr7 _ (List.mem_of_getElem? (i := 13) rfl)
theorem uw158 : Cond.instanceMethod yX4_copyFrom ∈ wsL_law := lr7 _ (List.mem_of_getElem? (i := 14) rfl)
theorem uw159 : Cond.selects RX4 yX4_copyFrom yX4_copyFrom ∈ wsL_law := lr7 _ (List.mem_of_getElem? (i := 15) rfl)
theorem uw160 : Cond.code yX4_copyFrom cX4_copyFrom 2 none ∈ wsL_law := lr7 _ (List.mem_of_getElem? (i := 16) rfl)
theorem uw161 : Cond.methodLink RX4 27 Lib.Math.min.name ∈ wsL_law := lr7 _ (List.mem_of_getElem? (i := 17) rfl)
theorem uw162 : Cond.methodLink RX4 30 arraycopyName ∈ wsL_law := lr7 _ (List.mem_of_getElem? (i := 18) rfl)
theorem uw163 : Cond.native arraycopyName ∈ wsL_law := lr7 _ (List.mem_of_getElem? (i := 19) rfl)
theorem uw164 : Cond.static arraycopyName ∈ wsL_law := lr7 _ (List.mem_of_getElem? (i := 20) rfl)
theorem uw165 : Cond.initialized "java/lang/System" ∈ wsL_law := lr7 _ (List.mem_of_getElem? (i := 21) rfl)
theorem uw166 : Cond.methodLink RX5 59 yX0_copyFrom ∈ wsL_law := lr7 _ (List.mem_of_getElem? (i := 22) rfl)
theorem uw167 : Cond.instanceMethod yX0_copyFrom ∈ wsL_law := lr7 _ (List.mem_of_getElem? (i := 23) rfl)
theorem lr8 : ∀ w ∈ wsL_law_r8, w ∈ wsL_law := fun _ h => List.mem_append_left _ (List.mem_append_left _ (List.mem_append_left _ (List.mem_append_left _ (List.mem_append_left _ (List.mem_append_left _ (List.mem_append_left _ (List.mem_append_left _ (List.mem_append_left _ (List.mem_append_left _ (List.mem_append_left _ (List.mem_append_right _ (List.mem_append_right _ (List.mem_append_right _ (List.mem_append_right _ (List.mem_append_right _ (List.mem_append_right _ (List.mem_append_right _ (List.mem_append_left _ h))))))))))))))))))
theorem uw168 : Cond.selects RX0 yX0_copyFrom yX0_copyFrom ∈ wsL_law := lr8 _ (List.mem_of_getElem? (i := 0) rfl)
theorem uw169 : Cond.code yX0_copyFrom cX0_copyFrom 2 none ∈ wsL_law := lr8 _ (List.mem_of_getElem? (i := 1) rfl)
theorem uw170 : Cond.fieldLink RX0 35 "GuessingHall$Bench" "size" "I" ∈ wsL_law := lr8 _ (List.mem_of_getElem? (i := 2) rfl)
theorem uw171 : Cond.methodLink RX0 39 yX4_copyFrom ∈ wsL_law := lr8 _ (List.mem_of_getElem? (i := 3) rfl)
theorem uw172 : Cond.methodLink RX5 62 yX3_copyFrom ∈ wsL_law := lr8 _ (List.mem_of_getElem? (i := 4) rfl)
theorem uw173 : Cond.instanceMethod yX3_copyFrom ∈ wsL_law := lr8 _ (List.mem_of_getElem? (i := 5) rfl)
theorem uw174 : Cond.selects RX3 yX3_copyFrom yX3_copyFrom ∈ wsL_law := lr8 _ (List.mem_of_getElem? (i := 6) rfl)
theorem uw175 : Cond.code yX3_copyFrom cX3_copyFrom 2 none ∈ wsL_law := lr8 _ (List.mem_of_getElem? (i := 7) rfl)
theorem uw176 : Cond.fieldLink RX3 7 "GuessingHall$Round" "running" "Z" ∈ wsL_law := lr8 _ (List.mem_of_getElem? (i := 8) rfl)
theorem uw177 : Cond.fieldLink RX3 13 "GuessingHall$Round" "word" "I" ∈ wsL_law := lr8 _ (List.mem_of_getElem? (i := 9) rfl)
theorem uw178 : Cond.fieldLink RX3 17 "GuessingHall$Round" "stake" "I" ∈ wsL_law := lr8 _ (List.mem_of_getElem? (i := 10) rfl)
theorem uw179 : Cond.fieldLink RX3 20 "GuessingHall$Round" "turn" "I" ∈ wsL_law := lr8 _ (List.mem_of_getElem? (i := 11) rfl)
theorem uw180 : Cond.fieldLink RX3 23 "GuessingHall$Round" "pot" "I" ∈ wsL_law := lr8 _ (List.mem_of_getElem? (i := 12) rfl)
theorem uw181 : Cond.fieldLink RX3 26 "GuessingHall$Round" "misses" "I" ∈ wsL_law := lr8 _ (List.mem_of_getElem? (i := 13) rfl)
theorem uw182 : Cond.fieldLink RX3 29 "GuessingHall$Round" "guessed" "I" ∈ wsL_law := lr8 _ (List.mem_of_getElem? (i := 14) rfl)
theorem uw183 : Cond.methodLink RX5 65 yX2_copyFrom ∈ wsL_law := lr8 _ (List.mem_of_getElem? (i := 15) rfl)
theorem uw184 : Cond.instanceMethod yX2_copyFrom ∈ wsL_law := lr8 _ (List.mem_of_getElem? (i := 16) rfl)
theorem uw185 : Cond.selects RX2 yX2_copyFrom yX2_copyFrom ∈ wsL_law := lr8 _ (List.mem_of_getElem? (i := 17) rfl)
theorem uw186 : Cond.code yX2_copyFrom cX2_copyFrom 2 none ∈ wsL_law := lr8 _ (List.mem_of_getElem? (i := 18) rfl)
theorem uw187 : Cond.fieldLink RX2 29 "GuessingHall$PastRounds" "size" "I" ∈ wsL_law := lr8 _ (List.mem_of_getElem? (i := 19) rfl)
theorem uw188 : Cond.methodLink RX2 33 yX4_copyFrom ∈ wsL_law := lr8 _ (List.mem_of_getElem? (i := 20) rfl)
theorem uw189 : Cond.methodLink RX8 68 yX4_at ∈ wsL_law := lr8 _ (List.mem_of_getElem? (i := 21) rfl)
theorem uw190 : Cond.instanceMethod yX4_at ∈ wsL_law := lr8 _ (List.mem_of_getElem? (i := 22) rfl)
theorem uw191 : Cond.selects RX4 yX4_at yX4_at ∈ wsL_law := lr8 _ (List.mem_of_getElem? (i := 23) rfl)
theorem lr9 : ∀ w ∈ wsL_law_r9, w ∈ wsL_law := fun _ h => List.mem_append_left _ (List.mem_append_left _ (List.mem_append_left _ (List.mem_append_left _ (List.mem_append_left _ (List.mem_append_left _ (List.mem_append_left _ (List.mem_append_left _ (List.mem_append_left _ (List.mem_append_left _ (List.mem_append_left _ (List.mem_append_right _ (List.mem_append_right _ (List.mem_append_right _ (List.mem_append_right _ (List.mem_append_right _ (List.mem_append_right _ (List.mem_append_right _ (List.mem_append_right _ (List.mem_append_left _ h)))))))))))))))))))
theorem uw192 : Cond.code yX4_at cX4_at 2 (some .int) ∈ wsL_law := lr9 _ (List.mem_of_getElem? (i := 0) rfl)
theorem uw193 : Cond.methodLink RX8 74 yX4_put ∈ wsL_law := lr9 _ (List.mem_of_getElem? (i := 1) rfl)
theorem uw194 : Cond.instanceMethod yX4_put ∈ wsL_law := lr9 _ (List.mem_of_getElem? (i := 2) rfl)
theorem uw195 : Cond.selects RX4 yX4_put yX4_put ∈ wsL_law := lr9 _ (List.mem_of_getElem? (i := 3) rfl)
theorem uw196 : Cond.code yX4_put cX4_put 3 none ∈ wsL_law := lr9 _ (List.mem_of_getElem? (i := 4) rfl)
theorem uw197 : Cond.methodLink RL 17 yX9_word ∈ wsL_law := lr9 _ (List.mem_of_getElem? (i := 5) rfl)
theorem uw198 : Cond.instanceMethod yX9_word ∈ wsL_law := lr9 _ (List.mem_of_getElem? (i := 6) rfl)
theorem uw199 : Cond.selects RX9 yX9_word yX9_word ∈ wsL_law := lr9 _ (List.mem_of_getElem? (i := 7) rfl)
theorem uw200 : Cond.code yX9_word cX9_word 4 (some .int) ∈ wsL_law := lr9 _ (List.mem_of_getElem? (i := 8) rfl)
theorem uw201 : Cond.methodLink RX9 36 yX9_isWord ∈ wsL_law := lr9 _ (List.mem_of_getElem? (i := 9) rfl)
theorem uw202 : Cond.instanceMethod yX9_isWord ∈ wsL_law := lr9 _ (List.mem_of_getElem? (i := 10) rfl)
theorem uw203 : Cond.selects RX9 yX9_isWord yX9_isWord ∈ wsL_law := lr9 _ (List.mem_of_getElem? (i := 11) rfl)
theorem uw204 : Cond.code yX9_isWord cX9_isWord 2 (some .boolean) ∈ wsL_law := lr9 _ (List.mem_of_getElem? (i := 12) rfl)
theorem uw205 : Cond.methodLink RX9 40 yX9_in ∈ wsL_law := lr9 _ (List.mem_of_getElem? (i := 13) rfl)
theorem uw206 : Cond.static yX9_in ∈ wsL_law := lr9 _ (List.mem_of_getElem? (i := 14) rfl)
theorem uw207 : Cond.code yX9_in cX9_in 3 (some .boolean) ∈ wsL_law := lr9 _ (List.mem_of_getElem? (i := 15) rfl)
theorem uw208 : Cond.methodLink RX9 44 yX9_runs ∈ wsL_law := lr9 _ (List.mem_of_getElem? (i := 16) rfl)
theorem uw209 : Cond.instanceMethod yX9_runs ∈ wsL_law := lr9 _ (List.mem_of_getElem? (i := 17) rfl)
theorem uw210 : Cond.selects RX9 yX9_runs yX9_runs ∈ wsL_law := lr9 _ (List.mem_of_getElem? (i := 18) rfl)
theorem uw211 : Cond.code yX9_runs cX9_runs 1 (some .boolean) ∈ wsL_law := lr9 _ (List.mem_of_getElem? (i := 19) rfl)
theorem uw212 : Cond.methodLink RX9 48 yX9_changes ∈ wsL_law := lr9 _ (List.mem_of_getElem? (i := 20) rfl)
theorem uw213 : Cond.instanceMethod yX9_changes ∈ wsL_law := lr9 _ (List.mem_of_getElem? (i := 21) rfl)
theorem uw214 : Cond.selects RX9 yX9_changes yX9_changes ∈ wsL_law := lr9 _ (List.mem_of_getElem? (i := 22) rfl)
theorem uw215 : Cond.code yX9_changes cX9_changes 2 none ∈ wsL_law := lr9 _ (List.mem_of_getElem? (i := 23) rfl)
theorem lr10 : ∀ w ∈ wsL_law_r10, w ∈ wsL_law := fun _ h => List.mem_append_left _ (List.mem_append_left _ (List.mem_append_left _ (List.mem_append_left _ (List.mem_append_left _ (List.mem_append_left _ (List.mem_append_left _ (List.mem_append_left _ (List.mem_append_left _ (List.mem_append_left _ (List.mem_append_left _ (List.mem_append_right _ (List.mem_append_right _ (List.mem_append_right _ (List.mem_append_right _ (List.mem_append_right _ (List.mem_append_right _ (List.mem_append_right _ (List.mem_append_right _ (List.mem_append_right _ (List.mem_append_left _ h))))))))))))))))))))
theorem uw216 : Cond.fieldLink RX9 25 "GuessingHallModel" "pasts" "I" ∈ wsL_law := lr10 _ (List.mem_of_getElem? (i := 0) rfl)
theorem uw217 : Cond.methodLink RX9 29 yX9_of ∈ wsL_law := lr10 _ (List.mem_of_getElem? (i := 1) rfl)
theorem uw218 : Cond.instanceMethod yX9_of ∈ wsL_law := lr10 _ (List.mem_of_getElem? (i := 2) rfl)
theorem uw219 : Cond.selects RX9 yX9_of yX9_of ∈ wsL_law := lr10 _ (List.mem_of_getElem? (i := 3) rfl)
theorem uw220 : Cond.code yX9_of cX9_of 3 (some .int) ∈ wsL_law := lr10 _ (List.mem_of_getElem? (i := 4) rfl)
theorem uw221 : Cond.methodLink RL 18 yX8_seat ∈ wsL_law := lr10 _ (List.mem_of_getElem? (i := 5) rfl)
theorem uw222 : Cond.instanceMethod yX8_seat ∈ wsL_law := lr10 _ (List.mem_of_getElem? (i := 6) rfl)
theorem uw223 : Cond.selects RX8 yX8_seat yX8_seat ∈ wsL_law := lr10 _ (List.mem_of_getElem? (i := 7) rfl)
theorem uw224 : Cond.code yX8_seat cX8_seat 2 (some .int) ∈ wsL_law := lr10 _ (List.mem_of_getElem? (i := 8) rfl)
theorem uw225 : Cond.fieldLink RX8 78 "GuessingHall$State" "bench" "LGuessingHall$Bench;" ∈ wsL_law := lr10 _ (List.mem_of_getElem? (i := 9) rfl)
theorem uw226 : Cond.fieldLink RX8 82 "GuessingHall$Bench" "size" "I" ∈ wsL_law := lr10 _ (List.mem_of_getElem? (i := 10) rfl)
theorem uw227 : Cond.methodLink RX8 88 yX0_add ∈ wsL_law := lr10 _ (List.mem_of_getElem? (i := 11) rfl)
theorem uw228 : Cond.instanceMethod yX0_add ∈ wsL_law := lr10 _ (List.mem_of_getElem? (i := 12) rfl)
theorem uw229 : Cond.selects RX0 yX0_add yX0_add ∈ wsL_law := lr10 _ (List.mem_of_getElem? (i := 13) rfl)
theorem uw230 : Cond.code yX0_add cX0_add 3 (some .int) ∈ wsL_law := lr10 _ (List.mem_of_getElem? (i := 14) rfl)
theorem uw231 : Cond.methodLink RX0 43 yX4_put ∈ wsL_law := lr10 _ (List.mem_of_getElem? (i := 15) rfl)
theorem uw232 : Cond.methodLink RX0 47 yX0_dropHint ∈ wsL_law := lr10 _ (List.mem_of_getElem? (i := 16) rfl)
theorem uw233 : Cond.instanceMethod yX0_dropHint ∈ wsL_law := lr10 _ (List.mem_of_getElem? (i := 17) rfl)
theorem uw234 : Cond.selects RX0 yX0_dropHint yX0_dropHint ∈ wsL_law := lr10 _ (List.mem_of_getElem? (i := 18) rfl)
theorem uw235 : Cond.code yX0_dropHint cX0_dropHint 2 none ∈ wsL_law := lr10 _ (List.mem_of_getElem? (i := 19) rfl)
theorem uw236 : Cond.methodLink RL 22 yX9_seat ∈ wsL_law := lr10 _ (List.mem_of_getElem? (i := 20) rfl)
theorem uw237 : Cond.instanceMethod yX9_seat ∈ wsL_law := lr10 _ (List.mem_of_getElem? (i := 21) rfl)
theorem uw238 : Cond.selects RX9 yX9_seat yX9_seat ∈ wsL_law := lr10 _ (List.mem_of_getElem? (i := 22) rfl)
theorem uw239 : Cond.code yX9_seat cX9_seat 3 (some .int) ∈ wsL_law := lr10 _ (List.mem_of_getElem? (i := 23) rfl)
theorem lr11 : ∀ w ∈ wsL_law_r11, w ∈ wsL_law := fun _ h => List.mem_append_left _ (List.mem_append_left _ (List.mem_append_left _ (List.mem_append_left _ (List.mem_append_left _ (List.mem_append_left _ (List.mem_append_left _ (List.mem_append_left _ (List.mem_append_left _ (List.mem_append_left _ (List.mem_append_left _ (List.mem_append_right _ (List.mem_append_right _ (List.mem_append_right _ (List.mem_append_right _ (List.mem_append_right _ (List.mem_append_right _ (List.mem_append_right _ (List.mem_append_right _ (List.mem_append_right _ (List.mem_append_right _ (List.mem_append_left _ h)))))))))))))))))))))
theorem uw240 : Cond.methodLink RX9 51 yX9_at ∈ wsL_law := lr11 _ (List.mem_of_getElem? (i := 0) rfl)
theorem uw241 : Cond.static yX9_at ∈ wsL_law := lr11 _ (List.mem_of_getElem? (i := 1) rfl)
theorem uw242 : Cond.code yX9_at cX9_at 2 (some .int) ∈ wsL_law := lr11 _ (List.mem_of_getElem? (i := 2) rfl)
theorem uw243 : Cond.methodLink RL 23 yX8_lend ∈ wsL_law := lr11 _ (List.mem_of_getElem? (i := 3) rfl)
theorem uw244 : Cond.instanceMethod yX8_lend ∈ wsL_law := lr11 _ (List.mem_of_getElem? (i := 4) rfl)
theorem uw245 : Cond.selects RX8 yX8_lend yX8_lend ∈ wsL_law := lr11 _ (List.mem_of_getElem? (i := 5) rfl)
theorem uw246 : Cond.code yX8_lend cX8_lend 4 (some .int) ∈ wsL_law := lr11 _ (List.mem_of_getElem? (i := 6) rfl)
theorem uw247 : Cond.fieldLink RX8 92 "GuessingHall$Bench" "purse" "LGuessingHall$Row;" ∈ wsL_law := lr11 _ (List.mem_of_getElem? (i := 7) rfl)
theorem uw248 : Cond.methodLink RX8 91 yX0_has ∈ wsL_law := lr11 _ (List.mem_of_getElem? (i := 8) rfl)
theorem uw249 : Cond.instanceMethod yX0_has ∈ wsL_law := lr11 _ (List.mem_of_getElem? (i := 9) rfl)
theorem uw250 : Cond.selects RX0 yX0_has yX0_has ∈ wsL_law := lr11 _ (List.mem_of_getElem? (i := 10) rfl)
theorem uw251 : Cond.code yX0_has cX0_has 2 (some .boolean) ∈ wsL_law := lr11 _ (List.mem_of_getElem? (i := 11) rfl)
theorem uw252 : Cond.methodLink RX8 95 yX4_add ∈ wsL_law := lr11 _ (List.mem_of_getElem? (i := 12) rfl)
theorem uw253 : Cond.instanceMethod yX4_add ∈ wsL_law := lr11 _ (List.mem_of_getElem? (i := 13) rfl)
theorem uw254 : Cond.selects RX4 yX4_add yX4_add ∈ wsL_law := lr11 _ (List.mem_of_getElem? (i := 14) rfl)
theorem uw255 : Cond.code yX4_add cX4_add 3 none ∈ wsL_law := lr11 _ (List.mem_of_getElem? (i := 15) rfl)
theorem uw256 : Cond.methodLink RX4 19 yX4_at ∈ wsL_law := lr11 _ (List.mem_of_getElem? (i := 16) rfl)
theorem uw257 : Cond.methodLink RX4 23 yX4_put ∈ wsL_law := lr11 _ (List.mem_of_getElem? (i := 17) rfl)
theorem uw258 : Cond.methodLink RL 27 yX9_lend ∈ wsL_law := lr11 _ (List.mem_of_getElem? (i := 18) rfl)
theorem uw259 : Cond.instanceMethod yX9_lend ∈ wsL_law := lr11 _ (List.mem_of_getElem? (i := 19) rfl)
theorem uw260 : Cond.selects RX9 yX9_lend yX9_lend ∈ wsL_law := lr11 _ (List.mem_of_getElem? (i := 20) rfl)
theorem uw261 : Cond.code yX9_lend cX9_lend 4 (some .int) ∈ wsL_law := lr11 _ (List.mem_of_getElem? (i := 21) rfl)
theorem uw262 : Cond.methodLink RX9 54 yX9_isPlayer ∈ wsL_law := lr11 _ (List.mem_of_getElem? (i := 22) rfl)
theorem uw263 : Cond.instanceMethod yX9_isPlayer ∈ wsL_law := lr11 _ (List.mem_of_getElem? (i := 23) rfl)
theorem lr12 : ∀ w ∈ wsL_law_r12, w ∈ wsL_law := fun _ h => List.mem_append_left _ (List.mem_append_left _ (List.mem_append_left _ (List.mem_append_left _ (List.mem_append_left _ (List.mem_append_left _ (List.mem_append_left _ (List.mem_append_left _ (List.mem_append_left _ (List.mem_append_left _ (List.mem_append_left _ (List.mem_append_right _ (List.mem_append_right _ (List.mem_append_right _ (List.mem_append_right _ (List.mem_append_right _ (List.mem_append_right _ (List.mem_append_right _ (List.mem_append_right _ (List.mem_append_right _ (List.mem_append_right _ (List.mem_append_right _ (List.mem_append_left _ h))))))))))))))))))))))
theorem uw264 : Cond.selects RX9 yX9_isPlayer yX9_isPlayer ∈ wsL_law := lr12 _ (List.mem_of_getElem? (i := 0) rfl)
theorem uw265 : Cond.code yX9_isPlayer cX9_isPlayer 2 (some .boolean) ∈ wsL_law := lr12 _ (List.mem_of_getElem? (i := 1) rfl)
theorem uw266 : Cond.methodLink RL 28 yX8_set ∈ wsL_law := lr12 _ (List.mem_of_getElem? (i := 2) rfl)
theorem uw267 : Cond.instanceMethod yX8_set ∈ wsL_law := lr12 _ (List.mem_of_getElem? (i := 3) rfl)
theorem uw268 : Cond.selects RX8 yX8_set yX8_set ∈ wsL_law := lr12 _ (List.mem_of_getElem? (i := 4) rfl)
theorem uw269 : Cond.code yX8_set cX8_set 4 (some .int) ∈ wsL_law := lr12 _ (List.mem_of_getElem? (i := 5) rfl)
theorem uw270 : Cond.fieldLink RX8 97 "GuessingHall$State" "missLimit" "I" ∈ wsL_law := lr12 _ (List.mem_of_getElem? (i := 6) rfl)
theorem uw271 : Cond.methodLink RL 31 yX9_set ∈ wsL_law := lr12 _ (List.mem_of_getElem? (i := 7) rfl)
theorem uw272 : Cond.instanceMethod yX9_set ∈ wsL_law := lr12 _ (List.mem_of_getElem? (i := 8) rfl)
theorem uw273 : Cond.selects RX9 yX9_set yX9_set ∈ wsL_law := lr12 _ (List.mem_of_getElem? (i := 9) rfl)
theorem uw274 : Cond.code yX9_set cX9_set 4 (some .int) ∈ wsL_law := lr12 _ (List.mem_of_getElem? (i := 10) rfl)
theorem uw275 : Cond.methodLink RL 32 yX8_seed ∈ wsL_law := lr12 _ (List.mem_of_getElem? (i := 11) rfl)
theorem uw276 : Cond.instanceMethod yX8_seed ∈ wsL_law := lr12 _ (List.mem_of_getElem? (i := 12) rfl)
theorem uw277 : Cond.selects RX8 yX8_seed yX8_seed ∈ wsL_law := lr12 _ (List.mem_of_getElem? (i := 13) rfl)
theorem uw278 : Cond.code yX8_seed cX8_seed 3 (some .int) ∈ wsL_law := lr12 _ (List.mem_of_getElem? (i := 14) rfl)
theorem uw279 : Cond.fieldLink RX8 100 "GuessingHall$State" "drawNumber" "I" ∈ wsL_law := lr12 _ (List.mem_of_getElem? (i := 15) rfl)
theorem uw280 : Cond.methodLink RL 35 yX9_seed ∈ wsL_law := lr12 _ (List.mem_of_getElem? (i := 16) rfl)
theorem uw281 : Cond.instanceMethod yX9_seed ∈ wsL_law := lr12 _ (List.mem_of_getElem? (i := 17) rfl)
theorem uw282 : Cond.selects RX9 yX9_seed yX9_seed ∈ wsL_law := lr12 _ (List.mem_of_getElem? (i := 18) rfl)
theorem uw283 : Cond.code yX9_seed cX9_seed 3 (some .int) ∈ wsL_law := lr12 _ (List.mem_of_getElem? (i := 19) rfl)
theorem uw284 : Cond.methodLink RL 36 yX8_begin ∈ wsL_law := lr12 _ (List.mem_of_getElem? (i := 20) rfl)
theorem uw285 : Cond.instanceMethod yX8_begin ∈ wsL_law := lr12 _ (List.mem_of_getElem? (i := 21) rfl)
theorem uw286 : Cond.selects RX8 yX8_begin yX8_begin ∈ wsL_law := lr12 _ (List.mem_of_getElem? (i := 22) rfl)
theorem uw287 : Cond.code yX8_begin cX8_begin 2 (some .int) ∈ wsL_law := lr12 _ (List.mem_of_getElem? (i := 23) rfl)
theorem lr13 : ∀ w ∈ wsL_law_r13, w ∈ wsL_law := fun _ h => List.mem_append_left _ (List.mem_append_left _ (List.mem_append_left _ (List.mem_append_left _ (List.mem_append_left _ (List.mem_append_left _ (List.mem_append_left _ (List.mem_append_left _ (List.mem_append_left _ (List.mem_append_left _ (List.mem_append_left _ (List.mem_append_right _ (List.mem_append_right _ (List.mem_append_right _ (List.mem_append_right _ (List.mem_append_right _ (List.mem_append_right _ (List.mem_append_right _ (List.mem_append_right _ (List.mem_append_right _ (List.mem_append_right _ (List.mem_append_right _ (List.mem_append_right _ (List.mem_append_left _ h)))))))))))))))))))))))
theorem uw288 : Cond.fieldLink RX8 110 "GuessingHall$Words" "length" "LGuessingHall$Row;" ∈ wsL_law := lr13 _ (List.mem_of_getElem? (i := 0) rfl)
theorem uw289 : Cond.fieldLink RX8 113 "GuessingHall$Round" "word" "I" ∈ wsL_law := lr13 _ (List.mem_of_getElem? (i := 1) rfl)
theorem uw290 : Cond.methodLink RX8 103 yX5_canBegin ∈ wsL_law := lr13 _ (List.mem_of_getElem? (i := 2) rfl)
theorem uw291 : Cond.instanceMethod yX5_canBegin ∈ wsL_law := lr13 _ (List.mem_of_getElem? (i := 3) rfl)
theorem uw292 : Cond.selects RX5 yX5_canBegin yX5_canBegin ∈ wsL_law := lr13 _ (List.mem_of_getElem? (i := 4) rfl)
theorem uw293 : Cond.code yX5_canBegin cX5_canBegin 2 (some .boolean) ∈ wsL_law := lr13 _ (List.mem_of_getElem? (i := 5) rfl)
theorem uw294 : Cond.fieldLink RX5 68 "GuessingHall$Round" "running" "Z" ∈ wsL_law := lr13 _ (List.mem_of_getElem? (i := 6) rfl)
theorem uw295 : Cond.fieldLink RX5 72 "GuessingHall$Words" "size" "I" ∈ wsL_law := lr13 _ (List.mem_of_getElem? (i := 7) rfl)
theorem uw296 : Cond.fieldLink RX5 75 "GuessingHall$Bench" "size" "I" ∈ wsL_law := lr13 _ (List.mem_of_getElem? (i := 8) rfl)
theorem uw297 : Cond.methodLink RX5 76 yX0_canAllPay ∈ wsL_law := lr13 _ (List.mem_of_getElem? (i := 9) rfl)
theorem uw298 : Cond.instanceMethod yX0_canAllPay ∈ wsL_law := lr13 _ (List.mem_of_getElem? (i := 10) rfl)
theorem uw299 : Cond.selects RX0 yX0_canAllPay yX0_canAllPay ∈ wsL_law := lr13 _ (List.mem_of_getElem? (i := 11) rfl)
theorem uw300 : Cond.code yX0_canAllPay cX0_canAllPay 3 (some .boolean) ∈ wsL_law := lr13 _ (List.mem_of_getElem? (i := 12) rfl)
theorem uw301 : Cond.methodLink RX0 50 yX4_at ∈ wsL_law := lr13 _ (List.mem_of_getElem? (i := 13) rfl)
theorem uw302 : Cond.methodLink RX8 106 yX5_beginRound ∈ wsL_law := lr13 _ (List.mem_of_getElem? (i := 14) rfl)
theorem uw303 : Cond.instanceMethod yX5_beginRound ∈ wsL_law := lr13 _ (List.mem_of_getElem? (i := 15) rfl)
theorem uw304 : Cond.selects RX5 yX5_beginRound yX5_beginRound ∈ wsL_law := lr13 _ (List.mem_of_getElem? (i := 16) rfl)
theorem uw305 : Cond.code yX5_beginRound cX5_beginRound 2 none ∈ wsL_law := lr13 _ (List.mem_of_getElem? (i := 17) rfl)
theorem uw306 : Cond.fieldLink RX5 90 "GuessingHall$Round" "word" "I" ∈ wsL_law := lr13 _ (List.mem_of_getElem? (i := 18) rfl)
theorem uw307 : Cond.fieldLink RX5 93 "GuessingHall$Round" "stake" "I" ∈ wsL_law := lr13 _ (List.mem_of_getElem? (i := 19) rfl)
theorem uw308 : Cond.fieldLink RX5 96 "GuessingHall$Round" "turn" "I" ∈ wsL_law := lr13 _ (List.mem_of_getElem? (i := 20) rfl)
theorem uw309 : Cond.fieldLink RX5 99 "GuessingHall$Round" "pot" "I" ∈ wsL_law := lr13 _ (List.mem_of_getElem? (i := 21) rfl)
theorem uw310 : Cond.fieldLink RX5 102 "GuessingHall$Round" "misses" "I" ∈ wsL_law := lr13 _ (List.mem_of_getElem? (i := 22) rfl)
theorem uw311 : Cond.fieldLink RX5 105 "GuessingHall$Round" "guessed" "I" ∈ wsL_law := lr13 _ (List.mem_of_getElem? (i := 23) rfl)
theorem lr14 : ∀ w ∈ wsL_law_r14, w ∈ wsL_law := fun _ h => List.mem_append_left _ (List.mem_append_left _ (List.mem_append_left _ (List.mem_append_left _ (List.mem_append_left _ (List.mem_append_left _ (List.mem_append_left _ (List.mem_append_left _ (List.mem_append_left _ (List.mem_append_left _ (List.mem_append_left _ (List.mem_append_right _ (List.mem_append_right _ (List.mem_append_right _ (List.mem_append_right _ (List.mem_append_right _ (List.mem_append_right _ (List.mem_append_right _ (List.mem_append_right _ (List.mem_append_right _ (List.mem_append_right _ (List.mem_append_right _ (List.mem_append_right _ (List.mem_append_right _ (List.mem_append_left _ h))))))))))))))))))))))))
theorem uw312 : Cond.fieldLink RX5 112 "GuessingHall$Words" "drawn" "LGuessingHall$Row;" ∈ wsL_law := lr14 _ (List.mem_of_getElem? (i := 0) rfl)
theorem uw313 : Cond.static yX8_numberBehind ∈ wsL_law := lr14 _ (List.mem_of_getElem? (i := 1) rfl)
theorem uw314 : Cond.code yX8_numberBehind cX8_numberBehind 1 (some .int) ∈ wsL_law := lr14 _ (List.mem_of_getElem? (i := 2) rfl)
theorem uw315 : Cond.constantLong RX8 286 (1103515245) ∈ wsL_law := lr14 _ (List.mem_of_getElem? (i := 3) rfl)
theorem uw316 : Cond.constantLong RX8 288 (12345) ∈ wsL_law := lr14 _ (List.mem_of_getElem? (i := 4) rfl)
theorem uw317 : Cond.constantLong RX8 290 (2147483648) ∈ wsL_law := lr14 _ (List.mem_of_getElem? (i := 5) rfl)
theorem uw318 : Cond.methodLink RX5 84 yX0_behind ∈ wsL_law := lr14 _ (List.mem_of_getElem? (i := 6) rfl)
theorem uw319 : Cond.instanceMethod yX0_behind ∈ wsL_law := lr14 _ (List.mem_of_getElem? (i := 7) rfl)
theorem uw320 : Cond.selects RX0 yX0_behind yX0_behind ∈ wsL_law := lr14 _ (List.mem_of_getElem? (i := 8) rfl)
theorem uw321 : Cond.code yX0_behind cX0_behind 2 (some .int) ∈ wsL_law := lr14 _ (List.mem_of_getElem? (i := 9) rfl)
theorem uw322 : Cond.methodLink RX5 87 yX7_drawnBy ∈ wsL_law := lr14 _ (List.mem_of_getElem? (i := 10) rfl)
theorem uw323 : Cond.instanceMethod yX7_drawnBy ∈ wsL_law := lr14 _ (List.mem_of_getElem? (i := 11) rfl)
theorem uw324 : Cond.selects RX7 yX7_drawnBy yX7_drawnBy ∈ wsL_law := lr14 _ (List.mem_of_getElem? (i := 12) rfl)
theorem uw325 : Cond.code yX7_drawnBy cX7_drawnBy 6 (some .int) ∈ wsL_law := lr14 _ (List.mem_of_getElem? (i := 13) rfl)
theorem uw326 : Cond.constant RX7 60 (65536) ∈ wsL_law := lr14 _ (List.mem_of_getElem? (i := 14) rfl)
theorem uw327 : Cond.methodLink RX7 56 yX7_weightSum ∈ wsL_law := lr14 _ (List.mem_of_getElem? (i := 15) rfl)
theorem uw328 : Cond.instanceMethod yX7_weightSum ∈ wsL_law := lr14 _ (List.mem_of_getElem? (i := 16) rfl)
theorem uw329 : Cond.selects RX7 yX7_weightSum yX7_weightSum ∈ wsL_law := lr14 _ (List.mem_of_getElem? (i := 17) rfl)
theorem uw330 : Cond.code yX7_weightSum cX7_weightSum 1 (some .int) ∈ wsL_law := lr14 _ (List.mem_of_getElem? (i := 18) rfl)
theorem uw331 : Cond.methodLink RX7 53 yX7_weightOf ∈ wsL_law := lr14 _ (List.mem_of_getElem? (i := 19) rfl)
theorem uw332 : Cond.instanceMethod yX7_weightOf ∈ wsL_law := lr14 _ (List.mem_of_getElem? (i := 20) rfl)
theorem uw333 : Cond.selects RX7 yX7_weightOf yX7_weightOf ∈ wsL_law := lr14 _ (List.mem_of_getElem? (i := 21) rfl)
theorem uw334 : Cond.code yX7_weightOf cX7_weightOf 4 (some .int) ∈ wsL_law := lr14 _ (List.mem_of_getElem? (i := 22) rfl)
theorem uw335 : Cond.static yX8_holds ∈ wsL_law := lr14 _ (List.mem_of_getElem? (i := 23) rfl)
theorem lr15 : ∀ w ∈ wsL_law_r15, w ∈ wsL_law := fun _ h => List.mem_append_left _ (List.mem_append_left _ (List.mem_append_left _ (List.mem_append_left _ (List.mem_append_left _ (List.mem_append_left _ (List.mem_append_left _ (List.mem_append_left _ (List.mem_append_left _ (List.mem_append_left _ (List.mem_append_left _ (List.mem_append_right _ (List.mem_append_right _ (List.mem_append_right _ (List.mem_append_right _ (List.mem_append_right _ (List.mem_append_right _ (List.mem_append_right _ (List.mem_append_right _ (List.mem_append_right _ (List.mem_append_right _ (List.mem_append_right _ (List.mem_append_right _ (List.mem_append_right _ (List.mem_append_right _ (List.mem_append_left _ h)))))))))))))))))))))))))
theorem uw336 : Cond.code yX8_holds cX8_holds 2 (some .boolean) ∈ wsL_law := lr15 _ (List.mem_of_getElem? (i := 0) rfl)
theorem uw337 : Cond.methodLink RX7 37 yX4_at ∈ wsL_law := lr15 _ (List.mem_of_getElem? (i := 1) rfl)
theorem uw338 : Cond.methodLink RX5 108 yX0_takeFromAll ∈ wsL_law := lr15 _ (List.mem_of_getElem? (i := 2) rfl)
theorem uw339 : Cond.instanceMethod yX0_takeFromAll ∈ wsL_law := lr15 _ (List.mem_of_getElem? (i := 3) rfl)
theorem uw340 : Cond.selects RX0 yX0_takeFromAll yX0_takeFromAll ∈ wsL_law := lr15 _ (List.mem_of_getElem? (i := 4) rfl)
theorem uw341 : Cond.code yX0_takeFromAll cX0_takeFromAll 3 none ∈ wsL_law := lr15 _ (List.mem_of_getElem? (i := 5) rfl)
theorem uw342 : Cond.methodLink RX0 54 yX4_add ∈ wsL_law := lr15 _ (List.mem_of_getElem? (i := 6) rfl)
theorem uw343 : Cond.methodLink RX5 116 yX4_add ∈ wsL_law := lr15 _ (List.mem_of_getElem? (i := 7) rfl)
theorem uw344 : Cond.methodLink RL 39 yX9_begin ∈ wsL_law := lr15 _ (List.mem_of_getElem? (i := 8) rfl)
theorem uw345 : Cond.instanceMethod yX9_begin ∈ wsL_law := lr15 _ (List.mem_of_getElem? (i := 9) rfl)
theorem uw346 : Cond.selects RX9 yX9_begin yX9_begin ∈ wsL_law := lr15 _ (List.mem_of_getElem? (i := 10) rfl)
theorem uw347 : Cond.code yX9_begin cX9_begin 3 (some .int) ∈ wsL_law := lr15 _ (List.mem_of_getElem? (i := 11) rfl)
theorem uw348 : Cond.methodLink RX9 68 yX9_canPay ∈ wsL_law := lr15 _ (List.mem_of_getElem? (i := 12) rfl)
theorem uw349 : Cond.instanceMethod yX9_canPay ∈ wsL_law := lr15 _ (List.mem_of_getElem? (i := 13) rfl)
theorem uw350 : Cond.selects RX9 yX9_canPay yX9_canPay ∈ wsL_law := lr15 _ (List.mem_of_getElem? (i := 14) rfl)
theorem uw351 : Cond.code yX9_canPay cX9_canPay 4 (some .boolean) ∈ wsL_law := lr15 _ (List.mem_of_getElem? (i := 15) rfl)
theorem uw352 : Cond.methodLink RX9 71 yX9_drawn ∈ wsL_law := lr15 _ (List.mem_of_getElem? (i := 16) rfl)
theorem uw353 : Cond.instanceMethod yX9_drawn ∈ wsL_law := lr15 _ (List.mem_of_getElem? (i := 17) rfl)
theorem uw354 : Cond.selects RX9 yX9_drawn yX9_drawn ∈ wsL_law := lr15 _ (List.mem_of_getElem? (i := 18) rfl)
theorem uw355 : Cond.code yX9_drawn cX9_drawn 1 (some .int) ∈ wsL_law := lr15 _ (List.mem_of_getElem? (i := 19) rfl)
theorem uw356 : Cond.constantLong RX9 57 (1103515245) ∈ wsL_law := lr15 _ (List.mem_of_getElem? (i := 20) rfl)
theorem uw357 : Cond.constantLong RX9 59 (12345) ∈ wsL_law := lr15 _ (List.mem_of_getElem? (i := 21) rfl)
theorem uw358 : Cond.constantLong RX9 61 (2147483648) ∈ wsL_law := lr15 _ (List.mem_of_getElem? (i := 22) rfl)
theorem uw359 : Cond.methodLink RX9 74 yX9_wordBy ∈ wsL_law := lr15 _ (List.mem_of_getElem? (i := 23) rfl)
theorem lr16 : ∀ w ∈ wsL_law_r16, w ∈ wsL_law := fun _ h => List.mem_append_left _ (List.mem_append_left _ (List.mem_append_left _ (List.mem_append_left _ (List.mem_append_left _ (List.mem_append_left _ (List.mem_append_left _ (List.mem_append_left _ (List.mem_append_left _ (List.mem_append_left _ (List.mem_append_left _ (List.mem_append_right _ (List.mem_append_right _ (List.mem_append_right _ (List.mem_append_right _ (List.mem_append_right _ (List.mem_append_right _ (List.mem_append_right _ (List.mem_append_right _ (List.mem_append_right _ (List.mem_append_right _ (List.mem_append_right _ (List.mem_append_right _ (List.mem_append_right _ (List.mem_append_right _ (List.mem_append_right _ (List.mem_append_left _ h))))))))))))))))))))))))))
theorem uw360 : Cond.instanceMethod yX9_wordBy ∈ wsL_law := lr16 _ (List.mem_of_getElem? (i := 0) rfl)
theorem uw361 : Cond.selects RX9 yX9_wordBy yX9_wordBy ∈ wsL_law := lr16 _ (List.mem_of_getElem? (i := 1) rfl)
theorem uw362 : Cond.code yX9_wordBy cX9_wordBy 4 (some .int) ∈ wsL_law := lr16 _ (List.mem_of_getElem? (i := 2) rfl)
theorem uw363 : Cond.constant RX9 63 (65536) ∈ wsL_law := lr16 _ (List.mem_of_getElem? (i := 3) rfl)
theorem uw364 : Cond.methodLink RX9 64 yX9_weights ∈ wsL_law := lr16 _ (List.mem_of_getElem? (i := 4) rfl)
theorem uw365 : Cond.instanceMethod yX9_weights ∈ wsL_law := lr16 _ (List.mem_of_getElem? (i := 5) rfl)
theorem uw366 : Cond.selects RX9 yX9_weights yX9_weights ∈ wsL_law := lr16 _ (List.mem_of_getElem? (i := 6) rfl)
theorem uw367 : Cond.code yX9_weights cX9_weights 3 (some .int) ∈ wsL_law := lr16 _ (List.mem_of_getElem? (i := 7) rfl)
theorem uw368 : Cond.methodLink RL 40 yX8_guess ∈ wsL_law := lr16 _ (List.mem_of_getElem? (i := 8) rfl)
theorem uw369 : Cond.instanceMethod yX8_guess ∈ wsL_law := lr16 _ (List.mem_of_getElem? (i := 9) rfl)
theorem uw370 : Cond.selects RX8 yX8_guess yX8_guess ∈ wsL_law := lr16 _ (List.mem_of_getElem? (i := 10) rfl)
theorem uw371 : Cond.code yX8_guess cX8_guess 2 (some .int) ∈ wsL_law := lr16 _ (List.mem_of_getElem? (i := 11) rfl)
theorem uw372 : Cond.methodLink RX8 116 yX8_isLetter ∈ wsL_law := lr16 _ (List.mem_of_getElem? (i := 12) rfl)
theorem uw373 : Cond.static yX8_isLetter ∈ wsL_law := lr16 _ (List.mem_of_getElem? (i := 13) rfl)
theorem uw374 : Cond.code yX8_isLetter cX8_isLetter 1 (some .boolean) ∈ wsL_law := lr16 _ (List.mem_of_getElem? (i := 14) rfl)
theorem uw375 : Cond.methodLink RX8 119 yX3_takes ∈ wsL_law := lr16 _ (List.mem_of_getElem? (i := 15) rfl)
theorem uw376 : Cond.instanceMethod yX3_takes ∈ wsL_law := lr16 _ (List.mem_of_getElem? (i := 16) rfl)
theorem uw377 : Cond.selects RX3 yX3_takes yX3_takes ∈ wsL_law := lr16 _ (List.mem_of_getElem? (i := 17) rfl)
theorem uw378 : Cond.code yX3_takes cX3_takes 2 (some .boolean) ∈ wsL_law := lr16 _ (List.mem_of_getElem? (i := 18) rfl)
theorem uw379 : Cond.methodLink RX8 122 yX5_guessLetter ∈ wsL_law := lr16 _ (List.mem_of_getElem? (i := 19) rfl)
theorem uw380 : Cond.instanceMethod yX5_guessLetter ∈ wsL_law := lr16 _ (List.mem_of_getElem? (i := 20) rfl)
theorem uw381 : Cond.selects RX5 yX5_guessLetter yX5_guessLetter ∈ wsL_law := lr16 _ (List.mem_of_getElem? (i := 21) rfl)
theorem uw382 : Cond.code yX5_guessLetter cX5_guessLetter 5 (some .int) ∈ wsL_law := lr16 _ (List.mem_of_getElem? (i := 22) rfl)
theorem uw383 : Cond.fieldLink RX5 122 "GuessingHall$Bench" "hint" "LGuessingHall$Row;" ∈ wsL_law := lr16 _ (List.mem_of_getElem? (i := 23) rfl)
theorem lr17 : ∀ w ∈ wsL_law_r17, w ∈ wsL_law := fun _ h => List.mem_append_left _ (List.mem_append_left _ (List.mem_append_left _ (List.mem_append_left _ (List.mem_append_left _ (List.mem_append_left _ (List.mem_append_left _ (List.mem_append_left _ (List.mem_append_left _ (List.mem_append_left _ (List.mem_append_left _ (List.mem_append_right _ (List.mem_append_right _ (List.mem_append_right _ (List.mem_append_right _ (List.mem_append_right _ (List.mem_append_right _ (List.mem_append_right _ (List.mem_append_right _ (List.mem_append_right _ (List.mem_append_right _ (List.mem_append_right _ (List.mem_append_right _ (List.mem_append_right _ (List.mem_append_right _ (List.mem_append_right _ (List.mem_append_right _ (List.mem_append_left _ h)))))))))))))))))))))))))))
theorem uw384 : Cond.fieldLink RX5 143 "GuessingHall$Bench" "hits" "LGuessingHall$Row;" ∈ wsL_law := lr17 _ (List.mem_of_getElem? (i := 0) rfl)
theorem uw385 : Cond.fieldLink RX5 154 "GuessingHall$Words" "length" "LGuessingHall$Row;" ∈ wsL_law := lr17 _ (List.mem_of_getElem? (i := 1) rfl)
theorem uw386 : Cond.methodLink RX5 125 yX4_at ∈ wsL_law := lr17 _ (List.mem_of_getElem? (i := 2) rfl)
theorem uw387 : Cond.methodLink RX5 128 yX0_dropHint ∈ wsL_law := lr17 _ (List.mem_of_getElem? (i := 3) rfl)
theorem uw388 : Cond.methodLink RX5 131 yX7_placesOf ∈ wsL_law := lr17 _ (List.mem_of_getElem? (i := 4) rfl)
theorem uw389 : Cond.instanceMethod yX7_placesOf ∈ wsL_law := lr17 _ (List.mem_of_getElem? (i := 5) rfl)
theorem uw390 : Cond.selects RX7 yX7_placesOf yX7_placesOf ∈ wsL_law := lr17 _ (List.mem_of_getElem? (i := 6) rfl)
theorem uw391 : Cond.code yX7_placesOf cX7_placesOf 6 (some .int) ∈ wsL_law := lr17 _ (List.mem_of_getElem? (i := 7) rfl)
theorem uw392 : Cond.methodLink RX7 45 yX7_letterAt ∈ wsL_law := lr17 _ (List.mem_of_getElem? (i := 8) rfl)
theorem uw393 : Cond.instanceMethod yX7_letterAt ∈ wsL_law := lr17 _ (List.mem_of_getElem? (i := 9) rfl)
theorem uw394 : Cond.selects RX7 yX7_letterAt yX7_letterAt ∈ wsL_law := lr17 _ (List.mem_of_getElem? (i := 10) rfl)
theorem uw395 : Cond.code yX7_letterAt cX7_letterAt 3 (some .int) ∈ wsL_law := lr17 _ (List.mem_of_getElem? (i := 11) rfl)
theorem uw396 : Cond.methodLink RX5 135 yJ6_bitCount_0f7a4 ∈ wsL_law := lr17 _ (List.mem_of_getElem? (i := 12) rfl)
theorem uw397 : Cond.static yJ6_bitCount_0f7a4 ∈ wsL_law := lr17 _ (List.mem_of_getElem? (i := 13) rfl)
theorem uw398 : Cond.initialized RJ6 ∈ wsL_law := lr17 _ (List.mem_of_getElem? (i := 14) rfl)
theorem uw399 : Cond.code yJ6_bitCount_0f7a4 cJ6_bitCount_0f7a4 1 (some .int) ∈ wsL_law := lr17 _ (List.mem_of_getElem? (i := 15) rfl)
theorem uw400 : Cond.constant RJ6 265 (1431655765) ∈ wsL_law := lr17 _ (List.mem_of_getElem? (i := 16) rfl)
theorem uw401 : Cond.constant RJ6 266 (858993459) ∈ wsL_law := lr17 _ (List.mem_of_getElem? (i := 17) rfl)
theorem uw402 : Cond.constant RJ6 267 (252645135) ∈ wsL_law := lr17 _ (List.mem_of_getElem? (i := 18) rfl)
theorem uw403 : Cond.methodLink RX5 140 yX5_countMiss ∈ wsL_law := lr17 _ (List.mem_of_getElem? (i := 19) rfl)
theorem uw404 : Cond.instanceMethod yX5_countMiss ∈ wsL_law := lr17 _ (List.mem_of_getElem? (i := 20) rfl)
theorem uw405 : Cond.selects RX5 yX5_countMiss yX5_countMiss ∈ wsL_law := lr17 _ (List.mem_of_getElem? (i := 21) rfl)
theorem uw406 : Cond.code yX5_countMiss cX5_countMiss 1 none ∈ wsL_law := lr17 _ (List.mem_of_getElem? (i := 22) rfl)
theorem uw407 : Cond.fieldLink RX5 169 "GuessingHall$Bench" "misses" "LGuessingHall$Row;" ∈ wsL_law := lr17 _ (List.mem_of_getElem? (i := 23) rfl)
theorem lr18 : ∀ w ∈ wsL_law_r18, w ∈ wsL_law := fun _ h => List.mem_append_left _ (List.mem_append_left _ (List.mem_append_left _ (List.mem_append_left _ (List.mem_append_left _ (List.mem_append_left _ (List.mem_append_left _ (List.mem_append_left _ (List.mem_append_left _ (List.mem_append_left _ (List.mem_append_left _ (List.mem_append_right _ (List.mem_append_right _ (List.mem_append_right _ (List.mem_append_right _ (List.mem_append_right _ (List.mem_append_right _ (List.mem_append_right _ (List.mem_append_right _ (List.mem_append_right _ (List.mem_append_right _ (List.mem_append_right _ (List.mem_append_right _ (List.mem_append_right _ (List.mem_append_right _ (List.mem_append_right _ (List.mem_append_right _ (List.mem_append_right _ (List.mem_append_left _ h))))))))))))))))))))))))))))
theorem uw408 : Cond.methodLink RX5 171 yX5_endRound ∈ wsL_law := lr18 _ (List.mem_of_getElem? (i := 0) rfl)
theorem uw409 : Cond.instanceMethod yX5_endRound ∈ wsL_law := lr18 _ (List.mem_of_getElem? (i := 1) rfl)
theorem uw410 : Cond.selects RX5 yX5_endRound yX5_endRound ∈ wsL_law := lr18 _ (List.mem_of_getElem? (i := 2) rfl)
theorem uw411 : Cond.code yX5_endRound cX5_endRound 2 none ∈ wsL_law := lr18 _ (List.mem_of_getElem? (i := 3) rfl)
theorem uw412 : Cond.methodLink RX5 177 yX2_putFirst ∈ wsL_law := lr18 _ (List.mem_of_getElem? (i := 4) rfl)
theorem uw413 : Cond.instanceMethod yX2_putFirst ∈ wsL_law := lr18 _ (List.mem_of_getElem? (i := 5) rfl)
theorem uw414 : Cond.selects RX2 yX2_putFirst yX2_putFirst ∈ wsL_law := lr18 _ (List.mem_of_getElem? (i := 6) rfl)
theorem uw415 : Cond.code yX2_putFirst cX2_putFirst 4 none ∈ wsL_law := lr18 _ (List.mem_of_getElem? (i := 7) rfl)
theorem uw416 : Cond.methodLink RX2 37 Lib.Math.min.name ∈ wsL_law := lr18 _ (List.mem_of_getElem? (i := 8) rfl)
theorem uw417 : Cond.fieldLink RX2 51 "GuessingHall$Round" "word" "I" ∈ wsL_law := lr18 _ (List.mem_of_getElem? (i := 9) rfl)
theorem uw418 : Cond.fieldLink RX2 55 "GuessingHall$Round" "misses" "I" ∈ wsL_law := lr18 _ (List.mem_of_getElem? (i := 10) rfl)
theorem uw419 : Cond.fieldLink RX2 57 "GuessingHall$Round" "stake" "I" ∈ wsL_law := lr18 _ (List.mem_of_getElem? (i := 11) rfl)
theorem uw420 : Cond.methodLink RX2 43 yX4_at ∈ wsL_law := lr18 _ (List.mem_of_getElem? (i := 12) rfl)
theorem uw421 : Cond.methodLink RX2 47 yX4_put ∈ wsL_law := lr18 _ (List.mem_of_getElem? (i := 13) rfl)
theorem uw422 : Cond.methodLink RX5 181 yX0_dropHints ∈ wsL_law := lr18 _ (List.mem_of_getElem? (i := 14) rfl)
theorem uw423 : Cond.instanceMethod yX0_dropHints ∈ wsL_law := lr18 _ (List.mem_of_getElem? (i := 15) rfl)
theorem uw424 : Cond.selects RX0 yX0_dropHints yX0_dropHints ∈ wsL_law := lr18 _ (List.mem_of_getElem? (i := 16) rfl)
theorem uw425 : Cond.code yX0_dropHints cX0_dropHints 2 none ∈ wsL_law := lr18 _ (List.mem_of_getElem? (i := 17) rfl)
theorem uw426 : Cond.methodLink RX5 146 yX5_payForPlaces ∈ wsL_law := lr18 _ (List.mem_of_getElem? (i := 18) rfl)
theorem uw427 : Cond.instanceMethod yX5_payForPlaces ∈ wsL_law := lr18 _ (List.mem_of_getElem? (i := 19) rfl)
theorem uw428 : Cond.selects RX5 yX5_payForPlaces yX5_payForPlaces ∈ wsL_law := lr18 _ (List.mem_of_getElem? (i := 20) rfl)
theorem uw429 : Cond.code yX5_payForPlaces cX5_payForPlaces 6 none ∈ wsL_law := lr18 _ (List.mem_of_getElem? (i := 21) rfl)
theorem uw430 : Cond.fieldLink RX5 163 "GuessingHall$Bench" "purse" "LGuessingHall$Row;" ∈ wsL_law := lr18 _ (List.mem_of_getElem? (i := 22) rfl)
theorem uw431 : Cond.fieldLink RX5 166 "GuessingHall$Bench" "whisperer" "LGuessingHall$Row;" ∈ wsL_law := lr18 _ (List.mem_of_getElem? (i := 23) rfl)
theorem lr19 : ∀ w ∈ wsL_law_r19, w ∈ wsL_law := fun _ h => List.mem_append_left _ (List.mem_append_left _ (List.mem_append_left _ (List.mem_append_left _ (List.mem_append_left _ (List.mem_append_left _ (List.mem_append_left _ (List.mem_append_left _ (List.mem_append_left _ (List.mem_append_left _ (List.mem_append_left _ (List.mem_append_right _ (List.mem_append_right _ (List.mem_append_right _ (List.mem_append_right _ (List.mem_append_right _ (List.mem_append_right _ (List.mem_append_right _ (List.mem_append_right _ (List.mem_append_right _ (List.mem_append_right _ (List.mem_append_right _ (List.mem_append_right _ (List.mem_append_right _ (List.mem_append_right _ (List.mem_append_right _ (List.mem_append_right _ (List.mem_append_right _ (List.mem_append_right _ (List.mem_append_left _ h)))))))))))))))))))))))))))))
theorem uw432 : Cond.methodLink RX5 160 yX3_takeFromPot ∈ wsL_law := lr19 _ (List.mem_of_getElem? (i := 0) rfl)
theorem uw433 : Cond.instanceMethod yX3_takeFromPot ∈ wsL_law := lr19 _ (List.mem_of_getElem? (i := 1) rfl)
theorem uw434 : Cond.selects RX3 yX3_takeFromPot yX3_takeFromPot ∈ wsL_law := lr19 _ (List.mem_of_getElem? (i := 2) rfl)
theorem uw435 : Cond.code yX3_takeFromPot cX3_takeFromPot 3 (some .int) ∈ wsL_law := lr19 _ (List.mem_of_getElem? (i := 3) rfl)
theorem uw436 : Cond.methodLink RX3 38 Lib.Math.min.name ∈ wsL_law := lr19 _ (List.mem_of_getElem? (i := 4) rfl)
theorem uw437 : Cond.methodLink RX5 150 yX5_openPlaces ∈ wsL_law := lr19 _ (List.mem_of_getElem? (i := 5) rfl)
theorem uw438 : Cond.instanceMethod yX5_openPlaces ∈ wsL_law := lr19 _ (List.mem_of_getElem? (i := 6) rfl)
theorem uw439 : Cond.selects RX5 yX5_openPlaces yX5_openPlaces ∈ wsL_law := lr19 _ (List.mem_of_getElem? (i := 7) rfl)
theorem uw440 : Cond.code yX5_openPlaces cX5_openPlaces 4 (some .int) ∈ wsL_law := lr19 _ (List.mem_of_getElem? (i := 8) rfl)
theorem uw441 : Cond.methodLink RX5 184 yX7_letterAt ∈ wsL_law := lr19 _ (List.mem_of_getElem? (i := 9) rfl)
theorem uw442 : Cond.methodLink RX5 157 yX5_winRound ∈ wsL_law := lr19 _ (List.mem_of_getElem? (i := 10) rfl)
theorem uw443 : Cond.instanceMethod yX5_winRound ∈ wsL_law := lr19 _ (List.mem_of_getElem? (i := 11) rfl)
theorem uw444 : Cond.selects RX5 yX5_winRound yX5_winRound ∈ wsL_law := lr19 _ (List.mem_of_getElem? (i := 12) rfl)
theorem uw445 : Cond.code yX5_winRound cX5_winRound 1 none ∈ wsL_law := lr19 _ (List.mem_of_getElem? (i := 13) rfl)
theorem uw446 : Cond.fieldLink RX5 174 "GuessingHall$Bench" "won" "LGuessingHall$Row;" ∈ wsL_law := lr19 _ (List.mem_of_getElem? (i := 14) rfl)
theorem uw447 : Cond.methodLink RL 43 yX9_guess ∈ wsL_law := lr19 _ (List.mem_of_getElem? (i := 15) rfl)
theorem uw448 : Cond.instanceMethod yX9_guess ∈ wsL_law := lr19 _ (List.mem_of_getElem? (i := 16) rfl)
theorem uw449 : Cond.selects RX9 yX9_guess yX9_guess ∈ wsL_law := lr19 _ (List.mem_of_getElem? (i := 17) rfl)
theorem uw450 : Cond.code yX9_guess cX9_guess 5 (some .int) ∈ wsL_law := lr19 _ (List.mem_of_getElem? (i := 18) rfl)
theorem uw451 : Cond.methodLink RX9 85 yX9_places ∈ wsL_law := lr19 _ (List.mem_of_getElem? (i := 19) rfl)
theorem uw452 : Cond.instanceMethod yX9_places ∈ wsL_law := lr19 _ (List.mem_of_getElem? (i := 20) rfl)
theorem uw453 : Cond.selects RX9 yX9_places yX9_places ∈ wsL_law := lr19 _ (List.mem_of_getElem? (i := 21) rfl)
theorem uw454 : Cond.code yX9_places cX9_places 5 (some .int) ∈ wsL_law := lr19 _ (List.mem_of_getElem? (i := 22) rfl)
theorem uw455 : Cond.methodLink RX9 33 yX9_letterAt ∈ wsL_law := lr19 _ (List.mem_of_getElem? (i := 23) rfl)
theorem lr20 : ∀ w ∈ wsL_law_r20, w ∈ wsL_law := fun _ h => List.mem_append_left _ (List.mem_append_left _ (List.mem_append_left _ (List.mem_append_left _ (List.mem_append_left _ (List.mem_append_left _ (List.mem_append_left _ (List.mem_append_left _ (List.mem_append_left _ (List.mem_append_left _ (List.mem_append_left _ (List.mem_append_right _ (List.mem_append_right _ (List.mem_append_right _ (List.mem_append_right _ (List.mem_append_right _ (List.mem_append_right _ (List.mem_append_right _ (List.mem_append_right _ (List.mem_append_right _ (List.mem_append_right _ (List.mem_append_right _ (List.mem_append_right _ (List.mem_append_right _ (List.mem_append_right _ (List.mem_append_right _ (List.mem_append_right _ (List.mem_append_right _ (List.mem_append_right _ (List.mem_append_right _ (List.mem_append_left _ h))))))))))))))))))))))))))))))
theorem uw456 : Cond.instanceMethod yX9_letterAt ∈ wsL_law := lr20 _ (List.mem_of_getElem? (i := 0) rfl)
theorem uw457 : Cond.selects RX9 yX9_letterAt yX9_letterAt ∈ wsL_law := lr20 _ (List.mem_of_getElem? (i := 1) rfl)
theorem uw458 : Cond.code yX9_letterAt cX9_letterAt 3 (some .int) ∈ wsL_law := lr20 _ (List.mem_of_getElem? (i := 2) rfl)
theorem uw459 : Cond.methodLink RX9 88 yX9_misses ∈ wsL_law := lr20 _ (List.mem_of_getElem? (i := 3) rfl)
theorem uw460 : Cond.instanceMethod yX9_misses ∈ wsL_law := lr20 _ (List.mem_of_getElem? (i := 4) rfl)
theorem uw461 : Cond.selects RX9 yX9_misses yX9_misses ∈ wsL_law := lr20 _ (List.mem_of_getElem? (i := 5) rfl)
theorem uw462 : Cond.code yX9_misses cX9_misses 1 none ∈ wsL_law := lr20 _ (List.mem_of_getElem? (i := 6) rfl)
theorem uw463 : Cond.methodLink RX9 78 yX9_ends ∈ wsL_law := lr20 _ (List.mem_of_getElem? (i := 7) rfl)
theorem uw464 : Cond.instanceMethod yX9_ends ∈ wsL_law := lr20 _ (List.mem_of_getElem? (i := 8) rfl)
theorem uw465 : Cond.selects RX9 yX9_ends yX9_ends ∈ wsL_law := lr20 _ (List.mem_of_getElem? (i := 9) rfl)
theorem uw466 : Cond.code yX9_ends cX9_ends 3 none ∈ wsL_law := lr20 _ (List.mem_of_getElem? (i := 10) rfl)
theorem uw467 : Cond.methodLink RX9 91 yX9_hits ∈ wsL_law := lr20 _ (List.mem_of_getElem? (i := 11) rfl)
theorem uw468 : Cond.instanceMethod yX9_hits ∈ wsL_law := lr20 _ (List.mem_of_getElem? (i := 12) rfl)
theorem uw469 : Cond.selects RX9 yX9_hits yX9_hits ∈ wsL_law := lr20 _ (List.mem_of_getElem? (i := 13) rfl)
theorem uw470 : Cond.code yX9_hits cX9_hits 7 none ∈ wsL_law := lr20 _ (List.mem_of_getElem? (i := 14) rfl)
theorem uw471 : Cond.methodLink RX9 82 yX9_ones ∈ wsL_law := lr20 _ (List.mem_of_getElem? (i := 15) rfl)
theorem uw472 : Cond.static yX9_ones ∈ wsL_law := lr20 _ (List.mem_of_getElem? (i := 16) rfl)
theorem uw473 : Cond.code yX9_ones cX9_ones 3 (some .int) ∈ wsL_law := lr20 _ (List.mem_of_getElem? (i := 17) rfl)
theorem uw474 : Cond.methodLink RL 44 yX8_tell ∈ wsL_law := lr20 _ (List.mem_of_getElem? (i := 18) rfl)
theorem uw475 : Cond.instanceMethod yX8_tell ∈ wsL_law := lr20 _ (List.mem_of_getElem? (i := 19) rfl)
theorem uw476 : Cond.selects RX8 yX8_tell yX8_tell ∈ wsL_law := lr20 _ (List.mem_of_getElem? (i := 20) rfl)
theorem uw477 : Cond.code yX8_tell cX8_tell 2 (some .int) ∈ wsL_law := lr20 _ (List.mem_of_getElem? (i := 21) rfl)
theorem uw478 : Cond.methodLink RX8 125 yX5_tellWord ∈ wsL_law := lr20 _ (List.mem_of_getElem? (i := 22) rfl)
theorem uw479 : Cond.instanceMethod yX5_tellWord ∈ wsL_law := lr20 _ (List.mem_of_getElem? (i := 23) rfl)
theorem lr21 : ∀ w ∈ wsL_law_r21, w ∈ wsL_law := fun _ h => List.mem_append_left _ (List.mem_append_left _ (List.mem_append_left _ (List.mem_append_left _ (List.mem_append_left _ (List.mem_append_left _ (List.mem_append_left _ (List.mem_append_left _ (List.mem_append_left _ (List.mem_append_left _ (List.mem_append_left _ (List.mem_append_right _ (List.mem_append_right _ (List.mem_append_right _ (List.mem_append_right _ (List.mem_append_right _ (List.mem_append_right _ (List.mem_append_right _ (List.mem_append_right _ (List.mem_append_right _ (List.mem_append_right _ (List.mem_append_right _ (List.mem_append_right _ (List.mem_append_right _ (List.mem_append_right _ (List.mem_append_right _ (List.mem_append_right _ (List.mem_append_right _ (List.mem_append_right _ (List.mem_append_right _ (List.mem_append_right _ (List.mem_append_left _ h)))))))))))))))))))))))))))))))
theorem uw480 : Cond.selects RX5 yX5_tellWord yX5_tellWord ∈ wsL_law := lr21 _ (List.mem_of_getElem? (i := 0) rfl)
theorem uw481 : Cond.code yX5_tellWord cX5_tellWord 2 (some .boolean) ∈ wsL_law := lr21 _ (List.mem_of_getElem? (i := 1) rfl)
theorem uw482 : Cond.methodLink RL 47 yX9_tell ∈ wsL_law := lr21 _ (List.mem_of_getElem? (i := 2) rfl)
theorem uw483 : Cond.instanceMethod yX9_tell ∈ wsL_law := lr21 _ (List.mem_of_getElem? (i := 3) rfl)
theorem uw484 : Cond.selects RX9 yX9_tell yX9_tell ∈ wsL_law := lr21 _ (List.mem_of_getElem? (i := 4) rfl)
theorem uw485 : Cond.code yX9_tell cX9_tell 3 (some .int) ∈ wsL_law := lr21 _ (List.mem_of_getElem? (i := 5) rfl)
theorem uw486 : Cond.methodLink RL 48 yX8_whisper ∈ wsL_law := lr21 _ (List.mem_of_getElem? (i := 6) rfl)
theorem uw487 : Cond.instanceMethod yX8_whisper ∈ wsL_law := lr21 _ (List.mem_of_getElem? (i := 7) rfl)
theorem uw488 : Cond.selects RX8 yX8_whisper yX8_whisper ∈ wsL_law := lr21 _ (List.mem_of_getElem? (i := 8) rfl)
theorem uw489 : Cond.code yX8_whisper cX8_whisper 5 (some .int) ∈ wsL_law := lr21 _ (List.mem_of_getElem? (i := 9) rfl)
theorem uw490 : Cond.methodLink RX8 128 Lib.Math.abs.name ∈ wsL_law := lr21 _ (List.mem_of_getElem? (i := 10) rfl)
theorem uw491 : Cond.static Lib.Math.abs.name ∈ wsL_law := lr21 _ (List.mem_of_getElem? (i := 11) rfl)
theorem uw492 : Cond.code Lib.Math.abs.name Lib.Math.abs.code 1 (some .int) ∈ wsL_law := lr21 _ (List.mem_of_getElem? (i := 12) rfl)
theorem uw493 : Cond.fieldLink RX8 133 "GuessingHall$Bench" "hint" "LGuessingHall$Row;" ∈ wsL_law := lr21 _ (List.mem_of_getElem? (i := 13) rfl)
theorem uw494 : Cond.fieldLink RX8 136 "GuessingHall$Bench" "whisperer" "LGuessingHall$Row;" ∈ wsL_law := lr21 _ (List.mem_of_getElem? (i := 14) rfl)
theorem uw495 : Cond.methodLink RL 51 yX9_whisper ∈ wsL_law := lr21 _ (List.mem_of_getElem? (i := 15) rfl)
theorem uw496 : Cond.instanceMethod yX9_whisper ∈ wsL_law := lr21 _ (List.mem_of_getElem? (i := 16) rfl)
theorem uw497 : Cond.selects RX9 yX9_whisper yX9_whisper ∈ wsL_law := lr21 _ (List.mem_of_getElem? (i := 17) rfl)
theorem uw498 : Cond.code yX9_whisper cX9_whisper 6 (some .int) ∈ wsL_law := lr21 _ (List.mem_of_getElem? (i := 18) rfl)
theorem uw499 : Cond.methodLink RL 52 yX8_wordOf ∈ wsL_law := lr21 _ (List.mem_of_getElem? (i := 19) rfl)
theorem uw500 : Cond.instanceMethod yX8_wordOf ∈ wsL_law := lr21 _ (List.mem_of_getElem? (i := 20) rfl)
theorem uw501 : Cond.selects RX8 yX8_wordOf yX8_wordOf ∈ wsL_law := lr21 _ (List.mem_of_getElem? (i := 21) rfl)
theorem uw502 : Cond.code yX8_wordOf cX8_wordOf 4 (some .int) ∈ wsL_law := lr21 _ (List.mem_of_getElem? (i := 22) rfl)
theorem uw503 : Cond.fieldLink RX8 142 "GuessingHall$Words" "drawn" "LGuessingHall$Row;" ∈ wsL_law := lr21 _ (List.mem_of_getElem? (i := 23) rfl)
theorem lr22 : ∀ w ∈ wsL_law_r22, w ∈ wsL_law := fun _ h => List.mem_append_left _ (List.mem_append_left _ (List.mem_append_left _ (List.mem_append_left _ (List.mem_append_left _ (List.mem_append_left _ (List.mem_append_left _ (List.mem_append_left _ (List.mem_append_left _ (List.mem_append_left _ (List.mem_append_left _ (List.mem_append_right _ (List.mem_append_right _ (List.mem_append_right _ (List.mem_append_right _ (List.mem_append_right _ (List.mem_append_right _ (List.mem_append_right _ (List.mem_append_right _ (List.mem_append_right _ (List.mem_append_right _ (List.mem_append_right _ (List.mem_append_right _ (List.mem_append_right _ (List.mem_append_right _ (List.mem_append_right _ (List.mem_append_right _ (List.mem_append_right _ (List.mem_append_right _ (List.mem_append_right _ (List.mem_append_right _ (List.mem_append_right _ (List.mem_append_left _ h))))))))))))))))))))))))))))))))
theorem uw504 : Cond.methodLink RX8 139 yX7_letterSet ∈ wsL_law := lr22 _ (List.mem_of_getElem? (i := 0) rfl)
theorem uw505 : Cond.instanceMethod yX7_letterSet ∈ wsL_law := lr22 _ (List.mem_of_getElem? (i := 1) rfl)
theorem uw506 : Cond.selects RX7 yX7_letterSet yX7_letterSet ∈ wsL_law := lr22 _ (List.mem_of_getElem? (i := 2) rfl)
theorem uw507 : Cond.code yX7_letterSet cX7_letterSet 5 (some .int) ∈ wsL_law := lr22 _ (List.mem_of_getElem? (i := 3) rfl)
theorem uw508 : Cond.methodLink RX8 145 yX8_fitOf ∈ wsL_law := lr22 _ (List.mem_of_getElem? (i := 4) rfl)
theorem uw509 : Cond.instanceMethod yX8_fitOf ∈ wsL_law := lr22 _ (List.mem_of_getElem? (i := 5) rfl)
theorem uw510 : Cond.selects RX8 yX8_fitOf yX8_fitOf ∈ wsL_law := lr22 _ (List.mem_of_getElem? (i := 6) rfl)
theorem uw511 : Cond.code yX8_fitOf cX8_fitOf 2 (some .int) ∈ wsL_law := lr22 _ (List.mem_of_getElem? (i := 7) rfl)
theorem uw512 : Cond.methodLink RX8 196 yX5_fitting ∈ wsL_law := lr22 _ (List.mem_of_getElem? (i := 8) rfl)
theorem uw513 : Cond.instanceMethod yX5_fitting ∈ wsL_law := lr22 _ (List.mem_of_getElem? (i := 9) rfl)
theorem uw514 : Cond.selects RX5 yX5_fitting yX5_fitting ∈ wsL_law := lr22 _ (List.mem_of_getElem? (i := 10) rfl)
theorem uw515 : Cond.code yX5_fitting cX5_fitting 1 (some .int) ∈ wsL_law := lr22 _ (List.mem_of_getElem? (i := 11) rfl)
theorem uw516 : Cond.methodLink RX5 191 yX7_fitting ∈ wsL_law := lr22 _ (List.mem_of_getElem? (i := 12) rfl)
theorem uw517 : Cond.instanceMethod yX7_fitting ∈ wsL_law := lr22 _ (List.mem_of_getElem? (i := 13) rfl)
theorem uw518 : Cond.selects RX7 yX7_fitting yX7_fitting ∈ wsL_law := lr22 _ (List.mem_of_getElem? (i := 14) rfl)
theorem uw519 : Cond.code yX7_fitting cX7_fitting 5 (some .int) ∈ wsL_law := lr22 _ (List.mem_of_getElem? (i := 15) rfl)
theorem uw520 : Cond.methodLink RX7 61 yX7_looksLike ∈ wsL_law := lr22 _ (List.mem_of_getElem? (i := 16) rfl)
theorem uw521 : Cond.instanceMethod yX7_looksLike ∈ wsL_law := lr22 _ (List.mem_of_getElem? (i := 17) rfl)
theorem uw522 : Cond.selects RX7 yX7_looksLike yX7_looksLike ∈ wsL_law := lr22 _ (List.mem_of_getElem? (i := 18) rfl)
theorem uw523 : Cond.code yX7_looksLike cX7_looksLike 9 (some .boolean) ∈ wsL_law := lr22 _ (List.mem_of_getElem? (i := 19) rfl)
theorem uw524 : Cond.methodLink RX8 170 yX8_holds ∈ wsL_law := lr22 _ (List.mem_of_getElem? (i := 20) rfl)
theorem uw525 : Cond.methodLink RX8 148 yX8_letterAtCode ∈ wsL_law := lr22 _ (List.mem_of_getElem? (i := 21) rfl)
theorem uw526 : Cond.instanceMethod yX8_letterAtCode ∈ wsL_law := lr22 _ (List.mem_of_getElem? (i := 22) rfl)
theorem uw527 : Cond.selects RX8 yX8_letterAtCode yX8_letterAtCode ∈ wsL_law := lr22 _ (List.mem_of_getElem? (i := 23) rfl)
theorem lr23 : ∀ w ∈ wsL_law_r23, w ∈ wsL_law := fun _ h => List.mem_append_left _ (List.mem_append_left _ (List.mem_append_left _ (List.mem_append_left _ (List.mem_append_left _ (List.mem_append_left _ (List.mem_append_left _ (List.mem_append_left _ (List.mem_append_left _ (List.mem_append_left _ (List.mem_append_left _ (List.mem_append_right _ (List.mem_append_right _ (List.mem_append_right _ (List.mem_append_right _ (List.mem_append_right _ (List.mem_append_right _ (List.mem_append_right _ (List.mem_append_right _ (List.mem_append_right _ (List.mem_append_right _ (List.mem_append_right _ (List.mem_append_right _ (List.mem_append_right _ (List.mem_append_right _ (List.mem_append_right _ (List.mem_append_right _ (List.mem_append_right _ (List.mem_append_right _ (List.mem_append_right _ (List.mem_append_right _ (List.mem_append_right _ (List.mem_append_right _ (List.mem_append_left _ h)))))))))))))))))))))))))))))))))
theorem uw528 : Cond.code yX8_letterAtCode cX8_letterAtCode 3 (some .int) ∈ wsL_law := lr23 _ (List.mem_of_getElem? (i := 0) rfl)
theorem uw529 : Cond.methodLink RX8 164 yX7_letterAt ∈ wsL_law := lr23 _ (List.mem_of_getElem? (i := 1) rfl)
theorem uw530 : Cond.methodLink RL 55 yX9_wordOf ∈ wsL_law := lr23 _ (List.mem_of_getElem? (i := 2) rfl)
theorem uw531 : Cond.instanceMethod yX9_wordOf ∈ wsL_law := lr23 _ (List.mem_of_getElem? (i := 3) rfl)
theorem uw532 : Cond.selects RX9 yX9_wordOf yX9_wordOf ∈ wsL_law := lr23 _ (List.mem_of_getElem? (i := 4) rfl)
theorem uw533 : Cond.code yX9_wordOf cX9_wordOf 3 (some .int) ∈ wsL_law := lr23 _ (List.mem_of_getElem? (i := 5) rfl)
theorem uw534 : Cond.methodLink RX9 116 yX9_lettersOf ∈ wsL_law := lr23 _ (List.mem_of_getElem? (i := 6) rfl)
theorem uw535 : Cond.instanceMethod yX9_lettersOf ∈ wsL_law := lr23 _ (List.mem_of_getElem? (i := 7) rfl)
theorem uw536 : Cond.selects RX9 yX9_lettersOf yX9_lettersOf ∈ wsL_law := lr23 _ (List.mem_of_getElem? (i := 8) rfl)
theorem uw537 : Cond.code yX9_lettersOf cX9_lettersOf 4 (some .int) ∈ wsL_law := lr23 _ (List.mem_of_getElem? (i := 9) rfl)
theorem uw538 : Cond.methodLink RX9 95 yX9_fitsOne ∈ wsL_law := lr23 _ (List.mem_of_getElem? (i := 10) rfl)
theorem uw539 : Cond.instanceMethod yX9_fitsOne ∈ wsL_law := lr23 _ (List.mem_of_getElem? (i := 11) rfl)
theorem uw540 : Cond.selects RX9 yX9_fitsOne yX9_fitsOne ∈ wsL_law := lr23 _ (List.mem_of_getElem? (i := 12) rfl)
theorem uw541 : Cond.code yX9_fitsOne cX9_fitsOne 6 (some .boolean) ∈ wsL_law := lr23 _ (List.mem_of_getElem? (i := 13) rfl)
theorem uw542 : Cond.methodLink RL 56 yX8_playerOf ∈ wsL_law := lr23 _ (List.mem_of_getElem? (i := 14) rfl)
theorem uw543 : Cond.instanceMethod yX8_playerOf ∈ wsL_law := lr23 _ (List.mem_of_getElem? (i := 15) rfl)
theorem uw544 : Cond.selects RX8 yX8_playerOf yX8_playerOf ∈ wsL_law := lr23 _ (List.mem_of_getElem? (i := 16) rfl)
theorem uw545 : Cond.code yX8_playerOf cX8_playerOf 4 (some .int) ∈ wsL_law := lr23 _ (List.mem_of_getElem? (i := 17) rfl)
theorem uw546 : Cond.fieldLink RX8 152 "GuessingHall$Bench" "won" "LGuessingHall$Row;" ∈ wsL_law := lr23 _ (List.mem_of_getElem? (i := 18) rfl)
theorem uw547 : Cond.fieldLink RX8 155 "GuessingHall$Bench" "hits" "LGuessingHall$Row;" ∈ wsL_law := lr23 _ (List.mem_of_getElem? (i := 19) rfl)
theorem uw548 : Cond.fieldLink RX8 158 "GuessingHall$Bench" "misses" "LGuessingHall$Row;" ∈ wsL_law := lr23 _ (List.mem_of_getElem? (i := 20) rfl)
theorem uw549 : Cond.methodLink RX8 161 yX0_hasHint ∈ wsL_law := lr23 _ (List.mem_of_getElem? (i := 21) rfl)
theorem uw550 : Cond.instanceMethod yX0_hasHint ∈ wsL_law := lr23 _ (List.mem_of_getElem? (i := 22) rfl)
theorem uw551 : Cond.selects RX0 yX0_hasHint yX0_hasHint ∈ wsL_law := lr23 _ (List.mem_of_getElem? (i := 23) rfl)
theorem lr24 : ∀ w ∈ wsL_law_r24, w ∈ wsL_law := fun _ h => List.mem_append_left _ (List.mem_append_left _ (List.mem_append_left _ (List.mem_append_left _ (List.mem_append_left _ (List.mem_append_left _ (List.mem_append_left _ (List.mem_append_left _ (List.mem_append_left _ (List.mem_append_left _ (List.mem_append_left _ (List.mem_append_right _ (List.mem_append_right _ (List.mem_append_right _ (List.mem_append_right _ (List.mem_append_right _ (List.mem_append_right _ (List.mem_append_right _ (List.mem_append_right _ (List.mem_append_right _ (List.mem_append_right _ (List.mem_append_right _ (List.mem_append_right _ (List.mem_append_right _ (List.mem_append_right _ (List.mem_append_right _ (List.mem_append_right _ (List.mem_append_right _ (List.mem_append_right _ (List.mem_append_right _ (List.mem_append_right _ (List.mem_append_right _ (List.mem_append_right _ (List.mem_append_right _ (List.mem_append_left _ h))))))))))))))))))))))))))))))))))
theorem uw552 : Cond.code yX0_hasHint cX0_hasHint 2 (some .boolean) ∈ wsL_law := lr24 _ (List.mem_of_getElem? (i := 0) rfl)
theorem uw553 : Cond.methodLink RL 59 yX9_playerOf ∈ wsL_law := lr24 _ (List.mem_of_getElem? (i := 1) rfl)
theorem uw554 : Cond.instanceMethod yX9_playerOf ∈ wsL_law := lr24 _ (List.mem_of_getElem? (i := 2) rfl)
theorem uw555 : Cond.selects RX9 yX9_playerOf yX9_playerOf ∈ wsL_law := lr24 _ (List.mem_of_getElem? (i := 3) rfl)
theorem uw556 : Cond.code yX9_playerOf cX9_playerOf 3 (some .int) ∈ wsL_law := lr24 _ (List.mem_of_getElem? (i := 4) rfl)
theorem uw557 : Cond.methodLink RL 60 yX8_open ∈ wsL_law := lr24 _ (List.mem_of_getElem? (i := 5) rfl)
theorem uw558 : Cond.instanceMethod yX8_open ∈ wsL_law := lr24 _ (List.mem_of_getElem? (i := 6) rfl)
theorem uw559 : Cond.selects RX8 yX8_open yX8_open ∈ wsL_law := lr24 _ (List.mem_of_getElem? (i := 7) rfl)
theorem uw560 : Cond.code yX8_open cX8_open 3 (some .int) ∈ wsL_law := lr24 _ (List.mem_of_getElem? (i := 8) rfl)
theorem uw561 : Cond.fieldLink RX8 167 "GuessingHall$Round" "guessed" "I" ∈ wsL_law := lr24 _ (List.mem_of_getElem? (i := 9) rfl)
theorem uw562 : Cond.methodLink RL 63 yX9_open ∈ wsL_law := lr24 _ (List.mem_of_getElem? (i := 10) rfl)
theorem uw563 : Cond.instanceMethod yX9_open ∈ wsL_law := lr24 _ (List.mem_of_getElem? (i := 11) rfl)
theorem uw564 : Cond.selects RX9 yX9_open yX9_open ∈ wsL_law := lr24 _ (List.mem_of_getElem? (i := 12) rfl)
theorem uw565 : Cond.code yX9_open cX9_open 2 (some .int) ∈ wsL_law := lr24 _ (List.mem_of_getElem? (i := 13) rfl)
theorem uw566 : Cond.methodLink RL 64 yX8_round ∈ wsL_law := lr24 _ (List.mem_of_getElem? (i := 14) rfl)
theorem uw567 : Cond.instanceMethod yX8_round ∈ wsL_law := lr24 _ (List.mem_of_getElem? (i := 15) rfl)
theorem uw568 : Cond.selects RX8 yX8_round yX8_round ∈ wsL_law := lr24 _ (List.mem_of_getElem? (i := 16) rfl)
theorem uw569 : Cond.code yX8_round cX8_round 3 (some .int) ∈ wsL_law := lr24 _ (List.mem_of_getElem? (i := 17) rfl)
theorem uw570 : Cond.fieldLink RX8 174 "GuessingHall$State" "past" "LGuessingHall$PastRounds;" ∈ wsL_law := lr24 _ (List.mem_of_getElem? (i := 18) rfl)
theorem uw571 : Cond.fieldLink RX8 178 "GuessingHall$PastRounds" "size" "I" ∈ wsL_law := lr24 _ (List.mem_of_getElem? (i := 19) rfl)
theorem uw572 : Cond.fieldLink RX8 181 "GuessingHall$PastRounds" "word" "LGuessingHall$Row;" ∈ wsL_law := lr24 _ (List.mem_of_getElem? (i := 20) rfl)
theorem uw573 : Cond.fieldLink RX8 183 "GuessingHall$PastRounds" "winner" "LGuessingHall$Row;" ∈ wsL_law := lr24 _ (List.mem_of_getElem? (i := 21) rfl)
theorem uw574 : Cond.fieldLink RX8 186 "GuessingHall$PastRounds" "misses" "LGuessingHall$Row;" ∈ wsL_law := lr24 _ (List.mem_of_getElem? (i := 22) rfl)
theorem uw575 : Cond.fieldLink RX8 187 "GuessingHall$PastRounds" "stake" "LGuessingHall$Row;" ∈ wsL_law := lr24 _ (List.mem_of_getElem? (i := 23) rfl)
theorem lr25 : ∀ w ∈ wsL_law_r25, w ∈ wsL_law := fun _ h => List.mem_append_left _ (List.mem_append_left _ (List.mem_append_left _ (List.mem_append_left _ (List.mem_append_left _ (List.mem_append_left _ (List.mem_append_left _ (List.mem_append_left _ (List.mem_append_left _ (List.mem_append_left _ (List.mem_append_left _ (List.mem_append_right _ (List.mem_append_right _ (List.mem_append_right _ (List.mem_append_right _ (List.mem_append_right _ (List.mem_append_right _ (List.mem_append_right _ (List.mem_append_right _ (List.mem_append_right _ (List.mem_append_right _ (List.mem_append_right _ (List.mem_append_right _ (List.mem_append_right _ (List.mem_append_right _ (List.mem_append_right _ (List.mem_append_right _ (List.mem_append_right _ (List.mem_append_right _ (List.mem_append_right _ (List.mem_append_right _ (List.mem_append_right _ (List.mem_append_right _ (List.mem_append_right _ (List.mem_append_right _ (List.mem_append_left _ h)))))))))))))))))))))))))))))))))))
theorem uw576 : Cond.methodLink RL 67 yX9_round ∈ wsL_law := lr25 _ (List.mem_of_getElem? (i := 0) rfl)
theorem uw577 : Cond.instanceMethod yX9_round ∈ wsL_law := lr25 _ (List.mem_of_getElem? (i := 1) rfl)
theorem uw578 : Cond.selects RX9 yX9_round yX9_round ∈ wsL_law := lr25 _ (List.mem_of_getElem? (i := 2) rfl)
theorem uw579 : Cond.code yX9_round cX9_round 3 (some .int) ∈ wsL_law := lr25 _ (List.mem_of_getElem? (i := 3) rfl)
theorem uw580 : Cond.methodLink RL 68 yX8_count ∈ wsL_law := lr25 _ (List.mem_of_getElem? (i := 4) rfl)
theorem uw581 : Cond.instanceMethod yX8_count ∈ wsL_law := lr25 _ (List.mem_of_getElem? (i := 5) rfl)
theorem uw582 : Cond.selects RX8 yX8_count yX8_count ∈ wsL_law := lr25 _ (List.mem_of_getElem? (i := 6) rfl)
theorem uw583 : Cond.code yX8_count cX8_count 2 (some .int) ∈ wsL_law := lr25 _ (List.mem_of_getElem? (i := 7) rfl)
theorem uw584 : Cond.methodLink RX8 190 yX8_countOfRound ∈ wsL_law := lr25 _ (List.mem_of_getElem? (i := 8) rfl)
theorem uw585 : Cond.instanceMethod yX8_countOfRound ∈ wsL_law := lr25 _ (List.mem_of_getElem? (i := 9) rfl)
theorem uw586 : Cond.selects RX8 yX8_countOfRound yX8_countOfRound ∈ wsL_law := lr25 _ (List.mem_of_getElem? (i := 10) rfl)
theorem uw587 : Cond.code yX8_countOfRound cX8_countOfRound 2 (some .int) ∈ wsL_law := lr25 _ (List.mem_of_getElem? (i := 11) rfl)
theorem uw588 : Cond.fieldLink RX8 266 "GuessingHall$Round" "turn" "I" ∈ wsL_law := lr25 _ (List.mem_of_getElem? (i := 12) rfl)
theorem uw589 : Cond.fieldLink RX8 269 "GuessingHall$Round" "pot" "I" ∈ wsL_law := lr25 _ (List.mem_of_getElem? (i := 13) rfl)
theorem uw590 : Cond.fieldLink RX8 272 "GuessingHall$Round" "misses" "I" ∈ wsL_law := lr25 _ (List.mem_of_getElem? (i := 14) rfl)
theorem uw591 : Cond.methodLink RX8 274 yX5_openPlaces ∈ wsL_law := lr25 _ (List.mem_of_getElem? (i := 15) rfl)
theorem uw592 : Cond.methodLink RX8 193 yX8_countOfHall ∈ wsL_law := lr25 _ (List.mem_of_getElem? (i := 16) rfl)
theorem uw593 : Cond.instanceMethod yX8_countOfHall ∈ wsL_law := lr25 _ (List.mem_of_getElem? (i := 17) rfl)
theorem uw594 : Cond.selects RX8 yX8_countOfHall yX8_countOfHall ∈ wsL_law := lr25 _ (List.mem_of_getElem? (i := 18) rfl)
theorem uw595 : Cond.code yX8_countOfHall cX8_countOfHall 2 (some .int) ∈ wsL_law := lr25 _ (List.mem_of_getElem? (i := 19) rfl)
theorem uw596 : Cond.fieldLink RX8 228 "GuessingHall$Words" "size" "I" ∈ wsL_law := lr25 _ (List.mem_of_getElem? (i := 20) rfl)
theorem uw597 : Cond.fieldLink RX8 277 "GuessingHall$State" "rounds" "I" ∈ wsL_law := lr25 _ (List.mem_of_getElem? (i := 21) rfl)
theorem uw598 : Cond.fieldLink RX8 280 "GuessingHall$State" "house" "I" ∈ wsL_law := lr25 _ (List.mem_of_getElem? (i := 22) rfl)
theorem uw599 : Cond.fieldLink RX8 238 "GuessingHall$History" "size" "I" ∈ wsL_law := lr25 _ (List.mem_of_getElem? (i := 23) rfl)
theorem lr26 : ∀ w ∈ wsL_law_r26, w ∈ wsL_law := fun _ h => List.mem_append_left _ (List.mem_append_left _ (List.mem_append_left _ (List.mem_append_left _ (List.mem_append_left _ (List.mem_append_left _ (List.mem_append_left _ (List.mem_append_left _ (List.mem_append_left _ (List.mem_append_left _ (List.mem_append_left _ (List.mem_append_right _ (List.mem_append_right _ (List.mem_append_right _ (List.mem_append_right _ (List.mem_append_right _ (List.mem_append_right _ (List.mem_append_right _ (List.mem_append_right _ (List.mem_append_right _ (List.mem_append_right _ (List.mem_append_right _ (List.mem_append_right _ (List.mem_append_right _ (List.mem_append_right _ (List.mem_append_right _ (List.mem_append_right _ (List.mem_append_right _ (List.mem_append_right _ (List.mem_append_right _ (List.mem_append_right _ (List.mem_append_right _ (List.mem_append_right _ (List.mem_append_right _ (List.mem_append_right _ (List.mem_append_right _ (List.mem_append_left _ h))))))))))))))))))))))))))))))))))))
theorem uw600 : Cond.fieldLink RX8 242 "GuessingHall$Text" "length" "I" ∈ wsL_law := lr26 _ (List.mem_of_getElem? (i := 0) rfl)
theorem uw601 : Cond.methodLink RX8 283 yX7_weightSum ∈ wsL_law := lr26 _ (List.mem_of_getElem? (i := 1) rfl)
theorem uw602 : Cond.methodLink RL 71 yX9_count ∈ wsL_law := lr26 _ (List.mem_of_getElem? (i := 2) rfl)
theorem uw603 : Cond.instanceMethod yX9_count ∈ wsL_law := lr26 _ (List.mem_of_getElem? (i := 3) rfl)
theorem uw604 : Cond.selects RX9 yX9_count yX9_count ∈ wsL_law := lr26 _ (List.mem_of_getElem? (i := 4) rfl)
theorem uw605 : Cond.code yX9_count cX9_count 2 (some .int) ∈ wsL_law := lr26 _ (List.mem_of_getElem? (i := 5) rfl)
theorem uw606 : Cond.fieldLink RX9 119 "GuessingHallModel" "typed" "I" ∈ wsL_law := lr26 _ (List.mem_of_getElem? (i := 6) rfl)
theorem uw607 : Cond.fieldLink RX9 122 "GuessingHallModel" "isKept" "Z" ∈ wsL_law := lr26 _ (List.mem_of_getElem? (i := 7) rfl)
theorem uw608 : Cond.methodLink RL 72 yX8_fits ∈ wsL_law := lr26 _ (List.mem_of_getElem? (i := 8) rfl)
theorem uw609 : Cond.instanceMethod yX8_fits ∈ wsL_law := lr26 _ (List.mem_of_getElem? (i := 9) rfl)
theorem uw610 : Cond.selects RX8 yX8_fits yX8_fits ∈ wsL_law := lr26 _ (List.mem_of_getElem? (i := 10) rfl)
theorem uw611 : Cond.code yX8_fits cX8_fits 3 (some .int) ∈ wsL_law := lr26 _ (List.mem_of_getElem? (i := 11) rfl)
theorem uw612 : Cond.methodLink RX8 200 yJ6_bitCount_0f7a4 ∈ wsL_law := lr26 _ (List.mem_of_getElem? (i := 12) rfl)
theorem uw613 : Cond.methodLink RX8 205 yX7_weightOf ∈ wsL_law := lr26 _ (List.mem_of_getElem? (i := 13) rfl)
theorem uw614 : Cond.methodLink RX8 208 yX5_likeliestLetter ∈ wsL_law := lr26 _ (List.mem_of_getElem? (i := 14) rfl)
theorem uw615 : Cond.instanceMethod yX5_likeliestLetter ∈ wsL_law := lr26 _ (List.mem_of_getElem? (i := 15) rfl)
theorem uw616 : Cond.selects RX5 yX5_likeliestLetter yX5_likeliestLetter ∈ wsL_law := lr26 _ (List.mem_of_getElem? (i := 16) rfl)
theorem uw617 : Cond.code yX5_likeliestLetter cX5_likeliestLetter 6 (some .int) ∈ wsL_law := lr26 _ (List.mem_of_getElem? (i := 17) rfl)
theorem uw618 : Cond.methodLink RX5 194 yX3_takes ∈ wsL_law := lr26 _ (List.mem_of_getElem? (i := 18) rfl)
theorem uw619 : Cond.methodLink RX5 197 yX7_weightHaving ∈ wsL_law := lr26 _ (List.mem_of_getElem? (i := 19) rfl)
theorem uw620 : Cond.instanceMethod yX7_weightHaving ∈ wsL_law := lr26 _ (List.mem_of_getElem? (i := 20) rfl)
theorem uw621 : Cond.selects RX7 yX7_weightHaving yX7_weightHaving ∈ wsL_law := lr26 _ (List.mem_of_getElem? (i := 21) rfl)
theorem uw622 : Cond.code yX7_weightHaving cX7_weightHaving 5 (some .int) ∈ wsL_law := lr26 _ (List.mem_of_getElem? (i := 22) rfl)
theorem uw623 : Cond.methodLink RX7 65 yX7_placesOf ∈ wsL_law := lr26 _ (List.mem_of_getElem? (i := 23) rfl)
theorem lr27 : ∀ w ∈ wsL_law_r27, w ∈ wsL_law := fun _ h => List.mem_append_left _ (List.mem_append_left _ (List.mem_append_left _ (List.mem_append_left _ (List.mem_append_left _ (List.mem_append_left _ (List.mem_append_left _ (List.mem_append_left _ (List.mem_append_left _ (List.mem_append_left _ (List.mem_append_left _ (List.mem_append_right _ (List.mem_append_right _ (List.mem_append_right _ (List.mem_append_right _ (List.mem_append_right _ (List.mem_append_right _ (List.mem_append_right _ (List.mem_append_right _ (List.mem_append_right _ (List.mem_append_right _ (List.mem_append_right _ (List.mem_append_right _ (List.mem_append_right _ (List.mem_append_right _ (List.mem_append_right _ (List.mem_append_right _ (List.mem_append_right _ (List.mem_append_right _ (List.mem_append_right _ (List.mem_append_right _ (List.mem_append_right _ (List.mem_append_right _ (List.mem_append_right _ (List.mem_append_right _ (List.mem_append_right _ (List.mem_append_right _ (List.mem_append_left _ h)))))))))))))))))))))))))))))))))))))
theorem uw624 : Cond.methodLink RX8 211 yX7_weightHaving ∈ wsL_law := lr27 _ (List.mem_of_getElem? (i := 0) rfl)
theorem uw625 : Cond.methodLink RL 75 yX9_fits ∈ wsL_law := lr27 _ (List.mem_of_getElem? (i := 1) rfl)
theorem uw626 : Cond.instanceMethod yX9_fits ∈ wsL_law := lr27 _ (List.mem_of_getElem? (i := 2) rfl)
theorem uw627 : Cond.selects RX9 yX9_fits yX9_fits ∈ wsL_law := lr27 _ (List.mem_of_getElem? (i := 3) rfl)
theorem uw628 : Cond.code yX9_fits cX9_fits 3 (some .int) ∈ wsL_law := lr27 _ (List.mem_of_getElem? (i := 4) rfl)
theorem uw629 : Cond.methodLink RX9 101 yX9_fitting ∈ wsL_law := lr27 _ (List.mem_of_getElem? (i := 5) rfl)
theorem uw630 : Cond.instanceMethod yX9_fitting ∈ wsL_law := lr27 _ (List.mem_of_getElem? (i := 6) rfl)
theorem uw631 : Cond.selects RX9 yX9_fitting yX9_fitting ∈ wsL_law := lr27 _ (List.mem_of_getElem? (i := 7) rfl)
theorem uw632 : Cond.code yX9_fitting cX9_fitting 3 (some .int) ∈ wsL_law := lr27 _ (List.mem_of_getElem? (i := 8) rfl)
theorem uw633 : Cond.methodLink RX9 98 yX9_weightsOf ∈ wsL_law := lr27 _ (List.mem_of_getElem? (i := 9) rfl)
theorem uw634 : Cond.instanceMethod yX9_weightsOf ∈ wsL_law := lr27 _ (List.mem_of_getElem? (i := 10) rfl)
theorem uw635 : Cond.selects RX9 yX9_weightsOf yX9_weightsOf ∈ wsL_law := lr27 _ (List.mem_of_getElem? (i := 11) rfl)
theorem uw636 : Cond.code yX9_weightsOf cX9_weightsOf 6 (some .int) ∈ wsL_law := lr27 _ (List.mem_of_getElem? (i := 12) rfl)
theorem uw637 : Cond.methodLink RX9 104 yX9_bestLetter ∈ wsL_law := lr27 _ (List.mem_of_getElem? (i := 13) rfl)
theorem uw638 : Cond.instanceMethod yX9_bestLetter ∈ wsL_law := lr27 _ (List.mem_of_getElem? (i := 14) rfl)
theorem uw639 : Cond.selects RX9 yX9_bestLetter yX9_bestLetter ∈ wsL_law := lr27 _ (List.mem_of_getElem? (i := 15) rfl)
theorem uw640 : Cond.code yX9_bestLetter cX9_bestLetter 6 (some .int) ∈ wsL_law := lr27 _ (List.mem_of_getElem? (i := 16) rfl)
theorem uw641 : Cond.methodLink RL 76 yX8_letterOf ∈ wsL_law := lr27 _ (List.mem_of_getElem? (i := 17) rfl)
theorem uw642 : Cond.instanceMethod yX8_letterOf ∈ wsL_law := lr27 _ (List.mem_of_getElem? (i := 18) rfl)
theorem uw643 : Cond.selects RX8 yX8_letterOf yX8_letterOf ∈ wsL_law := lr27 _ (List.mem_of_getElem? (i := 19) rfl)
theorem uw644 : Cond.code yX8_letterOf cX8_letterOf 4 (some .int) ∈ wsL_law := lr27 _ (List.mem_of_getElem? (i := 20) rfl)
theorem uw645 : Cond.methodLink RX8 214 yX8_chanceOf ∈ wsL_law := lr27 _ (List.mem_of_getElem? (i := 21) rfl)
theorem uw646 : Cond.static yX8_chanceOf ∈ wsL_law := lr27 _ (List.mem_of_getElem? (i := 22) rfl)
theorem uw647 : Cond.code yX8_chanceOf cX8_chanceOf 2 (some .float) ∈ wsL_law := lr27 _ (List.mem_of_getElem? (i := 23) rfl)
theorem lr28 : ∀ w ∈ wsL_law_r28, w ∈ wsL_law := fun _ h => List.mem_append_left _ (List.mem_append_left _ (List.mem_append_left _ (List.mem_append_left _ (List.mem_append_left _ (List.mem_append_left _ (List.mem_append_left _ (List.mem_append_left _ (List.mem_append_left _ (List.mem_append_left _ (List.mem_append_left _ (List.mem_append_right _ (List.mem_append_right _ (List.mem_append_right _ (List.mem_append_right _ (List.mem_append_right _ (List.mem_append_right _ (List.mem_append_right _ (List.mem_append_right _ (List.mem_append_right _ (List.mem_append_right _ (List.mem_append_right _ (List.mem_append_right _ (List.mem_append_right _ (List.mem_append_right _ (List.mem_append_right _ (List.mem_append_right _ (List.mem_append_right _ (List.mem_append_right _ (List.mem_append_right _ (List.mem_append_right _ (List.mem_append_right _ (List.mem_append_right _ (List.mem_append_right _ (List.mem_append_right _ (List.mem_append_right _ (List.mem_append_right _ (List.mem_append_right _ (List.mem_append_left _ h))))))))))))))))))))))))))))))))))))))
theorem uw648 : Cond.methodLink RX8 218 yX8_bitsOf ∈ wsL_law := lr28 _ (List.mem_of_getElem? (i := 0) rfl)
theorem uw649 : Cond.static yX8_bitsOf ∈ wsL_law := lr28 _ (List.mem_of_getElem? (i := 1) rfl)
theorem uw650 : Cond.code yX8_bitsOf cX8_bitsOf 4 (some .int) ∈ wsL_law := lr28 _ (List.mem_of_getElem? (i := 2) rfl)
theorem uw651 : Cond.constantFloat RX8 292 (1258291200) ∈ wsL_law := lr28 _ (List.mem_of_getElem? (i := 3) rfl)
theorem uw652 : Cond.methodLink RX8 222 yX7_largestGroup ∈ wsL_law := lr28 _ (List.mem_of_getElem? (i := 4) rfl)
theorem uw653 : Cond.instanceMethod yX7_largestGroup ∈ wsL_law := lr28 _ (List.mem_of_getElem? (i := 5) rfl)
theorem uw654 : Cond.selects RX7 yX7_largestGroup yX7_largestGroup ∈ wsL_law := lr28 _ (List.mem_of_getElem? (i := 6) rfl)
theorem uw655 : Cond.code yX7_largestGroup cX7_largestGroup 5 (some .int) ∈ wsL_law := lr28 _ (List.mem_of_getElem? (i := 7) rfl)
theorem uw656 : Cond.methodLink RX7 72 Lib.Math.max.name ∈ wsL_law := lr28 _ (List.mem_of_getElem? (i := 8) rfl)
theorem uw657 : Cond.methodLink RX7 68 yX7_groupOf ∈ wsL_law := lr28 _ (List.mem_of_getElem? (i := 9) rfl)
theorem uw658 : Cond.instanceMethod yX7_groupOf ∈ wsL_law := lr28 _ (List.mem_of_getElem? (i := 10) rfl)
theorem uw659 : Cond.selects RX7 yX7_groupOf yX7_groupOf ∈ wsL_law := lr28 _ (List.mem_of_getElem? (i := 11) rfl)
theorem uw660 : Cond.code yX7_groupOf cX7_groupOf 7 (some .int) ∈ wsL_law := lr28 _ (List.mem_of_getElem? (i := 12) rfl)
theorem uw661 : Cond.methodLink RL 79 yX9_letterOf ∈ wsL_law := lr28 _ (List.mem_of_getElem? (i := 13) rfl)
theorem uw662 : Cond.instanceMethod yX9_letterOf ∈ wsL_law := lr28 _ (List.mem_of_getElem? (i := 14) rfl)
theorem uw663 : Cond.selects RX9 yX9_letterOf yX9_letterOf ∈ wsL_law := lr28 _ (List.mem_of_getElem? (i := 15) rfl)
theorem uw664 : Cond.code yX9_letterOf cX9_letterOf 5 (some .int) ∈ wsL_law := lr28 _ (List.mem_of_getElem? (i := 16) rfl)
theorem uw665 : Cond.methodLink RX9 107 yJxf58ca_floatToIntBits_5c35a ∈ wsL_law := lr28 _ (List.mem_of_getElem? (i := 17) rfl)
theorem uw666 : Cond.static yJxf58ca_floatToIntBits_5c35a ∈ wsL_law := lr28 _ (List.mem_of_getElem? (i := 18) rfl)
theorem uw667 : Cond.initialized RJxf58ca ∈ wsL_law := lr28 _ (List.mem_of_getElem? (i := 19) rfl)
theorem uw668 : Cond.code yJxf58ca_floatToIntBits_5c35a cJxf58ca_floatToIntBits_5c35a 1 (some .int) ∈ wsL_law := lr28 _ (List.mem_of_getElem? (i := 20) rfl)
theorem uw669 : Cond.methodLink RJxf58ca 74 ⟨"java/lang/Float", "floatToRawIntBits", "(F)I"⟩ ∈ wsL_law := lr28 _ (List.mem_of_getElem? (i := 21) rfl)
theorem uw670 : Cond.native ⟨"java/lang/Float", "floatToRawIntBits", "(F)I"⟩ ∈ wsL_law := lr28 _ (List.mem_of_getElem? (i := 22) rfl)
theorem uw671 : Cond.static ⟨"java/lang/Float", "floatToRawIntBits", "(F)I"⟩ ∈ wsL_law := lr28 _ (List.mem_of_getElem? (i := 23) rfl)
theorem lr29 : ∀ w ∈ wsL_law_r29, w ∈ wsL_law := fun _ h => List.mem_append_left _ (List.mem_append_left _ (List.mem_append_left _ (List.mem_append_left _ (List.mem_append_left _ (List.mem_append_left _ (List.mem_append_left _ (List.mem_append_left _ (List.mem_append_left _ (List.mem_append_left _ (List.mem_append_left _ (List.mem_append_right _ (List.mem_append_right _ (List.mem_append_right _ (List.mem_append_right _ (List.mem_append_right _ (List.mem_append_right _ (List.mem_append_right _ (List.mem_append_right _ (List.mem_append_right _ (List.mem_append_right _ (List.mem_append_right _ (List.mem_append_right _ (List.mem_append_right _ (List.mem_append_right _ (List.mem_append_right _ (List.mem_append_right _ (List.mem_append_right _ (List.mem_append_right _ (List.mem_append_right _ (List.mem_append_right _ (List.mem_append_right _ (List.mem_append_right _ (List.mem_append_right _ (List.mem_append_right _ (List.mem_append_right _ (List.mem_append_right _ (List.mem_append_right _ (List.mem_append_right _ (List.mem_append_left _ h)))))))))))))))))))))))))))))))))))))))
theorem uw672 : Cond.initialized "java/lang/Float" ∈ wsL_law := lr29 _ (List.mem_of_getElem? (i := 0) rfl)
theorem uw673 : Cond.constant RJxf58ca 77 (2143289344) ∈ wsL_law := lr29 _ (List.mem_of_getElem? (i := 1) rfl)
theorem uw674 : Cond.methodLink RJxf58ca 59 yJxf58ca_isNaN_12338 ∈ wsL_law := lr29 _ (List.mem_of_getElem? (i := 2) rfl)
theorem uw675 : Cond.static yJxf58ca_isNaN_12338 ∈ wsL_law := lr29 _ (List.mem_of_getElem? (i := 3) rfl)
theorem uw676 : Cond.code yJxf58ca_isNaN_12338 cJxf58ca_isNaN_12338 1 (some .boolean) ∈ wsL_law := lr29 _ (List.mem_of_getElem? (i := 4) rfl)
theorem uw677 : Cond.methodLink RX9 113 yX9_greatest ∈ wsL_law := lr29 _ (List.mem_of_getElem? (i := 5) rfl)
theorem uw678 : Cond.instanceMethod yX9_greatest ∈ wsL_law := lr29 _ (List.mem_of_getElem? (i := 6) rfl)
theorem uw679 : Cond.selects RX9 yX9_greatest yX9_greatest ∈ wsL_law := lr29 _ (List.mem_of_getElem? (i := 7) rfl)
theorem uw680 : Cond.code yX9_greatest cX9_greatest 7 (some .int) ∈ wsL_law := lr29 _ (List.mem_of_getElem? (i := 8) rfl)
theorem uw681 : Cond.methodLink RL 80 yX8_sharpest ∈ wsL_law := lr29 _ (List.mem_of_getElem? (i := 9) rfl)
theorem uw682 : Cond.instanceMethod yX8_sharpest ∈ wsL_law := lr29 _ (List.mem_of_getElem? (i := 10) rfl)
theorem uw683 : Cond.selects RX8 yX8_sharpest yX8_sharpest ∈ wsL_law := lr29 _ (List.mem_of_getElem? (i := 11) rfl)
theorem uw684 : Cond.code yX8_sharpest cX8_sharpest 1 (some .int) ∈ wsL_law := lr29 _ (List.mem_of_getElem? (i := 12) rfl)
theorem uw685 : Cond.methodLink RX8 225 yX5_sharpestLetter ∈ wsL_law := lr29 _ (List.mem_of_getElem? (i := 13) rfl)
theorem uw686 : Cond.instanceMethod yX5_sharpestLetter ∈ wsL_law := lr29 _ (List.mem_of_getElem? (i := 14) rfl)
theorem uw687 : Cond.selects RX5 yX5_sharpestLetter yX5_sharpestLetter ∈ wsL_law := lr29 _ (List.mem_of_getElem? (i := 15) rfl)
theorem uw688 : Cond.code yX5_sharpestLetter cX5_sharpestLetter 6 (some .int) ∈ wsL_law := lr29 _ (List.mem_of_getElem? (i := 16) rfl)
theorem uw689 : Cond.methodLink RX5 200 yX7_largestGroup ∈ wsL_law := lr29 _ (List.mem_of_getElem? (i := 17) rfl)
theorem uw690 : Cond.methodLink RL 84 yX9_sharpest ∈ wsL_law := lr29 _ (List.mem_of_getElem? (i := 18) rfl)
theorem uw691 : Cond.instanceMethod yX9_sharpest ∈ wsL_law := lr29 _ (List.mem_of_getElem? (i := 19) rfl)
theorem uw692 : Cond.selects RX9 yX9_sharpest yX9_sharpest ∈ wsL_law := lr29 _ (List.mem_of_getElem? (i := 20) rfl)
theorem uw693 : Cond.code yX9_sharpest cX9_sharpest 6 (some .int) ∈ wsL_law := lr29 _ (List.mem_of_getElem? (i := 21) rfl)
theorem uw694 : Cond.methodLink RL 85 yX8_next ∈ wsL_law := lr29 _ (List.mem_of_getElem? (i := 22) rfl)
theorem uw695 : Cond.instanceMethod yX8_next ∈ wsL_law := lr29 _ (List.mem_of_getElem? (i := 23) rfl)
theorem lr30 : ∀ w ∈ wsL_law_r30, w ∈ wsL_law := fun _ h => List.mem_append_left _ (List.mem_append_left _ (List.mem_append_left _ (List.mem_append_left _ (List.mem_append_left _ (List.mem_append_left _ (List.mem_append_left _ (List.mem_append_left _ (List.mem_append_left _ (List.mem_append_left _ (List.mem_append_left _ (List.mem_append_right _ (List.mem_append_right _ (List.mem_append_right _ (List.mem_append_right _ (List.mem_append_right _ (List.mem_append_right _ (List.mem_append_right _ (List.mem_append_right _ (List.mem_append_right _ (List.mem_append_right _ (List.mem_append_right _ (List.mem_append_right _ (List.mem_append_right _ (List.mem_append_right _ (List.mem_append_right _ (List.mem_append_right _ (List.mem_append_right _ (List.mem_append_right _ (List.mem_append_right _ (List.mem_append_right _ (List.mem_append_right _ (List.mem_append_right _ (List.mem_append_right _ (List.mem_append_right _ (List.mem_append_right _ (List.mem_append_right _ (List.mem_append_right _ (List.mem_append_right _ (List.mem_append_right _ (List.mem_append_left _ h))))))))))))))))))))))))))))))))))))))))
theorem uw696 : Cond.selects RX8 yX8_next yX8_next ∈ wsL_law := lr30 _ (List.mem_of_getElem? (i := 0) rfl)
theorem uw697 : Cond.code yX8_next cX8_next 1 (some .int) ∈ wsL_law := lr30 _ (List.mem_of_getElem? (i := 1) rfl)
theorem uw698 : Cond.methodLink RX8 229 yX8_numberBehind ∈ wsL_law := lr30 _ (List.mem_of_getElem? (i := 2) rfl)
theorem uw699 : Cond.methodLink RX8 232 yX7_drawnBy ∈ wsL_law := lr30 _ (List.mem_of_getElem? (i := 3) rfl)
theorem uw700 : Cond.methodLink RL 88 yX9_next ∈ wsL_law := lr30 _ (List.mem_of_getElem? (i := 4) rfl)
theorem uw701 : Cond.instanceMethod yX9_next ∈ wsL_law := lr30 _ (List.mem_of_getElem? (i := 5) rfl)
theorem uw702 : Cond.selects RX9 yX9_next yX9_next ∈ wsL_law := lr30 _ (List.mem_of_getElem? (i := 6) rfl)
theorem uw703 : Cond.code yX9_next cX9_next 1 (some .int) ∈ wsL_law := lr30 _ (List.mem_of_getElem? (i := 7) rfl)
theorem uw704 : Cond.methodLink RL 89 yX8_keep ∈ wsL_law := lr30 _ (List.mem_of_getElem? (i := 8) rfl)
theorem uw705 : Cond.instanceMethod yX8_keep ∈ wsL_law := lr30 _ (List.mem_of_getElem? (i := 9) rfl)
theorem uw706 : Cond.selects RX8 yX8_keep yX8_keep ∈ wsL_law := lr30 _ (List.mem_of_getElem? (i := 10) rfl)
theorem uw707 : Cond.code yX8_keep cX8_keep 1 (some .int) ∈ wsL_law := lr30 _ (List.mem_of_getElem? (i := 11) rfl)
theorem uw708 : Cond.methodLink RX8 235 yX5_copyFrom ∈ wsL_law := lr30 _ (List.mem_of_getElem? (i := 12) rfl)
theorem uw709 : Cond.methodLink RL 92 yX9_keep ∈ wsL_law := lr30 _ (List.mem_of_getElem? (i := 13) rfl)
theorem uw710 : Cond.instanceMethod yX9_keep ∈ wsL_law := lr30 _ (List.mem_of_getElem? (i := 14) rfl)
theorem uw711 : Cond.selects RX9 yX9_keep yX9_keep ∈ wsL_law := lr30 _ (List.mem_of_getElem? (i := 15) rfl)
theorem uw712 : Cond.code yX9_keep cX9_keep 1 (some .int) ∈ wsL_law := lr30 _ (List.mem_of_getElem? (i := 16) rfl)
theorem uw713 : Cond.methodLink RX9 126 yX9_copies ∈ wsL_law := lr30 _ (List.mem_of_getElem? (i := 17) rfl)
theorem uw714 : Cond.static yX9_copies ∈ wsL_law := lr30 _ (List.mem_of_getElem? (i := 18) rfl)
theorem uw715 : Cond.code yX9_copies cX9_copies 3 none ∈ wsL_law := lr30 _ (List.mem_of_getElem? (i := 19) rfl)
theorem uw716 : Cond.methodLink RL 93 yX8_restore ∈ wsL_law := lr30 _ (List.mem_of_getElem? (i := 20) rfl)
theorem uw717 : Cond.instanceMethod yX8_restore ∈ wsL_law := lr30 _ (List.mem_of_getElem? (i := 21) rfl)
theorem uw718 : Cond.selects RX8 yX8_restore yX8_restore ∈ wsL_law := lr30 _ (List.mem_of_getElem? (i := 22) rfl)
theorem uw719 : Cond.code yX8_restore cX8_restore 1 (some .int) ∈ wsL_law := lr30 _ (List.mem_of_getElem? (i := 23) rfl)
theorem lr31 : ∀ w ∈ wsL_law_r31, w ∈ wsL_law := fun _ h => List.mem_append_left _ (List.mem_append_left _ (List.mem_append_left _ (List.mem_append_left _ (List.mem_append_left _ (List.mem_append_left _ (List.mem_append_left _ (List.mem_append_left _ (List.mem_append_left _ (List.mem_append_left _ (List.mem_append_left _ (List.mem_append_right _ (List.mem_append_right _ (List.mem_append_right _ (List.mem_append_right _ (List.mem_append_right _ (List.mem_append_right _ (List.mem_append_right _ (List.mem_append_right _ (List.mem_append_right _ (List.mem_append_right _ (List.mem_append_right _ (List.mem_append_right _ (List.mem_append_right _ (List.mem_append_right _ (List.mem_append_right _ (List.mem_append_right _ (List.mem_append_right _ (List.mem_append_right _ (List.mem_append_right _ (List.mem_append_right _ (List.mem_append_right _ (List.mem_append_right _ (List.mem_append_right _ (List.mem_append_right _ (List.mem_append_right _ (List.mem_append_right _ (List.mem_append_right _ (List.mem_append_right _ (List.mem_append_right _ (List.mem_append_right _ (List.mem_append_left _ h)))))))))))))))))))))))))))))))))))))))))
theorem uw720 : Cond.methodLink RL 96 yX9_restore ∈ wsL_law := lr31 _ (List.mem_of_getElem? (i := 0) rfl)
theorem uw721 : Cond.instanceMethod yX9_restore ∈ wsL_law := lr31 _ (List.mem_of_getElem? (i := 1) rfl)
theorem uw722 : Cond.selects RX9 yX9_restore yX9_restore ∈ wsL_law := lr31 _ (List.mem_of_getElem? (i := 2) rfl)
theorem uw723 : Cond.code yX9_restore cX9_restore 1 (some .int) ∈ wsL_law := lr31 _ (List.mem_of_getElem? (i := 3) rfl)
theorem uw724 : Cond.methodLink RL 97 yX8_undo ∈ wsL_law := lr31 _ (List.mem_of_getElem? (i := 4) rfl)
theorem uw725 : Cond.instanceMethod yX8_undo ∈ wsL_law := lr31 _ (List.mem_of_getElem? (i := 5) rfl)
theorem uw726 : Cond.selects RX8 yX8_undo yX8_undo ∈ wsL_law := lr31 _ (List.mem_of_getElem? (i := 6) rfl)
theorem uw727 : Cond.code yX8_undo cX8_undo 1 (some .int) ∈ wsL_law := lr31 _ (List.mem_of_getElem? (i := 7) rfl)
theorem uw728 : Cond.methodLink RX8 239 yX1_takeLatest ∈ wsL_law := lr31 _ (List.mem_of_getElem? (i := 8) rfl)
theorem uw729 : Cond.instanceMethod yX1_takeLatest ∈ wsL_law := lr31 _ (List.mem_of_getElem? (i := 9) rfl)
theorem uw730 : Cond.selects RX1 yX1_takeLatest yX1_takeLatest ∈ wsL_law := lr31 _ (List.mem_of_getElem? (i := 10) rfl)
theorem uw731 : Cond.code yX1_takeLatest cX1_takeLatest 4 none ∈ wsL_law := lr31 _ (List.mem_of_getElem? (i := 11) rfl)
theorem uw732 : Cond.methodLink RX1 39 Lib.Math.max.name ∈ wsL_law := lr31 _ (List.mem_of_getElem? (i := 12) rfl)
theorem uw733 : Cond.methodLink RL 100 yX9_undo ∈ wsL_law := lr31 _ (List.mem_of_getElem? (i := 13) rfl)
theorem uw734 : Cond.instanceMethod yX9_undo ∈ wsL_law := lr31 _ (List.mem_of_getElem? (i := 14) rfl)
theorem uw735 : Cond.selects RX9 yX9_undo yX9_undo ∈ wsL_law := lr31 _ (List.mem_of_getElem? (i := 15) rfl)
theorem uw736 : Cond.code yX9_undo cX9_undo 2 (some .int) ∈ wsL_law := lr31 _ (List.mem_of_getElem? (i := 16) rfl)
theorem uw737 : Cond.methodLink RL 101 yX8_type ∈ wsL_law := lr31 _ (List.mem_of_getElem? (i := 17) rfl)
theorem uw738 : Cond.instanceMethod yX8_type ∈ wsL_law := lr31 _ (List.mem_of_getElem? (i := 18) rfl)
theorem uw739 : Cond.selects RX8 yX8_type yX8_type ∈ wsL_law := lr31 _ (List.mem_of_getElem? (i := 19) rfl)
theorem uw740 : Cond.code yX8_type cX8_type 2 (some .int) ∈ wsL_law := lr31 _ (List.mem_of_getElem? (i := 20) rfl)
theorem uw741 : Cond.methodLink RX8 244 yX6_append ∈ wsL_law := lr31 _ (List.mem_of_getElem? (i := 21) rfl)
theorem uw742 : Cond.instanceMethod yX6_append ∈ wsL_law := lr31 _ (List.mem_of_getElem? (i := 22) rfl)
theorem uw743 : Cond.selects RX6 yX6_append yX6_append ∈ wsL_law := lr31 _ (List.mem_of_getElem? (i := 23) rfl)
theorem lr32 : ∀ w ∈ wsL_law_r32, w ∈ wsL_law := fun _ h => List.mem_append_left _ (List.mem_append_left _ (List.mem_append_left _ (List.mem_append_left _ (List.mem_append_left _ (List.mem_append_left _ (List.mem_append_left _ (List.mem_append_left _ (List.mem_append_left _ (List.mem_append_left _ (List.mem_append_left _ (List.mem_append_right _ (List.mem_append_right _ (List.mem_append_right _ (List.mem_append_right _ (List.mem_append_right _ (List.mem_append_right _ (List.mem_append_right _ (List.mem_append_right _ (List.mem_append_right _ (List.mem_append_right _ (List.mem_append_right _ (List.mem_append_right _ (List.mem_append_right _ (List.mem_append_right _ (List.mem_append_right _ (List.mem_append_right _ (List.mem_append_right _ (List.mem_append_right _ (List.mem_append_right _ (List.mem_append_right _ (List.mem_append_right _ (List.mem_append_right _ (List.mem_append_right _ (List.mem_append_right _ (List.mem_append_right _ (List.mem_append_right _ (List.mem_append_right _ (List.mem_append_right _ (List.mem_append_right _ (List.mem_append_right _ (List.mem_append_right _ (List.mem_append_left _ h))))))))))))))))))))))))))))))))))))))))))
theorem uw744 : Cond.code yX6_append cX6_append 2 none ∈ wsL_law := lr32 _ (List.mem_of_getElem? (i := 0) rfl)
theorem uw745 : Cond.methodLink RX6 40 yX4_put ∈ wsL_law := lr32 _ (List.mem_of_getElem? (i := 1) rfl)
theorem uw746 : Cond.methodLink RL 104 yX9_type ∈ wsL_law := lr32 _ (List.mem_of_getElem? (i := 2) rfl)
theorem uw747 : Cond.instanceMethod yX9_type ∈ wsL_law := lr32 _ (List.mem_of_getElem? (i := 3) rfl)
theorem uw748 : Cond.selects RX9 yX9_type yX9_type ∈ wsL_law := lr32 _ (List.mem_of_getElem? (i := 4) rfl)
theorem uw749 : Cond.code yX9_type cX9_type 2 (some .int) ∈ wsL_law := lr32 _ (List.mem_of_getElem? (i := 5) rfl)
theorem uw750 : Cond.methodLink RL 105 yX8_clearText ∈ wsL_law := lr32 _ (List.mem_of_getElem? (i := 6) rfl)
theorem uw751 : Cond.instanceMethod yX8_clearText ∈ wsL_law := lr32 _ (List.mem_of_getElem? (i := 7) rfl)
theorem uw752 : Cond.selects RX8 yX8_clearText yX8_clearText ∈ wsL_law := lr32 _ (List.mem_of_getElem? (i := 8) rfl)
theorem uw753 : Cond.code yX8_clearText cX8_clearText 2 (some .int) ∈ wsL_law := lr32 _ (List.mem_of_getElem? (i := 9) rfl)
theorem uw754 : Cond.methodLink RL 108 yX9_clearText ∈ wsL_law := lr32 _ (List.mem_of_getElem? (i := 10) rfl)
theorem uw755 : Cond.instanceMethod yX9_clearText ∈ wsL_law := lr32 _ (List.mem_of_getElem? (i := 11) rfl)
theorem uw756 : Cond.selects RX9 yX9_clearText yX9_clearText ∈ wsL_law := lr32 _ (List.mem_of_getElem? (i := 12) rfl)
theorem uw757 : Cond.code yX9_clearText cX9_clearText 2 (some .int) ∈ wsL_law := lr32 _ (List.mem_of_getElem? (i := 13) rfl)
theorem uw758 : Cond.methodLink RL 109 yX8_fault ∈ wsL_law := lr32 _ (List.mem_of_getElem? (i := 14) rfl)
theorem uw759 : Cond.instanceMethod yX8_fault ∈ wsL_law := lr32 _ (List.mem_of_getElem? (i := 15) rfl)
theorem uw760 : Cond.selects RX8 yX8_fault yX8_fault ∈ wsL_law := lr32 _ (List.mem_of_getElem? (i := 16) rfl)
theorem uw761 : Cond.code yX8_fault cX8_fault 2 (some .int) ∈ wsL_law := lr32 _ (List.mem_of_getElem? (i := 17) rfl)
theorem uw762 : Cond.fieldLink RX8 254 "GuessingHall$Text" "faultPlace" "I" ∈ wsL_law := lr32 _ (List.mem_of_getElem? (i := 18) rfl)
theorem uw763 : Cond.fieldLink RX8 257 "GuessingHall$Text" "faultReason" "I" ∈ wsL_law := lr32 _ (List.mem_of_getElem? (i := 19) rfl)
theorem uw764 : Cond.methodLink RX8 247 yX6_scan ∈ wsL_law := lr32 _ (List.mem_of_getElem? (i := 20) rfl)
theorem uw765 : Cond.instanceMethod yX6_scan ∈ wsL_law := lr32 _ (List.mem_of_getElem? (i := 21) rfl)
theorem uw766 : Cond.selects RX6 yX6_scan yX6_scan ∈ wsL_law := lr32 _ (List.mem_of_getElem? (i := 22) rfl)
theorem uw767 : Cond.code yX6_scan cX6_scan 2 none ∈ wsL_law := lr32 _ (List.mem_of_getElem? (i := 23) rfl)
theorem lr33 : ∀ w ∈ wsL_law_r33, w ∈ wsL_law := fun _ h => List.mem_append_left _ (List.mem_append_left _ (List.mem_append_left _ (List.mem_append_left _ (List.mem_append_left _ (List.mem_append_left _ (List.mem_append_left _ (List.mem_append_left _ (List.mem_append_left _ (List.mem_append_left _ (List.mem_append_left _ (List.mem_append_right _ (List.mem_append_right _ (List.mem_append_right _ (List.mem_append_right _ (List.mem_append_right _ (List.mem_append_right _ (List.mem_append_right _ (List.mem_append_right _ (List.mem_append_right _ (List.mem_append_right _ (List.mem_append_right _ (List.mem_append_right _ (List.mem_append_right _ (List.mem_append_right _ (List.mem_append_right _ (List.mem_append_right _ (List.mem_append_right _ (List.mem_append_right _ (List.mem_append_right _ (List.mem_append_right _ (List.mem_append_right _ (List.mem_append_right _ (List.mem_append_right _ (List.mem_append_right _ (List.mem_append_right _ (List.mem_append_right _ (List.mem_append_right _ (List.mem_append_right _ (List.mem_append_right _ (List.mem_append_right _ (List.mem_append_right _ (List.mem_append_right _ (List.mem_append_left _ h)))))))))))))))))))))))))))))))))))))))))))
theorem uw768 : Cond.fieldLink RX6 44 "GuessingHall$Words" "size" "I" ∈ wsL_law := lr33 _ (List.mem_of_getElem? (i := 0) rfl)
theorem uw769 : Cond.methodLink RX6 47 yX6_scanWord ∈ wsL_law := lr33 _ (List.mem_of_getElem? (i := 1) rfl)
theorem uw770 : Cond.instanceMethod yX6_scanWord ∈ wsL_law := lr33 _ (List.mem_of_getElem? (i := 2) rfl)
theorem uw771 : Cond.selects RX6 yX6_scanWord yX6_scanWord ∈ wsL_law := lr33 _ (List.mem_of_getElem? (i := 3) rfl)
theorem uw772 : Cond.code yX6_scanWord cX6_scanWord 2 none ∈ wsL_law := lr33 _ (List.mem_of_getElem? (i := 4) rfl)
theorem uw773 : Cond.methodLink RX6 54 yX6_characterAt ∈ wsL_law := lr33 _ (List.mem_of_getElem? (i := 5) rfl)
theorem uw774 : Cond.instanceMethod yX6_characterAt ∈ wsL_law := lr33 _ (List.mem_of_getElem? (i := 6) rfl)
theorem uw775 : Cond.selects RX6 yX6_characterAt yX6_characterAt ∈ wsL_law := lr33 _ (List.mem_of_getElem? (i := 7) rfl)
theorem uw776 : Cond.code yX6_characterAt cX6_characterAt 2 (some .int) ∈ wsL_law := lr33 _ (List.mem_of_getElem? (i := 8) rfl)
theorem uw777 : Cond.methodLink RX6 94 yX4_at ∈ wsL_law := lr33 _ (List.mem_of_getElem? (i := 9) rfl)
theorem uw778 : Cond.methodLink RX6 58 yX6_isSmallLetter ∈ wsL_law := lr33 _ (List.mem_of_getElem? (i := 10) rfl)
theorem uw779 : Cond.static yX6_isSmallLetter ∈ wsL_law := lr33 _ (List.mem_of_getElem? (i := 11) rfl)
theorem uw780 : Cond.code yX6_isSmallLetter cX6_isSmallLetter 1 (some .boolean) ∈ wsL_law := lr33 _ (List.mem_of_getElem? (i := 12) rfl)
theorem uw781 : Cond.methodLink RX6 62 yX6_fail ∈ wsL_law := lr33 _ (List.mem_of_getElem? (i := 13) rfl)
theorem uw782 : Cond.instanceMethod yX6_fail ∈ wsL_law := lr33 _ (List.mem_of_getElem? (i := 14) rfl)
theorem uw783 : Cond.selects RX6 yX6_fail yX6_fail ∈ wsL_law := lr33 _ (List.mem_of_getElem? (i := 15) rfl)
theorem uw784 : Cond.code yX6_fail cX6_fail 3 (some .boolean) ∈ wsL_law := lr33 _ (List.mem_of_getElem? (i := 16) rfl)
theorem uw785 : Cond.methodLink RX6 66 yX6_scanLetters ∈ wsL_law := lr33 _ (List.mem_of_getElem? (i := 17) rfl)
theorem uw786 : Cond.instanceMethod yX6_scanLetters ∈ wsL_law := lr33 _ (List.mem_of_getElem? (i := 18) rfl)
theorem uw787 : Cond.selects RX6 yX6_scanLetters yX6_scanLetters ∈ wsL_law := lr33 _ (List.mem_of_getElem? (i := 19) rfl)
theorem uw788 : Cond.code yX6_scanLetters cX6_scanLetters 2 (some .boolean) ∈ wsL_law := lr33 _ (List.mem_of_getElem? (i := 20) rfl)
theorem uw789 : Cond.fieldLink RX6 85 "GuessingHall$Words" "length" "LGuessingHall$Row;" ∈ wsL_law := lr33 _ (List.mem_of_getElem? (i := 21) rfl)
theorem uw790 : Cond.methodLink RX6 81 yX7_putLetter ∈ wsL_law := lr33 _ (List.mem_of_getElem? (i := 22) rfl)
theorem uw791 : Cond.instanceMethod yX7_putLetter ∈ wsL_law := lr33 _ (List.mem_of_getElem? (i := 23) rfl)
theorem lr34 : ∀ w ∈ wsL_law_r34, w ∈ wsL_law := fun _ h => List.mem_append_left _ (List.mem_append_left _ (List.mem_append_left _ (List.mem_append_left _ (List.mem_append_left _ (List.mem_append_left _ (List.mem_append_left _ (List.mem_append_left _ (List.mem_append_left _ (List.mem_append_left _ (List.mem_append_left _ (List.mem_append_right _ (List.mem_append_right _ (List.mem_append_right _ (List.mem_append_right _ (List.mem_append_right _ (List.mem_append_right _ (List.mem_append_right _ (List.mem_append_right _ (List.mem_append_right _ (List.mem_append_right _ (List.mem_append_right _ (List.mem_append_right _ (List.mem_append_right _ (List.mem_append_right _ (List.mem_append_right _ (List.mem_append_right _ (List.mem_append_right _ (List.mem_append_right _ (List.mem_append_right _ (List.mem_append_right _ (List.mem_append_right _ (List.mem_append_right _ (List.mem_append_right _ (List.mem_append_right _ (List.mem_append_right _ (List.mem_append_right _ (List.mem_append_right _ (List.mem_append_right _ (List.mem_append_right _ (List.mem_append_right _ (List.mem_append_right _ (List.mem_append_right _ (List.mem_append_right _ (List.mem_append_left _ h))))))))))))))))))))))))))))))))))))))))))))
theorem uw792 : Cond.selects RX7 yX7_putLetter yX7_putLetter ∈ wsL_law := lr34 _ (List.mem_of_getElem? (i := 0) rfl)
theorem uw793 : Cond.code yX7_putLetter cX7_putLetter 4 none ∈ wsL_law := lr34 _ (List.mem_of_getElem? (i := 1) rfl)
theorem uw794 : Cond.methodLink RX7 41 yX4_put ∈ wsL_law := lr34 _ (List.mem_of_getElem? (i := 2) rfl)
theorem uw795 : Cond.methodLink RX6 69 yX6_scanSign ∈ wsL_law := lr34 _ (List.mem_of_getElem? (i := 3) rfl)
theorem uw796 : Cond.instanceMethod yX6_scanSign ∈ wsL_law := lr34 _ (List.mem_of_getElem? (i := 4) rfl)
theorem uw797 : Cond.selects RX6 yX6_scanSign yX6_scanSign ∈ wsL_law := lr34 _ (List.mem_of_getElem? (i := 5) rfl)
theorem uw798 : Cond.code yX6_scanSign cX6_scanSign 2 (some .boolean) ∈ wsL_law := lr34 _ (List.mem_of_getElem? (i := 6) rfl)
theorem uw799 : Cond.methodLink RX6 72 yX6_scanWeight ∈ wsL_law := lr34 _ (List.mem_of_getElem? (i := 7) rfl)
theorem uw800 : Cond.instanceMethod yX6_scanWeight ∈ wsL_law := lr34 _ (List.mem_of_getElem? (i := 8) rfl)
theorem uw801 : Cond.selects RX6 yX6_scanWeight yX6_scanWeight ∈ wsL_law := lr34 _ (List.mem_of_getElem? (i := 9) rfl)
theorem uw802 : Cond.code yX6_scanWeight cX6_scanWeight 4 (some .boolean) ∈ wsL_law := lr34 _ (List.mem_of_getElem? (i := 10) rfl)
theorem uw803 : Cond.fieldLink RX6 91 "GuessingHall$Words" "weight" "LGuessingHall$Row;" ∈ wsL_law := lr34 _ (List.mem_of_getElem? (i := 11) rfl)
theorem uw804 : Cond.methodLink RX6 75 yX6_addWord ∈ wsL_law := lr34 _ (List.mem_of_getElem? (i := 12) rfl)
theorem uw805 : Cond.instanceMethod yX6_addWord ∈ wsL_law := lr34 _ (List.mem_of_getElem? (i := 13) rfl)
theorem uw806 : Cond.selects RX6 yX6_addWord yX6_addWord ∈ wsL_law := lr34 _ (List.mem_of_getElem? (i := 14) rfl)
theorem uw807 : Cond.code yX6_addWord cX6_addWord 3 none ∈ wsL_law := lr34 _ (List.mem_of_getElem? (i := 15) rfl)
theorem uw808 : Cond.methodLink RX6 78 yX7_areSame ∈ wsL_law := lr34 _ (List.mem_of_getElem? (i := 16) rfl)
theorem uw809 : Cond.instanceMethod yX7_areSame ∈ wsL_law := lr34 _ (List.mem_of_getElem? (i := 17) rfl)
theorem uw810 : Cond.selects RX7 yX7_areSame yX7_areSame ∈ wsL_law := lr34 _ (List.mem_of_getElem? (i := 18) rfl)
theorem uw811 : Cond.code yX7_areSame cX7_areSame 5 (some .boolean) ∈ wsL_law := lr34 _ (List.mem_of_getElem? (i := 19) rfl)
theorem uw812 : Cond.methodLink RX6 50 yX6_hasFault ∈ wsL_law := lr34 _ (List.mem_of_getElem? (i := 20) rfl)
theorem uw813 : Cond.instanceMethod yX6_hasFault ∈ wsL_law := lr34 _ (List.mem_of_getElem? (i := 21) rfl)
theorem uw814 : Cond.selects RX6 yX6_hasFault yX6_hasFault ∈ wsL_law := lr34 _ (List.mem_of_getElem? (i := 22) rfl)
theorem uw815 : Cond.code yX6_hasFault cX6_hasFault 1 (some .boolean) ∈ wsL_law := lr34 _ (List.mem_of_getElem? (i := 23) rfl)
theorem lr35 : ∀ w ∈ wsL_law_r35, w ∈ wsL_law := fun _ h => List.mem_append_left _ (List.mem_append_left _ (List.mem_append_left _ (List.mem_append_left _ (List.mem_append_left _ (List.mem_append_left _ (List.mem_append_left _ (List.mem_append_left _ (List.mem_append_left _ (List.mem_append_left _ (List.mem_append_left _ (List.mem_append_right _ (List.mem_append_right _ (List.mem_append_right _ (List.mem_append_right _ (List.mem_append_right _ (List.mem_append_right _ (List.mem_append_right _ (List.mem_append_right _ (List.mem_append_right _ (List.mem_append_right _ (List.mem_append_right _ (List.mem_append_right _ (List.mem_append_right _ (List.mem_append_right _ (List.mem_append_right _ (List.mem_append_right _ (List.mem_append_right _ (List.mem_append_right _ (List.mem_append_right _ (List.mem_append_right _ (List.mem_append_right _ (List.mem_append_right _ (List.mem_append_right _ (List.mem_append_right _ (List.mem_append_right _ (List.mem_append_right _ (List.mem_append_right _ (List.mem_append_right _ (List.mem_append_right _ (List.mem_append_right _ (List.mem_append_right _ (List.mem_append_right _ (List.mem_append_right _ (List.mem_append_right _ (List.mem_append_left _ h)))))))))))))))))))))))))))))))))))))))))))))
theorem uw816 : Cond.methodLink RX8 250 yX6_hasFault ∈ wsL_law := lr35 _ (List.mem_of_getElem? (i := 0) rfl)
theorem uw817 : Cond.methodLink RL 112 yX9_fault ∈ wsL_law := lr35 _ (List.mem_of_getElem? (i := 1) rfl)
theorem uw818 : Cond.instanceMethod yX9_fault ∈ wsL_law := lr35 _ (List.mem_of_getElem? (i := 2) rfl)
theorem uw819 : Cond.selects RX9 yX9_fault yX9_fault ∈ wsL_law := lr35 _ (List.mem_of_getElem? (i := 3) rfl)
theorem uw820 : Cond.code yX9_fault cX9_fault 2 (some .int) ∈ wsL_law := lr35 _ (List.mem_of_getElem? (i := 4) rfl)
theorem uw821 : Cond.fieldLink RX9 130 "GuessingHallModel" "spot" "I" ∈ wsL_law := lr35 _ (List.mem_of_getElem? (i := 5) rfl)
theorem uw822 : Cond.fieldLink RX9 137 "GuessingHallModel" "reason" "I" ∈ wsL_law := lr35 _ (List.mem_of_getElem? (i := 6) rfl)
theorem uw823 : Cond.methodLink RX9 161 yX9_isRight ∈ wsL_law := lr35 _ (List.mem_of_getElem? (i := 7) rfl)
theorem uw824 : Cond.instanceMethod yX9_isRight ∈ wsL_law := lr35 _ (List.mem_of_getElem? (i := 8) rfl)
theorem uw825 : Cond.selects RX9 yX9_isRight yX9_isRight ∈ wsL_law := lr35 _ (List.mem_of_getElem? (i := 9) rfl)
theorem uw826 : Cond.code yX9_isRight cX9_isRight 2 (some .boolean) ∈ wsL_law := lr35 _ (List.mem_of_getElem? (i := 10) rfl)
theorem uw827 : Cond.fieldLink RX9 140 "GuessingHallModel" "words" "I" ∈ wsL_law := lr35 _ (List.mem_of_getElem? (i := 11) rfl)
theorem uw828 : Cond.methodLink RX9 158 yX9_readsWord ∈ wsL_law := lr35 _ (List.mem_of_getElem? (i := 12) rfl)
theorem uw829 : Cond.instanceMethod yX9_readsWord ∈ wsL_law := lr35 _ (List.mem_of_getElem? (i := 13) rfl)
theorem uw830 : Cond.selects RX9 yX9_readsWord yX9_readsWord ∈ wsL_law := lr35 _ (List.mem_of_getElem? (i := 14) rfl)
theorem uw831 : Cond.code yX9_readsWord cX9_readsWord 2 (some .boolean) ∈ wsL_law := lr35 _ (List.mem_of_getElem? (i := 15) rfl)
theorem uw832 : Cond.methodLink RX9 133 yX9_isAt ∈ wsL_law := lr35 _ (List.mem_of_getElem? (i := 16) rfl)
theorem uw833 : Cond.instanceMethod yX9_isAt ∈ wsL_law := lr35 _ (List.mem_of_getElem? (i := 17) rfl)
theorem uw834 : Cond.selects RX9 yX9_isAt yX9_isAt ∈ wsL_law := lr35 _ (List.mem_of_getElem? (i := 18) rfl)
theorem uw835 : Cond.code yX9_isAt cX9_isAt 3 (some .boolean) ∈ wsL_law := lr35 _ (List.mem_of_getElem? (i := 19) rfl)
theorem uw836 : Cond.methodLink RX9 143 yX9_fails ∈ wsL_law := lr35 _ (List.mem_of_getElem? (i := 20) rfl)
theorem uw837 : Cond.instanceMethod yX9_fails ∈ wsL_law := lr35 _ (List.mem_of_getElem? (i := 21) rfl)
theorem uw838 : Cond.selects RX9 yX9_fails yX9_fails ∈ wsL_law := lr35 _ (List.mem_of_getElem? (i := 22) rfl)
theorem uw839 : Cond.code yX9_fails cX9_fails 2 (some .boolean) ∈ wsL_law := lr35 _ (List.mem_of_getElem? (i := 23) rfl)
theorem lr36 : ∀ w ∈ wsL_law_r36, w ∈ wsL_law := fun _ h => List.mem_append_left _ (List.mem_append_left _ (List.mem_append_left _ (List.mem_append_left _ (List.mem_append_left _ (List.mem_append_left _ (List.mem_append_left _ (List.mem_append_left _ (List.mem_append_left _ (List.mem_append_left _ (List.mem_append_left _ (List.mem_append_right _ (List.mem_append_right _ (List.mem_append_right _ (List.mem_append_right _ (List.mem_append_right _ (List.mem_append_right _ (List.mem_append_right _ (List.mem_append_right _ (List.mem_append_right _ (List.mem_append_right _ (List.mem_append_right _ (List.mem_append_right _ (List.mem_append_right _ (List.mem_append_right _ (List.mem_append_right _ (List.mem_append_right _ (List.mem_append_right _ (List.mem_append_right _ (List.mem_append_right _ (List.mem_append_right _ (List.mem_append_right _ (List.mem_append_right _ (List.mem_append_right _ (List.mem_append_right _ (List.mem_append_right _ (List.mem_append_right _ (List.mem_append_right _ (List.mem_append_right _ (List.mem_append_right _ (List.mem_append_right _ (List.mem_append_right _ (List.mem_append_right _ (List.mem_append_right _ (List.mem_append_right _ (List.mem_append_right _ (List.mem_append_left _ h))))))))))))))))))))))))))))))))))))))))))))))
theorem uw840 : Cond.methodLink RX9 146 yX9_readsLetters ∈ wsL_law := lr36 _ (List.mem_of_getElem? (i := 0) rfl)
theorem uw841 : Cond.instanceMethod yX9_readsLetters ∈ wsL_law := lr36 _ (List.mem_of_getElem? (i := 1) rfl)
theorem uw842 : Cond.selects RX9 yX9_readsLetters yX9_readsLetters ∈ wsL_law := lr36 _ (List.mem_of_getElem? (i := 2) rfl)
theorem uw843 : Cond.code yX9_readsLetters cX9_readsLetters 2 (some .boolean) ∈ wsL_law := lr36 _ (List.mem_of_getElem? (i := 3) rfl)
theorem uw844 : Cond.methodLink RX9 149 yX9_sign ∈ wsL_law := lr36 _ (List.mem_of_getElem? (i := 4) rfl)
theorem uw845 : Cond.instanceMethod yX9_sign ∈ wsL_law := lr36 _ (List.mem_of_getElem? (i := 5) rfl)
theorem uw846 : Cond.selects RX9 yX9_sign yX9_sign ∈ wsL_law := lr36 _ (List.mem_of_getElem? (i := 6) rfl)
theorem uw847 : Cond.code yX9_sign cX9_sign 3 (some .boolean) ∈ wsL_law := lr36 _ (List.mem_of_getElem? (i := 7) rfl)
theorem uw848 : Cond.methodLink RX9 152 yX9_readsWeight ∈ wsL_law := lr36 _ (List.mem_of_getElem? (i := 8) rfl)
theorem uw849 : Cond.instanceMethod yX9_readsWeight ∈ wsL_law := lr36 _ (List.mem_of_getElem? (i := 9) rfl)
theorem uw850 : Cond.selects RX9 yX9_readsWeight yX9_readsWeight ∈ wsL_law := lr36 _ (List.mem_of_getElem? (i := 10) rfl)
theorem uw851 : Cond.code yX9_readsWeight cX9_readsWeight 2 (some .boolean) ∈ wsL_law := lr36 _ (List.mem_of_getElem? (i := 11) rfl)
theorem uw852 : Cond.methodLink RX9 155 yX9_isDouble ∈ wsL_law := lr36 _ (List.mem_of_getElem? (i := 12) rfl)
theorem uw853 : Cond.instanceMethod yX9_isDouble ∈ wsL_law := lr36 _ (List.mem_of_getElem? (i := 13) rfl)
theorem uw854 : Cond.selects RX9 yX9_isDouble yX9_isDouble ∈ wsL_law := lr36 _ (List.mem_of_getElem? (i := 14) rfl)
theorem uw855 : Cond.code yX9_isDouble cX9_isDouble 4 (some .boolean) ∈ wsL_law := lr36 _ (List.mem_of_getElem? (i := 15) rfl)
theorem uw856 : Cond.methodLink RL 113 yX8_read ∈ wsL_law := lr36 _ (List.mem_of_getElem? (i := 16) rfl)
theorem uw857 : Cond.instanceMethod yX8_read ∈ wsL_law := lr36 _ (List.mem_of_getElem? (i := 17) rfl)
theorem uw858 : Cond.selects RX8 yX8_read yX8_read ∈ wsL_law := lr36 _ (List.mem_of_getElem? (i := 18) rfl)
theorem uw859 : Cond.code yX8_read cX8_read 1 (some .int) ∈ wsL_law := lr36 _ (List.mem_of_getElem? (i := 19) rfl)
theorem uw860 : Cond.fieldLink RX8 260 "GuessingHall$Text" "list" "LGuessingHall$Words;" ∈ wsL_law := lr36 _ (List.mem_of_getElem? (i := 20) rfl)
theorem uw861 : Cond.methodLink RX8 263 yX7_copyFrom ∈ wsL_law := lr36 _ (List.mem_of_getElem? (i := 21) rfl)
theorem uw862 : Cond.methodLink RL 116 yX9_read ∈ wsL_law := lr36 _ (List.mem_of_getElem? (i := 22) rfl)
theorem uw863 : Cond.instanceMethod yX9_read ∈ wsL_law := lr36 _ (List.mem_of_getElem? (i := 23) rfl)
theorem lr37 : ∀ w ∈ wsL_law_r37, w ∈ wsL_law := fun _ h => List.mem_append_left _ (List.mem_append_left _ (List.mem_append_left _ (List.mem_append_left _ (List.mem_append_left _ (List.mem_append_left _ (List.mem_append_left _ (List.mem_append_left _ (List.mem_append_left _ (List.mem_append_left _ (List.mem_append_left _ (List.mem_append_right _ (List.mem_append_right _ (List.mem_append_right _ (List.mem_append_right _ (List.mem_append_right _ (List.mem_append_right _ (List.mem_append_right _ (List.mem_append_right _ (List.mem_append_right _ (List.mem_append_right _ (List.mem_append_right _ (List.mem_append_right _ (List.mem_append_right _ (List.mem_append_right _ (List.mem_append_right _ (List.mem_append_right _ (List.mem_append_right _ (List.mem_append_right _ (List.mem_append_right _ (List.mem_append_right _ (List.mem_append_right _ (List.mem_append_right _ (List.mem_append_right _ (List.mem_append_right _ (List.mem_append_right _ (List.mem_append_right _ (List.mem_append_right _ (List.mem_append_right _ (List.mem_append_right _ (List.mem_append_right _ (List.mem_append_right _ (List.mem_append_right _ (List.mem_append_right _ (List.mem_append_right _ (List.mem_append_right _ (List.mem_append_right _ (h)))))))))))))))))))))))))))))))))))))))))))))))
theorem uw864 : Cond.selects RX9 yX9_read yX9_read ∈ wsL_law := lr37 _ (List.mem_of_getElem? (i := 0) rfl)
theorem uw865 : Cond.code yX9_read cX9_read 3 (some .int) ∈ wsL_law := lr37 _ (List.mem_of_getElem? (i := 1) rfl)
end
section
/-! THE WORLD: 219 cells at fixed addresses (class and reference together); all that a call changes is V: the numbers of each cell. -/
abbrev gV : Type := Nat → Nat → Int32
abbrev gG : Type := (Nat → ClassId) × (Nat → Nat → Nat) × (Nat → Nat) × ClassId × ClassId
def gA (G : gG) (k : Nat) : Nat := G.2.2.1 k
def gD (G : gG) : va_G := (G.1, G.2.1)
def gcI (G : gG) : ClassId := G.2.2.2.1
def gcS (G : gG) : ClassId := G.2.2.2.2
abbrev gty (G : gG) : List (ClassId × FieldType) := [(gcI G, .int), (gcS G, .object "GuessingHall$State")]
def gh_st : List Nat := [5, 7, 4, 27, 4, 27, 4, 27, 4, 139, 0, 4, 16, 4, 16, 4, 16, 4, 16, 4, 16, 4, 16, 3, 2, 4, 17, 4, 17, 4, 17, 4, 17]
def gh_kdL : List Nat := 8 :: (gh_st ++ (gh_st ++ (1 :: 10 :: (gh_st ++ (gh_st ++ (gh_st ++ (gh_st ++ [6, 7, 4, 27, 4, 27, 4, 27, 4, 139, 4, 131, 9, 257, 995, 257, 131, 171])))))))
/-- the kind of each cell: its class's number, 10 the ring, 11 + n a row of n ints -/
def gk (k : Nat) : Nat := gh_kdL.getD k 999
/-- what a cell of kind c at place k holds, its numbers being v -/
def gE (G : gG) (v : Nat → Int32) (c k : Nat) : va_E := match c with
  | 0 => .inr (0, [.int (v 0), .ref (gA G (k + 1)), .ref (gA G (k + 3)), .ref (gA G (k + 5)), .ref (gA G (k + 7)), .ref (gA G (k + 9)), .ref (gA G (k + 11))])
  | 1 => .inr (1, [.int (v 0), .int (v 1), .ref (gA G (k + 1))])
  | 2 => .inr (2, [.int (v 0), .ref (gA G (k + 1)), .ref (gA G (k + 3)), .ref (gA G (k + 5)), .ref (gA G (k + 7))])
  | 3 => .inr (3, [.int (v 0), .int (v 1), .int (v 2), .int (v 3), .int (v 4), .int (v 5), .int (v 6)])
  | 4 => .inr (4, [.ref (gA G (k + 1))])
  | 5 => .inr (5, [.ref (gA G (k + 1)), .ref (gA G (k + 10)), .ref (gA G (k + 23)), .ref (gA G (k + 24)), .int (v 4), .int (v 5), .int (v 6), .int (v 7), .int (v 8)])
  | 6 => .inr (6, [.int (v 0), .int (v 1), .int (v 2), .ref (gA G (k + 1)), .ref (gA G (k + 10)), .int (v 5)])
  | 7 => .inr (7, [.int (v 0), .ref (gA G (k + 1)), .ref (gA G (k + 3)), .ref (gA G (k + 5)), .ref (gA G (k + 7))])
  | 8 => .inr (8, [.ref (gA G (k + 1)), .ref (gA G (k + 34)), .ref (gA G (k + 67)), .ref (gA G (k + 201)), .int (v 4)])
  | 9 => .inr (9, [.ref (gA G (k + 1)), .ref (gA G (k + 2)), .ref (gA G (k + 3)), .int (v 3), .int (v 4), .ref (gA G (k + 4)), .int (v 6), .int (v 7), .int (v 8), .int (v 9), .ref (gA G (k + 5))])
  | 10 => .inl (gcS G, 4, .inr (.inr (.inr (.inr (fun j => some (gA G (k + 1 + 33 * j)))))))
  | n + 11 => .inl (gcI G, n, .inl v)
/-- the whole world as a list of cells -/
def gL (G : gG) (V : gV) : va_W := (List.range 219).map (fun k => (gA G k, gE G (V k) (gk k) k))
theorem gL_at {G : gG} {V : gV} {k c : Nat} (hk : k < 219) (hc : gk k = c) : (gL G V)[k]? = some (gA G k, gE G (V k) c k) := by
  subst hc
  simp [gL, List.getElem?_map, List.getElem?_range hk]
theorem gL_lt {G : gG} {V : gV} {k : Nat} {q : Nat × va_E} (h : (gL G V)[k]? = some q) : k < 219 ∧ q = (gA G k, gE G (V k) (gk k) k) := by
  have h1 : k < (gL G V).length := (List.getElem?_eq_some_iff.mp h).1
  have h2 : k < 219 := by simpa [gL] using h1
  refine ⟨h2, ?_⟩
  rw [gL_at h2 rfl] at h
  exact (Option.some.inj h).symm
/-- one cell's numbers anew -/
def gs (V : gV) (k : Nat) (f : Nat → Int32) : gV := fun q => if q = k then f else V q
theorem gs_at {V : gV} {k : Nat} {f : Nat → Int32} : gs V k f k = f := by simp [gs]
theorem gs_ne {V : gV} {k q : Nat} {f : Nat → Int32} (h : q ≠ k) : gs V k f q = V q := by simp [gs, h]
/-- one number anew -/
def gu (V : gV) (k j : Nat) (x : Int32) : gV := gs V k (upd (V k) j x)
theorem gL_set {G : gG} {V : gV} {k c : Nat} {f : Nat → Int32} {e : va_E} (hk : k < 219) (hc : gk k = c) (he : e = gE G f c k) : (gL G V).set k (gA G k, e) = gL G (gs V k f) := by
  subst hc
  subst he
  refine List.ext_getElem? fun i => ?_
  rw [List.getElem?_set]
  by_cases hi : k = i
  · subst hi
    have hl : k < (gL G V).length := by simpa [gL] using hk
    rw [if_pos rfl, if_pos hl, gL_at hk rfl, gs_at]
  · rw [if_neg hi]
    by_cases h2 : i < 219
    · rw [gL_at h2 rfl, gL_at h2 rfl, gs_ne (fun q => hi q.symm)]
    · have n1 : (gL G V)[i]? = none := List.getElem?_eq_none (by simp [gL]; omega)
      have n2 : (gL G (gs V k f))[i]? = none := List.getElem?_eq_none (by simp [gL]; omega)
      rw [n1, n2]
/-- the addresses are apart -/
def gJ (G : gG) : Prop := ∀ i j : Nat, i < 219 → j < 219 → gA G i = gA G j → i = j
/-- the cells of the world -/
def gF (G : gG) : Nat → Prop := fun q => ∃ k : Nat, k < 219 ∧ q = gA G k
theorem gL_D {G : gG} (hJ : gJ G) (V : gV) : va_D (gF G) (gL G V) := by
  refine ⟨fun i j p q hp hq h => ?_, fun k q h => ?_⟩
  · obtain ⟨h1, rfl⟩ := gL_lt hp
    obtain ⟨h2, rfl⟩ := gL_lt hq
    exact hJ i j h1 h2 h
  · obtain ⟨h1, rfl⟩ := gL_lt h
    exact ⟨k, h1, rfl⟩
/-- what the tables say of calls between nest mates -/
def gN (U : State) : Prop :=
  va_Nw (.methodLinkNest RX5 80 yX8_numberBehind RX8) U ∧ va_Nw (.methodLinkNest RX7 49 yX8_holds RX8) U ∧ va_Nw (.methodLinkNest RX3 32 yX8_holds RX8) U ∧ va_Nw (.methodLinkNest RX5 187 yX8_holds RX8) U ∧ va_Nw (.methodLinkNest RX6 87 yX8_isBetween RX8) U ∧
  va_Nw (.methodLinkNest RX8 9 yX5_init RX8) U ∧ va_Nw (.methodLinkNest RX5 11 yX7_init RX8) U ∧ va_Nw (.methodLinkNest RX5 20 yX0_init RX8) U ∧ va_Nw (.methodLinkNest RX5 27 yX3_init RX8) U ∧ va_Nw (.methodLinkNest RX5 34 yX2_init RX8) U ∧ va_Nw (.methodLinkNest RX1 24 yX5_init RX8) U ∧ va_Nw (.methodLinkNest RX8 28 yX6_init RX8) U ∧ va_Nw (.methodLinkNest RX6 23 yX7_init RX8) U
theorem gN.warm {s U : State} (hW : s.WarmedH U.vm) (h : gN s) : gN U := by
  obtain ⟨h1, h2, h3, h4, h5, h6, h7, h8, h9, h10, h11, h12, h13⟩ := h
  exact ⟨va_Nw.warmM hW h1, va_Nw.warmM hW h2, va_Nw.warmM hW h3, va_Nw.warmM hW h4, va_Nw.warmM hW h5, va_Nw.warmM hW h6, va_Nw.warmM hW h7, va_Nw.warmM hW h8, va_Nw.warmM hW h9, va_Nw.warmM hW h10, va_Nw.warmM hW h11, va_Nw.warmM hW h12, va_Nw.warmM hW h13⟩
theorem gN.same {u U : State} (hU : u.vm = U.vm) (h : gN u) : gN U := by
  obtain ⟨h1, h2, h3, h4, h5, h6, h7, h8, h9, h10, h11, h12, h13⟩ := h
  exact ⟨va_Nw.same rfl hU h1, va_Nw.same rfl hU h2, va_Nw.same rfl hU h3, va_Nw.same rfl hU h4, va_Nw.same rfl hU h5, va_Nw.same rfl hU h6, va_Nw.same rfl hU h7, va_Nw.same rfl hU h8, va_Nw.same rfl hU h9, va_Nw.same rfl hU h10, va_Nw.same rfl hU h11, va_Nw.same rfl hU h12, va_Nw.same rfl hU h13⟩
/-- what a state knows of the tables -/
def gT (G : gG) (s : State) : Prop := va_K (gD G) vwCl (gty G) s ∧ gJ G ∧ gN s
theorem gT.warm {G : gG} {s U : State} (hW : s.WarmedH U.vm) (h : gT G s) : gT G U := ⟨va_K.moved hW.alike h.1, h.2.1, h.2.2.warm hW⟩
/-- a state that holds the world at V -/
def gW (G : gG) (V : gV) (U : State) : Prop := va_P (gD G) vwCl (gL G V) U.heap ∧ gT G U
theorem gB {G : gG} {V : gV} {As : List Value} : FrameBlind (va_Pc As (gW G V)) := fun a U g mk q => by
  obtain ⟨q1, q2, q3, q4, q5⟩ := q
  exact ⟨q1, q2, va_K.moved (u := U) (U := U.calling g mk a) (Vm.Alike.refl U.vm) q3, q4, gN.same rfl q5⟩
/-- the ends: an int and a new world; an int over the same world; a new world; a float over the same world -/
abbrev gQI (G : gG) (res : Int32 × gV) : Array Value → State → Outcome → State → Prop := va_Qi (fun (r : Int32) (V1 : gV) => res = (r, V1)) (gW G) (gF G)
abbrev gQR (G : gG) (res : Int32) (V : gV) : Array Value → State → Outcome → State → Prop := va_Qi (fun (r : Int32) (V1 : gV) => res = r ∧ V1 = V) (gW G) (gF G)
abbrev gQV (G : gG) (res : gV) : Array Value → State → Outcome → State → Prop := va_Qv (fun (V1 : gV) => res = V1) (gW G) (gF G)
abbrev gQF (G : gG) (res : UInt32) (V : gV) : Array Value → State → Outcome → State → Prop := va_Qf (fun (r : UInt32) (V1 : gV) => res = r ∧ V1 = V) (gW G) (gF G)
section GH
variable {p : Program} {l : Launch} {e : Env} {R : Room} {s : State} {m : MethodId} {args : Array Value} {below : List Frame} {meth : Method} {c : Code} {H H0 : Heap} {locs : List Loc} {cells slots : Nat} {Q : State → Prop}
variable {G : gG} {V : gV} {pc : Nat} {ls : Array Slot} {rest : List Value} {cc : ByteArray} {res : Int32 × gV} {rer : Int32} {rev : gV} {ref : UInt32}
theorem gh_iret {v : Int32} (hx : p.tables.exec = Jvm.exec) (hb : c.code = cc) (hr : meth.sig.returnType = some .int) (hlocks : meth.locks = false) (hP : va_P (gD G) vwCl (gL G V) H) (hS : va_S (gF G) s.heap H locs) (hT : gT G s) (hres : res = (v, V)) (hdg : decode cc pc = .ok (.ireturn, 1)) :
    W p l e R s m args below meth c H locs cells slots (MQ below (gQI G res) args s cells slots (gF G)) (F0 m pc ls [.int v]) :=
  W.iret (v := v) hx hb hr (fun t ht hW => ⟨⟨v, V, rfl, hres, by rw [ht]; exact hP, hT.warm hW⟩, hS.F ht⟩) hS.2.2 hdg hlocks
theorem gh_zret {v : Int32} {ty : FieldType} (hx : p.tables.exec = Jvm.exec) (hb : c.code = cc) (hr : meth.sig.returnType = some ty) (hn : narrow ty (.int v) = .int v) (hlocks : meth.locks = false) (hP : va_P (gD G) vwCl (gL G V) H) (hS : va_S (gF G) s.heap H locs) (hT : gT G s) (hres : res = (v, V)) (hdg : decode cc pc = .ok (.ireturn, 1)) :
    W p l e R s m args below meth c H locs cells slots (MQ below (gQI G res) args s cells slots (gF G)) (F0 m pc ls [.int v]) :=
  W.zret (v := v) hx hb hr hn (fun t ht hW => ⟨⟨v, V, rfl, hres, by rw [ht]; exact hP, hT.warm hW⟩, hS.F ht⟩) hS.2.2 hdg hlocks
theorem gh_iretR {v : Int32} (hx : p.tables.exec = Jvm.exec) (hb : c.code = cc) (hr : meth.sig.returnType = some .int) (hlocks : meth.locks = false) (hP : va_P (gD G) vwCl (gL G V) H) (hS : va_S (gF G) s.heap H locs) (hT : gT G s) (hres : rer = v) (hdg : decode cc pc = .ok (.ireturn, 1)) :
    W p l e R s m args below meth c H locs cells slots (MQ below (gQR G rer V) args s cells slots (gF G)) (F0 m pc ls [.int v]) :=
  W.iret (v := v) hx hb hr (fun t ht hW => ⟨⟨v, V, rfl, ⟨hres, rfl⟩, by rw [ht]; exact hP, hT.warm hW⟩, hS.F ht⟩) hS.2.2 hdg hlocks
theorem gh_zretR {v : Int32} {ty : FieldType} (hx : p.tables.exec = Jvm.exec) (hb : c.code = cc) (hr : meth.sig.returnType = some ty) (hn : narrow ty (.int v) = .int v) (hlocks : meth.locks = false) (hP : va_P (gD G) vwCl (gL G V) H) (hS : va_S (gF G) s.heap H locs) (hT : gT G s) (hres : rer = v) (hdg : decode cc pc = .ok (.ireturn, 1)) :
    W p l e R s m args below meth c H locs cells slots (MQ below (gQR G rer V) args s cells slots (gF G)) (F0 m pc ls [.int v]) :=
  W.zret (v := v) hx hb hr hn (fun t ht hW => ⟨⟨v, V, rfl, ⟨hres, rfl⟩, by rw [ht]; exact hP, hT.warm hW⟩, hS.F ht⟩) hS.2.2 hdg hlocks
theorem gh_vret (hx : p.tables.exec = Jvm.exec) (hb : c.code = cc) (hr : meth.sig.returnType = none) (hlocks : meth.locks = false) (hP : va_P (gD G) vwCl (gL G V) H) (hS : va_S (gF G) s.heap H locs) (hT : gT G s) (hres : rev = V) (hdg : decode cc pc = .ok (.return_, 1)) :
    W p l e R s m args below meth c H locs cells slots (MQ below (gQV G rev) args s cells slots (gF G)) (F0 m pc ls []) :=
  W.vret hx hb hr (fun t ht hW => ⟨⟨V, rfl, hres, by rw [ht]; exact hP, hT.warm hW⟩, hS.F ht⟩) hS.2.2 hdg hlocks
theorem gh_fretR {v : UInt32} (hx : p.tables.exec = Jvm.exec) (hb : c.code = cc) (hr : meth.sig.returnType = some .float) (hlocks : meth.locks = false) (hP : va_P (gD G) vwCl (gL G V) H) (hS : va_S (gF G) s.heap H locs) (hT : gT G s) (hres : ref = v) (hdg : decode cc pc = .ok (.freturn, 1)) :
    W p l e R s m args below meth c H locs cells slots (MQ below (gQF G ref V) args s cells slots (gF G)) (F0 m pc ls [.float v]) :=
  W.fret (v := v) hx hb hr (fun t ht hW => ⟨⟨v, V, rfl, ⟨hres, rfl⟩, by rw [ht]; exact hP, hT.warm hW⟩, hS.F ht⟩) hS.2.2 hdg hlocks
/-- reading a field -/
theorem gh_get (hx : p.tables.exec = Jvm.exec) (hb : c.code = cc) {own C : String} {T : u_T} {N ci index : Nat} {Ts : List Cond} (hts : ∀ w ∈ Ts, w.before args s = true) (hin : ∀ w ∈ u_ws C T N, w ∈ Ts) (hown : s.vm.findClass own = some m.cls) (hT : gT G s) (hP : va_P (gD G) vwCl (gL G V) H) (k : Nat) (hk : k < 219) (hkd : gk k = ci) {fs : List Value} (he : gE G (V k) ci k = .inr (ci, fs)) (hc : vwCl[ci]? = some (C, T, N)) (j : Nat) (hj : j < N)
    (hlink : (Cond.fieldLink own index (T j).1 (T j).2.1 (T j).2.2.1).before args s = true) {v : Value} (hv : fs[j]? = some v) (hdg : decode cc pc = .ok (.getfield index, 3))
    (kk : W p l e R s m args below meth c H locs cells slots Q (F0 m (pc + 3) ls (v :: rest))) : W p l e R s m args below meth c H locs cells slots Q (F0 m pc ls (.ref (gA G k) :: rest)) :=
  va_get hx hb hts hin hown hT.1 hP k ((gL_at hk hkd).trans (congrArg (fun z => some (gA G k, z)) he)) hc j hj hlink (fun _ h => h) hv hdg kk
/-- writing a number into a field -/
theorem gh_put (hx : p.tables.exec = Jvm.exec) (hb : c.code = cc) {own C : String} {T : u_T} {N ci index : Nat} {Ts : List Cond} (hts : ∀ w ∈ Ts, w.before args s = true) (hin : ∀ w ∈ u_ws C T N, w ∈ Ts) {ty0 : Nat → FieldType} (hty : ∀ k, k < N → parseFieldDescriptor (T k).2.2.1 = some (ty0 k)) (hnm : ∀ a, a < N → ∀ b, b < N → a ≠ b → (T a).2.1 ≠ (T b).2.1) (hown : s.vm.findClass own = some m.cls) (hT : gT G s) (hP : va_P (gD G) vwCl (gL G V) H) (hS : va_S (gF G) H0 H locs) (k : Nat) (hk : k < 219) (hkd : gk k = ci) {fs : List Value} (he : gE G (V k) ci k = .inr (ci, fs)) (hc : vwCl[ci]? = some (C, T, N)) (j : Nat) (hj : j < N)
    (hlink : (Cond.fieldLink own index (T j).1 (T j).2.1 (T j).2.2.1).before args s = true) (hfin : (T j).2.2.2 = false) {ty : FieldType} {x : Int32} (hd : parseFieldDescriptor (T j).2.2.1 = some ty) (hn : narrow ty (.int x) = .int x) (hfit : fits ty (.int x) = true) (hl : j < fs.length) (hnew : (.inr (ci, fs.set j (.int x)) : va_E) = gE G (upd (V k) j x) ci k)
    (hdg : decode cc pc = .ok (.putfield index, 3))
    (kk : ∀ (H1 : Heap) (locs1 : List Loc), va_P (gD G) vwCl (gL G (gu V k j x)) H1 → va_S (gF G) H0 H1 locs1 → W p l e R s m args below meth c H1 locs1 cells slots Q (F0 m (pc + 3) ls rest)) : W p l e R s m args below meth c H locs cells slots Q (F0 m pc ls (.int x :: .ref (gA G k) :: rest)) :=
  va_put hx hb hts hin ty0 hty hnm hown hT.1 hP (gL_D hT.2.1 V) hS k ((gL_at hk hkd).trans (congrArg (fun z => some (gA G k, z)) he)) hc j hj hlink (fun _ h => h) hfin hd hn hfit hl hdg (fun H1 locs1 hP1 _ hS1 => kk H1 locs1 (by rw [gL_set hk hkd hnew] at hP1; exact hP1) hS1)
/-- the rows of ints -/
theorem gh_iald (hx : p.tables.exec = Jvm.exec) (hb : c.code = cc) (hT : gT G s) (hP : va_P (gD G) vwCl (gL G V) H) (k : Nat) (hk : k < 219) {n : Nat} (hkd : gk k = n + 11) {i : Int32} (hin : vp_in i n) (hdg : decode cc pc = .ok (.iaload, 1))
    (kk : W p l e R s m args below meth c H locs cells slots Q (F0 m (pc + 1) ls (.int (V k i.toNatClampNeg) :: rest))) : W p l e R s m args below meth c H locs cells slots Q (F0 m pc ls (.int i :: .ref (gA G k) :: rest)) :=
  va_iald hx hb hT.1 hP k 0 (gL_at hk hkd) rfl hin hdg kk
theorem gh_iast (hx : p.tables.exec = Jvm.exec) (hb : c.code = cc) (hT : gT G s) (hP : va_P (gD G) vwCl (gL G V) H) (hS : va_S (gF G) H0 H locs) (k : Nat) (hk : k < 219) {n : Nat} (hkd : gk k = n + 11) {i x : Int32} (hin : vp_in i n) (hdg : decode cc pc = .ok (.iastore, 1))
    (kk : ∀ (H1 : Heap) (locs1 : List Loc), va_P (gD G) vwCl (gL G (gu V k i.toNatClampNeg x)) H1 → va_S (gF G) H0 H1 locs1 → W p l e R s m args below meth c H1 locs1 cells slots Q (F0 m (pc + 1) ls rest)) : W p l e R s m args below meth c H locs cells slots Q (F0 m pc ls (.int x :: .int i :: .ref (gA G k) :: rest)) :=
  va_iast hx hb hT.1 hP (gL_D hT.2.1 V) hS k 0 (gL_at hk hkd) rfl hin hdg (fun H1 locs1 hP1 _ hS1 => kk H1 locs1 (by rw [gL_set (e := .inl (gcI G, n, .inl (upd (V k) i.toNatClampNeg x))) (f := upd (V k) i.toNatClampNeg x) hk hkd rfl] at hP1; exact hP1) hS1)
theorem gh_alen (hx : p.tables.exec = Jvm.exec) (hb : c.code = cc) (hT : gT G s) (hP : va_P (gD G) vwCl (gL G V) H) (k : Nat) (hk : k < 219) {n : Nat} (hkd : gk k = n + 11) (hdg : decode cc pc = .ok (.arraylength, 1))
    (kk : W p l e R s m args below meth c H locs cells slots Q (F0 m (pc + 1) ls (.int (nI n) :: rest))) : W p l e R s m args below meth c H locs cells slots Q (F0 m pc ls (.ref (gA G k) :: rest)) :=
  va_alen (x := (n, .inl (V k))) hx hb hT.1 hP k 0 (gL_at hk hkd) rfl rfl hdg kk
/-- arraycopy from the front of one row to the front of another -/
theorem gh_copy (hx : p.tables.exec = Jvm.exec) (hb : c.code = cc) (hml : c.maxLocals = ls.size) {own : String} {index : Nat} (hown : s.vm.findClass own = some m.cls) (hlink : (Cond.methodLink own index arraycopyName).before args s = true) (hnat : (Cond.native arraycopyName).before args s = true) (hstat : (Cond.static arraycopyName).before args s = true) (hini : (Cond.initialized "java/lang/System").before args s = true)
    (hT : gT G s) (hP : va_P (gD G) vwCl (gL G V) H) (hS : va_S (gF G) H0 H locs) (k0 k1 : Nat) (hk0 : k0 < 219) (hk1 : k1 < 219) {n0 n1 : Nat} (hkd0 : gk k0 = n0 + 11) (hkd1 : gk k1 = n1 + 11) {n : Int32} (h3 : ¬ n < 0) (h4 : n.toNatClampNeg ≤ n0) (h5 : n.toNatClampNeg ≤ n1)
    (hframes : 1 ≤ R.frames) (hlocals : (rest.map fun v => v.category).sum + (nativeFrameWords "java/lang/System" "arraycopy" 5 + 11) ≤ R.locals) (hdg : decode cc pc = .ok (.invokestatic index, 3))
    (kk : ∀ (H1 : Heap) (locs1 : List Loc), va_P (gD G) vwCl (gL G (gs V k1 (va_cpy (V k0) (V k1) 0 0 n.toNatClampNeg))) H1 → va_S (gF G) H0 H1 locs1 → W p l e R s m args below meth c H1 locs1 cells slots Q (F0 m (pc + 3) ls rest)) : W p l e R s m args below meth c H locs cells slots Q (F0 m pc ls (.int n :: .int 0 :: .ref (gA G k1) :: .int 0 :: .ref (gA G k0) :: rest)) :=
  va_copyi hx hb hml hown hlink hnat hstat hini hT.1 hP (gL_D hT.2.1 V) hS k0 k1 0 0 (gL_at hk0 hkd0) (gL_at hk1 hkd1) rfl rfl rfl (by decide) (by decide) h3 (by show 0 + _ ≤ _; omega) (by show 0 + _ ≤ _; omega) (fun _ _ => rfl) hframes hlocals hdg (fun H1 locs1 hP1 _ hS1 => kk H1 locs1 (by
    have e0 : (0 : Int32).toNatClampNeg = 0 := by decide
    rw [e0, gL_set (e := .inl (gcI G, n1, .inl (va_cpy (V k0) (V k1) 0 0 n.toNatClampNeg))) (f := va_cpy (V k0) (V k1) 0 0 n.toNatClampNeg) hk1 hkd1 rfl] at hP1; exact hP1) hS1)
/-- how a call's start is met -/
theorem gh_pre {As : List Value} (hT : gT G s) (hP : va_P (gD G) vwCl (gL G V) H) : PreS s H (va_Pc As (gW G V)) As :=
  ⟨gB, fun U hU hW => ⟨rfl, by rw [hU]; exact hP, hT.warm hW⟩⟩
theorem gh_preV {As : List Value} {k ci : Nat} {q : vw_C} {fs : List Value} (hT : gT G s) (hP : va_P (gD G) vwCl (gL G V) H) (hk : k < 219) (hkd : gk k = ci) (he : gE G (V k) ci k = .inr (ci, fs)) (hc : vwCl[ci]? = some q) : PreV s H q.1 (gA G k) (va_Pc (.ref (gA G k) :: As) (gW G V)) As :=
  ⟨gB, va_recv hT.1 hP hc ((gL_at hk hkd).trans (congrArg (fun z => some (gA G k, z)) he)), fun U hU hW => ⟨rfl, by rw [hU]; exact hP, hT.warm hW⟩⟩
variable {A : Array Value} {st0 : List Value} {mc ms : Nat}
/-- behind a call: the four ends -/
theorem gh_ki (hr : va_Run p l e R s m args below meth c H locs cells slots 0 0 (F0 m pc ls st0) rest (gQI G res A) (gF G)) (hS : va_S (gF G) H0 H locs)
    (kk : ∀ (H1 : Heap) (locs1 : List Loc), va_P (gD G) vwCl (gL G res.2) H1 → va_S (gF G) H0 H1 locs1 → W p l e R s m args below meth c H1 locs1 cells slots Q (F0 m (pc + 3) ls (.int res.1 :: rest))) : W p l e R s m args below meth c H locs cells slots Q (F0 m pc ls st0) :=
  va_calli hr hS (fun _ _ h => h) (fun _ h => h) (fun r V1 t H1 locs1 ht hvm hw hB _ _ hS1 => by
    subst hw
    exact kk H1 locs1 (by rw [← ht]; exact hB.1) hS1)
theorem gh_kr (hr : va_Run p l e R s m args below meth c H locs cells slots 0 0 (F0 m pc ls st0) rest (gQR G rer V A) (gF G)) (hS : va_S (gF G) H0 H locs)
    (kk : ∀ (H1 : Heap) (locs1 : List Loc), va_P (gD G) vwCl (gL G V) H1 → va_S (gF G) H0 H1 locs1 → W p l e R s m args below meth c H1 locs1 cells slots Q (F0 m (pc + 3) ls (.int rer :: rest))) : W p l e R s m args below meth c H locs cells slots Q (F0 m pc ls st0) :=
  va_calli hr hS (fun _ _ h => h) (fun _ h => h) (fun r V1 t H1 locs1 ht hvm hw hB _ _ hS1 => by
    obtain ⟨rfl, rfl⟩ := hw
    exact kk H1 locs1 (by rw [← ht]; exact hB.1) hS1)
theorem gh_kv (hr : va_Run p l e R s m args below meth c H locs cells slots 0 0 (F0 m pc ls st0) rest (gQV G rev A) (gF G)) (hS : va_S (gF G) H0 H locs)
    (kk : ∀ (H1 : Heap) (locs1 : List Loc), va_P (gD G) vwCl (gL G rev) H1 → va_S (gF G) H0 H1 locs1 → W p l e R s m args below meth c H1 locs1 cells slots Q (F0 m (pc + 3) ls rest)) : W p l e R s m args below meth c H locs cells slots Q (F0 m pc ls st0) :=
  va_callv hr hS (fun _ _ h => h) (fun _ h => h) (fun V1 t H1 locs1 ht hvm hw hB _ _ hS1 => by
    subst hw
    exact kk H1 locs1 (by rw [← ht]; exact hB.1) hS1)
theorem gh_kf (hr : va_Run p l e R s m args below meth c H locs cells slots 0 0 (F0 m pc ls st0) rest (gQF G ref V A) (gF G)) (hS : va_S (gF G) H0 H locs)
    (kk : ∀ (H1 : Heap) (locs1 : List Loc), va_P (gD G) vwCl (gL G V) H1 → va_S (gF G) H0 H1 locs1 → W p l e R s m args below meth c H1 locs1 cells slots Q (F0 m (pc + 3) ls (.float ref :: rest))) : W p l e R s m args below meth c H locs cells slots Q (F0 m pc ls st0) :=
  va_callf hr hS (fun _ _ h => h) (fun _ h => h) (fun r V1 t H1 locs1 ht hvm hw hB _ _ hS1 => by
    obtain ⟨rfl, rfl⟩ := hw
    exact kk H1 locs1 (by rw [← ht]; exact hB.1) hS1)
end GH
theorem gh_sw {x : Int32} {n : Nat} (hn : n < 2 ^ 31) (h : ∀ j, j ≤ n → ¬ x = nI j) : x.toInt < 0 ∨ (n : Int) < x.toInt := by
  rcases Int.lt_or_le x.toInt 0 with h0 | h0
  · exact Or.inl h0
  · rcases Int.lt_or_le (n : Int) x.toInt with h1 | h1
    · exact Or.inr h1
    · exfalso
      obtain ⟨j, hj⟩ := Int.eq_ofNat_of_zero_le h0
      have hjn : j ≤ n := by omega
      refine h j hjn (Int32.toInt_inj.mp ?_)
      rw [nI_toInt (by omega), hj]
/-- which kinds stand behind a place -/
def gX4 (k : Nat) : Prop := k + 1 < 219 ∧ gk k = 4 ∧ gk (k + 1) = gk (k + 1) - 11 + 11
def gX7 (k : Nat) : Prop := k + 8 < 219 ∧ gk k = 7 ∧ gX4 (k + 1) ∧ gX4 (k + 3) ∧ gX4 (k + 5) ∧ gX4 (k + 7)
def gX0 (k : Nat) : Prop := k + 12 < 219 ∧ gk k = 0 ∧ gX4 (k + 1) ∧ gX4 (k + 3) ∧ gX4 (k + 5) ∧ gX4 (k + 7) ∧ gX4 (k + 9) ∧ gX4 (k + 11)
def gX3 (k : Nat) : Prop := k < 219 ∧ gk k = 3
def gX2 (k : Nat) : Prop := k + 8 < 219 ∧ gk k = 2 ∧ gX4 (k + 1) ∧ gX4 (k + 3) ∧ gX4 (k + 5) ∧ gX4 (k + 7)
def gX5 (k : Nat) : Prop := k + 32 < 219 ∧ gk k = 5 ∧ gX7 (k + 1) ∧ gX0 (k + 10) ∧ gX3 (k + 23) ∧ gX2 (k + 24)
theorem kd0 : gk 0 = 8 := by decide +kernel
theorem kd1 : gk 1 = 5 := by decide +kernel
theorem kd2 : gk 2 = 7 := by decide +kernel
theorem kd3 : gk 3 = 4 := by decide +kernel
theorem kd4 : gk 4 = 16 + 11 := by decide +kernel
theorem kd5 : gk 5 = 4 := by decide +kernel
theorem kd6 : gk 6 = 16 + 11 := by decide +kernel
theorem kd7 : gk 7 = 4 := by decide +kernel
theorem kd8 : gk 8 = 16 + 11 := by decide +kernel
theorem kd9 : gk 9 = 4 := by decide +kernel
theorem kd10 : gk 10 = 128 + 11 := by decide +kernel
theorem kd11 : gk 11 = 0 := by decide +kernel
theorem kd12 : gk 12 = 4 := by decide +kernel
theorem kd13 : gk 13 = 5 + 11 := by decide +kernel
theorem kd14 : gk 14 = 4 := by decide +kernel
theorem kd15 : gk 15 = 5 + 11 := by decide +kernel
theorem kd16 : gk 16 = 4 := by decide +kernel
theorem kd17 : gk 17 = 5 + 11 := by decide +kernel
theorem kd18 : gk 18 = 4 := by decide +kernel
theorem kd19 : gk 19 = 5 + 11 := by decide +kernel
theorem kd20 : gk 20 = 4 := by decide +kernel
theorem kd21 : gk 21 = 5 + 11 := by decide +kernel
theorem kd22 : gk 22 = 4 := by decide +kernel
theorem kd23 : gk 23 = 5 + 11 := by decide +kernel
theorem kd24 : gk 24 = 3 := by decide +kernel
theorem kd25 : gk 25 = 2 := by decide +kernel
theorem kd26 : gk 26 = 4 := by decide +kernel
theorem kd27 : gk 27 = 6 + 11 := by decide +kernel
theorem kd28 : gk 28 = 4 := by decide +kernel
theorem kd29 : gk 29 = 6 + 11 := by decide +kernel
theorem kd30 : gk 30 = 4 := by decide +kernel
theorem kd31 : gk 31 = 6 + 11 := by decide +kernel
theorem kd32 : gk 32 = 4 := by decide +kernel
theorem kd33 : gk 33 = 6 + 11 := by decide +kernel
theorem kd34 : gk 34 = 5 := by decide +kernel
theorem kd35 : gk 35 = 7 := by decide +kernel
theorem kd36 : gk 36 = 4 := by decide +kernel
theorem kd37 : gk 37 = 16 + 11 := by decide +kernel
theorem kd38 : gk 38 = 4 := by decide +kernel
theorem kd39 : gk 39 = 16 + 11 := by decide +kernel
theorem kd40 : gk 40 = 4 := by decide +kernel
theorem kd41 : gk 41 = 16 + 11 := by decide +kernel
theorem kd42 : gk 42 = 4 := by decide +kernel
theorem kd43 : gk 43 = 128 + 11 := by decide +kernel
theorem kd44 : gk 44 = 0 := by decide +kernel
theorem kd45 : gk 45 = 4 := by decide +kernel
theorem kd46 : gk 46 = 5 + 11 := by decide +kernel
theorem kd47 : gk 47 = 4 := by decide +kernel
theorem kd48 : gk 48 = 5 + 11 := by decide +kernel
theorem kd49 : gk 49 = 4 := by decide +kernel
theorem kd50 : gk 50 = 5 + 11 := by decide +kernel
theorem kd51 : gk 51 = 4 := by decide +kernel
theorem kd52 : gk 52 = 5 + 11 := by decide +kernel
theorem kd53 : gk 53 = 4 := by decide +kernel
theorem kd54 : gk 54 = 5 + 11 := by decide +kernel
theorem kd55 : gk 55 = 4 := by decide +kernel
theorem kd56 : gk 56 = 5 + 11 := by decide +kernel
theorem kd57 : gk 57 = 3 := by decide +kernel
theorem kd58 : gk 58 = 2 := by decide +kernel
theorem kd59 : gk 59 = 4 := by decide +kernel
theorem kd60 : gk 60 = 6 + 11 := by decide +kernel
theorem kd61 : gk 61 = 4 := by decide +kernel
theorem kd62 : gk 62 = 6 + 11 := by decide +kernel
theorem kd63 : gk 63 = 4 := by decide +kernel
theorem kd64 : gk 64 = 6 + 11 := by decide +kernel
theorem kd65 : gk 65 = 4 := by decide +kernel
theorem kd66 : gk 66 = 6 + 11 := by decide +kernel
theorem kd67 : gk 67 = 1 := by decide +kernel
theorem kd68 : gk 68 = 10 := by decide +kernel
theorem kd69 : gk 69 = 5 := by decide +kernel
theorem kd70 : gk 70 = 7 := by decide +kernel
theorem kd71 : gk 71 = 4 := by decide +kernel
theorem kd72 : gk 72 = 16 + 11 := by decide +kernel
theorem kd73 : gk 73 = 4 := by decide +kernel
theorem kd74 : gk 74 = 16 + 11 := by decide +kernel
theorem kd75 : gk 75 = 4 := by decide +kernel
theorem kd76 : gk 76 = 16 + 11 := by decide +kernel
theorem kd77 : gk 77 = 4 := by decide +kernel
theorem kd78 : gk 78 = 128 + 11 := by decide +kernel
theorem kd79 : gk 79 = 0 := by decide +kernel
theorem kd80 : gk 80 = 4 := by decide +kernel
theorem kd81 : gk 81 = 5 + 11 := by decide +kernel
theorem kd82 : gk 82 = 4 := by decide +kernel
theorem kd83 : gk 83 = 5 + 11 := by decide +kernel
theorem kd84 : gk 84 = 4 := by decide +kernel
theorem kd85 : gk 85 = 5 + 11 := by decide +kernel
theorem kd86 : gk 86 = 4 := by decide +kernel
theorem kd87 : gk 87 = 5 + 11 := by decide +kernel
theorem kd88 : gk 88 = 4 := by decide +kernel
theorem kd89 : gk 89 = 5 + 11 := by decide +kernel
theorem kd90 : gk 90 = 4 := by decide +kernel
theorem kd91 : gk 91 = 5 + 11 := by decide +kernel
theorem kd92 : gk 92 = 3 := by decide +kernel
theorem kd93 : gk 93 = 2 := by decide +kernel
theorem kd94 : gk 94 = 4 := by decide +kernel
theorem kd95 : gk 95 = 6 + 11 := by decide +kernel
theorem kd96 : gk 96 = 4 := by decide +kernel
theorem kd97 : gk 97 = 6 + 11 := by decide +kernel
theorem kd98 : gk 98 = 4 := by decide +kernel
theorem kd99 : gk 99 = 6 + 11 := by decide +kernel
theorem kd100 : gk 100 = 4 := by decide +kernel
theorem kd101 : gk 101 = 6 + 11 := by decide +kernel
theorem kd102 : gk 102 = 5 := by decide +kernel
theorem kd103 : gk 103 = 7 := by decide +kernel
theorem kd104 : gk 104 = 4 := by decide +kernel
theorem kd105 : gk 105 = 16 + 11 := by decide +kernel
theorem kd106 : gk 106 = 4 := by decide +kernel
theorem kd107 : gk 107 = 16 + 11 := by decide +kernel
theorem kd108 : gk 108 = 4 := by decide +kernel
theorem kd109 : gk 109 = 16 + 11 := by decide +kernel
theorem kd110 : gk 110 = 4 := by decide +kernel
theorem kd111 : gk 111 = 128 + 11 := by decide +kernel
theorem kd112 : gk 112 = 0 := by decide +kernel
theorem kd113 : gk 113 = 4 := by decide +kernel
theorem kd114 : gk 114 = 5 + 11 := by decide +kernel
theorem kd115 : gk 115 = 4 := by decide +kernel
theorem kd116 : gk 116 = 5 + 11 := by decide +kernel
theorem kd117 : gk 117 = 4 := by decide +kernel
theorem kd118 : gk 118 = 5 + 11 := by decide +kernel
theorem kd119 : gk 119 = 4 := by decide +kernel
theorem kd120 : gk 120 = 5 + 11 := by decide +kernel
theorem kd121 : gk 121 = 4 := by decide +kernel
theorem kd122 : gk 122 = 5 + 11 := by decide +kernel
theorem kd123 : gk 123 = 4 := by decide +kernel
theorem kd124 : gk 124 = 5 + 11 := by decide +kernel
theorem kd125 : gk 125 = 3 := by decide +kernel
theorem kd126 : gk 126 = 2 := by decide +kernel
theorem kd127 : gk 127 = 4 := by decide +kernel
theorem kd128 : gk 128 = 6 + 11 := by decide +kernel
theorem kd129 : gk 129 = 4 := by decide +kernel
theorem kd130 : gk 130 = 6 + 11 := by decide +kernel
theorem kd131 : gk 131 = 4 := by decide +kernel
theorem kd132 : gk 132 = 6 + 11 := by decide +kernel
theorem kd133 : gk 133 = 4 := by decide +kernel
theorem kd134 : gk 134 = 6 + 11 := by decide +kernel
theorem kd135 : gk 135 = 5 := by decide +kernel
theorem kd136 : gk 136 = 7 := by decide +kernel
theorem kd137 : gk 137 = 4 := by decide +kernel
theorem kd138 : gk 138 = 16 + 11 := by decide +kernel
theorem kd139 : gk 139 = 4 := by decide +kernel
theorem kd140 : gk 140 = 16 + 11 := by decide +kernel
theorem kd141 : gk 141 = 4 := by decide +kernel
theorem kd142 : gk 142 = 16 + 11 := by decide +kernel
theorem kd143 : gk 143 = 4 := by decide +kernel
theorem kd144 : gk 144 = 128 + 11 := by decide +kernel
theorem kd145 : gk 145 = 0 := by decide +kernel
theorem kd146 : gk 146 = 4 := by decide +kernel
theorem kd147 : gk 147 = 5 + 11 := by decide +kernel
theorem kd148 : gk 148 = 4 := by decide +kernel
theorem kd149 : gk 149 = 5 + 11 := by decide +kernel
theorem kd150 : gk 150 = 4 := by decide +kernel
theorem kd151 : gk 151 = 5 + 11 := by decide +kernel
theorem kd152 : gk 152 = 4 := by decide +kernel
theorem kd153 : gk 153 = 5 + 11 := by decide +kernel
theorem kd154 : gk 154 = 4 := by decide +kernel
theorem kd155 : gk 155 = 5 + 11 := by decide +kernel
theorem kd156 : gk 156 = 4 := by decide +kernel
theorem kd157 : gk 157 = 5 + 11 := by decide +kernel
theorem kd158 : gk 158 = 3 := by decide +kernel
theorem kd159 : gk 159 = 2 := by decide +kernel
theorem kd160 : gk 160 = 4 := by decide +kernel
theorem kd161 : gk 161 = 6 + 11 := by decide +kernel
theorem kd162 : gk 162 = 4 := by decide +kernel
theorem kd163 : gk 163 = 6 + 11 := by decide +kernel
theorem kd164 : gk 164 = 4 := by decide +kernel
theorem kd165 : gk 165 = 6 + 11 := by decide +kernel
theorem kd166 : gk 166 = 4 := by decide +kernel
theorem kd167 : gk 167 = 6 + 11 := by decide +kernel
theorem kd168 : gk 168 = 5 := by decide +kernel
theorem kd169 : gk 169 = 7 := by decide +kernel
theorem kd170 : gk 170 = 4 := by decide +kernel
theorem kd171 : gk 171 = 16 + 11 := by decide +kernel
theorem kd172 : gk 172 = 4 := by decide +kernel
theorem kd173 : gk 173 = 16 + 11 := by decide +kernel
theorem kd174 : gk 174 = 4 := by decide +kernel
theorem kd175 : gk 175 = 16 + 11 := by decide +kernel
theorem kd176 : gk 176 = 4 := by decide +kernel
theorem kd177 : gk 177 = 128 + 11 := by decide +kernel
theorem kd178 : gk 178 = 0 := by decide +kernel
theorem kd179 : gk 179 = 4 := by decide +kernel
theorem kd180 : gk 180 = 5 + 11 := by decide +kernel
theorem kd181 : gk 181 = 4 := by decide +kernel
theorem kd182 : gk 182 = 5 + 11 := by decide +kernel
theorem kd183 : gk 183 = 4 := by decide +kernel
theorem kd184 : gk 184 = 5 + 11 := by decide +kernel
theorem kd185 : gk 185 = 4 := by decide +kernel
theorem kd186 : gk 186 = 5 + 11 := by decide +kernel
theorem kd187 : gk 187 = 4 := by decide +kernel
theorem kd188 : gk 188 = 5 + 11 := by decide +kernel
theorem kd189 : gk 189 = 4 := by decide +kernel
theorem kd190 : gk 190 = 5 + 11 := by decide +kernel
theorem kd191 : gk 191 = 3 := by decide +kernel
theorem kd192 : gk 192 = 2 := by decide +kernel
theorem kd193 : gk 193 = 4 := by decide +kernel
theorem kd194 : gk 194 = 6 + 11 := by decide +kernel
theorem kd195 : gk 195 = 4 := by decide +kernel
theorem kd196 : gk 196 = 6 + 11 := by decide +kernel
theorem kd197 : gk 197 = 4 := by decide +kernel
theorem kd198 : gk 198 = 6 + 11 := by decide +kernel
theorem kd199 : gk 199 = 4 := by decide +kernel
theorem kd200 : gk 200 = 6 + 11 := by decide +kernel
theorem kd201 : gk 201 = 6 := by decide +kernel
theorem kd202 : gk 202 = 7 := by decide +kernel
theorem kd203 : gk 203 = 4 := by decide +kernel
theorem kd204 : gk 204 = 16 + 11 := by decide +kernel
theorem kd205 : gk 205 = 4 := by decide +kernel
theorem kd206 : gk 206 = 16 + 11 := by decide +kernel
theorem kd207 : gk 207 = 4 := by decide +kernel
theorem kd208 : gk 208 = 16 + 11 := by decide +kernel
theorem kd209 : gk 209 = 4 := by decide +kernel
theorem kd210 : gk 210 = 128 + 11 := by decide +kernel
theorem kd211 : gk 211 = 4 := by decide +kernel
theorem kd212 : gk 212 = 120 + 11 := by decide +kernel
theorem kd213 : gk 213 = 9 := by decide +kernel
theorem kd214 : gk 214 = 246 + 11 := by decide +kernel
theorem kd215 : gk 215 = 984 + 11 := by decide +kernel
theorem kd216 : gk 216 = 246 + 11 := by decide +kernel
theorem kd217 : gk 217 = 120 + 11 := by decide +kernel
theorem kd218 : gk 218 = 160 + 11 := by decide +kernel
/-- a number that is a boolean -/
def gZ (x : Int32) : Prop := x = 0 ∨ x = 1
theorem gZ.n {x : Int32} (h : gZ x) : narrow .boolean (.int x) = .int x := by
  rcases h with rfl | rfl <;> rfl
theorem gZ.f {x : Int32} (h : gZ x) : fits .boolean (.int x) = true := by
  rcases h with rfl | rfl <;> rfl
theorem gh_in {x : Int32} {n : Nat} (h0 : ¬ x < 0) (h1 : ¬ nI n ≤ x) (hn : n < 2 ^ 31) : vp_in x n := by
  obtain ⟨j, hj, rfl⟩ := nI_of h0
  refine vp_in_nI ?_ hn
  rcases Nat.lt_or_ge j n with h | h
  · exact h
  · exact absurd (nI_le h hj) h1
theorem gh_hw {args : Array Value} {s : State} {y : MethodName} {b : ByteArray} {n : Nat} {ret : Option FieldType} (h : ∀ w ∈ (Cond.code y b n ret :: wsL_law), w.before args s = true) : ∀ w ∈ wsL_law, w.before args s = true := fun w hw => h w (List.mem_cons_of_mem _ hw)
theorem gh_g1 {y : MethodName} {b : ByteArray} {n : Nat} {ret : Option FieldType} (h : Cond.code y b n ret ∈ wsL_law) : GoodIn wsL_law (Cond.code y b n ret :: wsL_law) := by
  intro w hw
  have hm : w ∈ wsL_law := by
    rcases List.mem_cons.mp hw with rfl | hw
    · exact h
    · exact hw
  exact ⟨hm, good_of_word (List.all_eq_true.mp gh_good w hm)⟩
theorem gh_g2 {ws : List Cond} (h : ∀ w ∈ ws, w ∈ wsL_law) : GoodIn wsL_law ws := fun w hw => ⟨h w hw, good_of_word (List.all_eq_true.mp gh_good w (h w hw))⟩
theorem gh_gV {own C : String} {idx : Nat} {y : MethodName} {b : ByteArray} {n : Nat} {ret : Option FieldType} (h1 : Cond.methodLink own idx y ∈ wsL_law) (h2 : Cond.instanceMethod y ∈ wsL_law) (h3 : Cond.selects C y y ∈ wsL_law) (h4 : Cond.initialized C ∈ wsL_law) (h5 : Cond.code y b n ret ∈ wsL_law) : GoodIn wsL_law (wsV own idx C y (Cond.code y b n ret :: wsL_law)) :=
  goodIn_app (gh_g2 (List.forall_mem_cons.mpr ⟨h1, List.forall_mem_cons.mpr ⟨h2, List.forall_mem_cons.mpr ⟨h3, List.forall_mem_cons.mpr ⟨h4, fun _ h => absurd h List.not_mem_nil⟩⟩⟩⟩)) (gh_g1 h5)
theorem gh_gS {own : String} {idx : Nat} {y : MethodName} {b : ByteArray} {n : Nat} {ret : Option FieldType} (h1 : Cond.methodLink own idx y ∈ wsL_law) (h2 : Cond.static y ∈ wsL_law) (h4 : Cond.initialized y.cls ∈ wsL_law) (h5 : Cond.code y b n ret ∈ wsL_law) : GoodIn wsL_law (va_wsS own idx y (Cond.code y b n ret :: wsL_law)) :=
  goodIn_app (gh_g2 (List.forall_mem_cons.mpr ⟨h1, List.forall_mem_cons.mpr ⟨h2, List.forall_mem_cons.mpr ⟨h4, fun _ h => absurd h List.not_mem_nil⟩⟩⟩)) (gh_g1 h5)
end
section
theorem dX0_init_0 : decode cX0_init 0 = .ok (.aload_n 0, 1) := by decide +kernel
theorem dX0_init_1 : decode cX0_init 1 = .ok (.invokespecial 3, 3) := by decide +kernel
theorem dX0_init_4 : decode cX0_init 4 = .ok (.aload_n 0, 1) := by decide +kernel
theorem dX0_init_5 : decode cX0_init 5 = .ok (.new 9, 3) := by decide +kernel
theorem dX0_init_8 : decode cX0_init 8 = .ok (.dup, 1) := by decide +kernel
theorem dX0_init_9 : decode cX0_init 9 = .ok (.iconst 5, 1) := by decide +kernel
theorem dX0_init_10 : decode cX0_init 10 = .ok (.invokespecial 11, 3) := by decide +kernel
theorem dX0_init_13 : decode cX0_init 13 = .ok (.putfield 14, 3) := by decide +kernel
theorem dX0_init_16 : decode cX0_init 16 = .ok (.aload_n 0, 1) := by decide +kernel
theorem dX0_init_17 : decode cX0_init 17 = .ok (.new 9, 3) := by decide +kernel
theorem dX0_init_20 : decode cX0_init 20 = .ok (.dup, 1) := by decide +kernel
theorem dX0_init_21 : decode cX0_init 21 = .ok (.iconst 5, 1) := by decide +kernel
theorem dX0_init_22 : decode cX0_init 22 = .ok (.invokespecial 11, 3) := by decide +kernel
theorem dX0_init_25 : decode cX0_init 25 = .ok (.putfield 20, 3) := by decide +kernel
theorem dX0_init_28 : decode cX0_init 28 = .ok (.aload_n 0, 1) := by decide +kernel
theorem dX0_init_29 : decode cX0_init 29 = .ok (.new 9, 3) := by decide +kernel
theorem dX0_init_32 : decode cX0_init 32 = .ok (.dup, 1) := by decide +kernel
theorem dX0_init_33 : decode cX0_init 33 = .ok (.iconst 5, 1) := by decide +kernel
theorem dX0_init_34 : decode cX0_init 34 = .ok (.invokespecial 11, 3) := by decide +kernel
theorem dX0_init_37 : decode cX0_init 37 = .ok (.putfield 23, 3) := by decide +kernel
theorem dX0_init_40 : decode cX0_init 40 = .ok (.aload_n 0, 1) := by decide +kernel
theorem dX0_init_41 : decode cX0_init 41 = .ok (.new 9, 3) := by decide +kernel
theorem dX0_init_44 : decode cX0_init 44 = .ok (.dup, 1) := by decide +kernel
theorem dX0_init_45 : decode cX0_init 45 = .ok (.iconst 5, 1) := by decide +kernel
theorem dX0_init_46 : decode cX0_init 46 = .ok (.invokespecial 11, 3) := by decide +kernel
theorem dX0_init_49 : decode cX0_init 49 = .ok (.putfield 26, 3) := by decide +kernel
theorem dX0_init_52 : decode cX0_init 52 = .ok (.aload_n 0, 1) := by decide +kernel
theorem dX0_init_53 : decode cX0_init 53 = .ok (.new 9, 3) := by decide +kernel
theorem dX0_init_56 : decode cX0_init 56 = .ok (.dup, 1) := by decide +kernel
theorem dX0_init_57 : decode cX0_init 57 = .ok (.iconst 5, 1) := by decide +kernel
theorem dX0_init_58 : decode cX0_init 58 = .ok (.invokespecial 11, 3) := by decide +kernel
theorem dX0_init_61 : decode cX0_init 61 = .ok (.putfield 29, 3) := by decide +kernel
theorem dX0_init_64 : decode cX0_init 64 = .ok (.aload_n 0, 1) := by decide +kernel
theorem dX0_init_65 : decode cX0_init 65 = .ok (.new 9, 3) := by decide +kernel
theorem dX0_init_68 : decode cX0_init 68 = .ok (.dup, 1) := by decide +kernel
theorem dX0_init_69 : decode cX0_init 69 = .ok (.iconst 5, 1) := by decide +kernel
theorem dX0_init_70 : decode cX0_init 70 = .ok (.invokespecial 11, 3) := by decide +kernel
theorem dX0_init_73 : decode cX0_init 73 = .ok (.putfield 32, 3) := by decide +kernel
theorem dX0_init_76 : decode cX0_init 76 = .ok (.return_, 1) := by decide +kernel
theorem dX0_copyFrom_0 : decode cX0_copyFrom 0 = .ok (.aload_n 0, 1) := by decide +kernel
theorem dX0_copyFrom_1 : decode cX0_copyFrom 1 = .ok (.aload_n 1, 1) := by decide +kernel
theorem dX0_copyFrom_2 : decode cX0_copyFrom 2 = .ok (.getfield 35, 3) := by decide +kernel
theorem dX0_copyFrom_5 : decode cX0_copyFrom 5 = .ok (.putfield 35, 3) := by decide +kernel
theorem dX0_copyFrom_8 : decode cX0_copyFrom 8 = .ok (.aload_n 0, 1) := by decide +kernel
theorem dX0_copyFrom_9 : decode cX0_copyFrom 9 = .ok (.getfield 14, 3) := by decide +kernel
theorem dX0_copyFrom_12 : decode cX0_copyFrom 12 = .ok (.aload_n 1, 1) := by decide +kernel
theorem dX0_copyFrom_13 : decode cX0_copyFrom 13 = .ok (.getfield 14, 3) := by decide +kernel
theorem dX0_copyFrom_16 : decode cX0_copyFrom 16 = .ok (.invokevirtual 39, 3) := by decide +kernel
theorem dX0_copyFrom_19 : decode cX0_copyFrom 19 = .ok (.aload_n 0, 1) := by decide +kernel
theorem dX0_copyFrom_20 : decode cX0_copyFrom 20 = .ok (.getfield 20, 3) := by decide +kernel
theorem dX0_copyFrom_23 : decode cX0_copyFrom 23 = .ok (.aload_n 1, 1) := by decide +kernel
theorem dX0_copyFrom_24 : decode cX0_copyFrom 24 = .ok (.getfield 20, 3) := by decide +kernel
theorem dX0_copyFrom_27 : decode cX0_copyFrom 27 = .ok (.invokevirtual 39, 3) := by decide +kernel
theorem dX0_copyFrom_30 : decode cX0_copyFrom 30 = .ok (.aload_n 0, 1) := by decide +kernel
theorem dX0_copyFrom_31 : decode cX0_copyFrom 31 = .ok (.getfield 23, 3) := by decide +kernel
theorem dX0_copyFrom_34 : decode cX0_copyFrom 34 = .ok (.aload_n 1, 1) := by decide +kernel
theorem dX0_copyFrom_35 : decode cX0_copyFrom 35 = .ok (.getfield 23, 3) := by decide +kernel
theorem dX0_copyFrom_38 : decode cX0_copyFrom 38 = .ok (.invokevirtual 39, 3) := by decide +kernel
theorem dX0_copyFrom_41 : decode cX0_copyFrom 41 = .ok (.aload_n 0, 1) := by decide +kernel
theorem dX0_copyFrom_42 : decode cX0_copyFrom 42 = .ok (.getfield 26, 3) := by decide +kernel
theorem dX0_copyFrom_45 : decode cX0_copyFrom 45 = .ok (.aload_n 1, 1) := by decide +kernel
theorem dX0_copyFrom_46 : decode cX0_copyFrom 46 = .ok (.getfield 26, 3) := by decide +kernel
theorem dX0_copyFrom_49 : decode cX0_copyFrom 49 = .ok (.invokevirtual 39, 3) := by decide +kernel
theorem dX0_copyFrom_52 : decode cX0_copyFrom 52 = .ok (.aload_n 0, 1) := by decide +kernel
theorem dX0_copyFrom_53 : decode cX0_copyFrom 53 = .ok (.getfield 29, 3) := by decide +kernel
theorem dX0_copyFrom_56 : decode cX0_copyFrom 56 = .ok (.aload_n 1, 1) := by decide +kernel
theorem dX0_copyFrom_57 : decode cX0_copyFrom 57 = .ok (.getfield 29, 3) := by decide +kernel
theorem dX0_copyFrom_60 : decode cX0_copyFrom 60 = .ok (.invokevirtual 39, 3) := by decide +kernel
theorem dX0_copyFrom_63 : decode cX0_copyFrom 63 = .ok (.aload_n 0, 1) := by decide +kernel
theorem dX0_copyFrom_64 : decode cX0_copyFrom 64 = .ok (.getfield 32, 3) := by decide +kernel
theorem dX0_copyFrom_67 : decode cX0_copyFrom 67 = .ok (.aload_n 1, 1) := by decide +kernel
theorem dX0_copyFrom_68 : decode cX0_copyFrom 68 = .ok (.getfield 32, 3) := by decide +kernel
theorem dX0_copyFrom_71 : decode cX0_copyFrom 71 = .ok (.invokevirtual 39, 3) := by decide +kernel
theorem dX0_copyFrom_74 : decode cX0_copyFrom 74 = .ok (.return_, 1) := by decide +kernel
theorem dX0_has_0 : decode cX0_has 0 = .ok (.iload_n 1, 1) := by decide +kernel
theorem dX0_has_1 : decode cX0_has 1 = .ok (.ifCond .lt 15, 3) := by decide +kernel
theorem dX0_has_4 : decode cX0_has 4 = .ok (.iload_n 1, 1) := by decide +kernel
theorem dX0_has_5 : decode cX0_has 5 = .ok (.aload_n 0, 1) := by decide +kernel
theorem dX0_has_6 : decode cX0_has 6 = .ok (.getfield 35, 3) := by decide +kernel
theorem dX0_has_9 : decode cX0_has 9 = .ok (.if_icmp .ge 7, 3) := by decide +kernel
theorem dX0_has_12 : decode cX0_has 12 = .ok (.iconst 1, 1) := by decide +kernel
theorem dX0_has_13 : decode cX0_has 13 = .ok (.goto 4, 3) := by decide +kernel
theorem dX0_has_16 : decode cX0_has 16 = .ok (.iconst 0, 1) := by decide +kernel
theorem dX0_has_17 : decode cX0_has 17 = .ok (.ireturn, 1) := by decide +kernel
theorem dX0_add_0 : decode cX0_add 0 = .ok (.aload_n 0, 1) := by decide +kernel
theorem dX0_add_1 : decode cX0_add 1 = .ok (.getfield 35, 3) := by decide +kernel
theorem dX0_add_4 : decode cX0_add 4 = .ok (.istore_n 2, 1) := by decide +kernel
theorem dX0_add_5 : decode cX0_add 5 = .ok (.aload_n 0, 1) := by decide +kernel
theorem dX0_add_6 : decode cX0_add 6 = .ok (.getfield 14, 3) := by decide +kernel
theorem dX0_add_9 : decode cX0_add 9 = .ok (.iload_n 2, 1) := by decide +kernel
theorem dX0_add_10 : decode cX0_add 10 = .ok (.iload_n 1, 1) := by decide +kernel
theorem dX0_add_11 : decode cX0_add 11 = .ok (.invokevirtual 43, 3) := by decide +kernel
theorem dX0_add_14 : decode cX0_add 14 = .ok (.aload_n 0, 1) := by decide +kernel
theorem dX0_add_15 : decode cX0_add 15 = .ok (.getfield 20, 3) := by decide +kernel
theorem dX0_add_18 : decode cX0_add 18 = .ok (.iload_n 2, 1) := by decide +kernel
theorem dX0_add_19 : decode cX0_add 19 = .ok (.iconst 0, 1) := by decide +kernel
theorem dX0_add_20 : decode cX0_add 20 = .ok (.invokevirtual 43, 3) := by decide +kernel
theorem dX0_add_23 : decode cX0_add 23 = .ok (.aload_n 0, 1) := by decide +kernel
theorem dX0_add_24 : decode cX0_add 24 = .ok (.getfield 23, 3) := by decide +kernel
theorem dX0_add_27 : decode cX0_add 27 = .ok (.iload_n 2, 1) := by decide +kernel
theorem dX0_add_28 : decode cX0_add 28 = .ok (.iconst 0, 1) := by decide +kernel
theorem dX0_add_29 : decode cX0_add 29 = .ok (.invokevirtual 43, 3) := by decide +kernel
theorem dX0_add_32 : decode cX0_add 32 = .ok (.aload_n 0, 1) := by decide +kernel
theorem dX0_add_33 : decode cX0_add 33 = .ok (.getfield 26, 3) := by decide +kernel
theorem dX0_add_36 : decode cX0_add 36 = .ok (.iload_n 2, 1) := by decide +kernel
theorem dX0_add_37 : decode cX0_add 37 = .ok (.iconst 0, 1) := by decide +kernel
theorem dX0_add_38 : decode cX0_add 38 = .ok (.invokevirtual 43, 3) := by decide +kernel
theorem dX0_add_41 : decode cX0_add 41 = .ok (.aload_n 0, 1) := by decide +kernel
theorem dX0_add_42 : decode cX0_add 42 = .ok (.iload_n 2, 1) := by decide +kernel
theorem dX0_add_43 : decode cX0_add 43 = .ok (.invokevirtual 47, 3) := by decide +kernel
theorem dX0_add_46 : decode cX0_add 46 = .ok (.aload_n 0, 1) := by decide +kernel
theorem dX0_add_47 : decode cX0_add 47 = .ok (.dup, 1) := by decide +kernel
theorem dX0_add_48 : decode cX0_add 48 = .ok (.getfield 35, 3) := by decide +kernel
theorem dX0_add_51 : decode cX0_add 51 = .ok (.iconst 1, 1) := by decide +kernel
theorem dX0_add_52 : decode cX0_add 52 = .ok (.iadd, 1) := by decide +kernel
theorem dX0_add_53 : decode cX0_add 53 = .ok (.putfield 35, 3) := by decide +kernel
theorem dX0_add_56 : decode cX0_add 56 = .ok (.iload_n 2, 1) := by decide +kernel
theorem dX0_add_57 : decode cX0_add 57 = .ok (.ireturn, 1) := by decide +kernel
theorem dX0_canAllPay_0 : decode cX0_canAllPay 0 = .ok (.iconst 0, 1) := by decide +kernel
theorem dX0_canAllPay_1 : decode cX0_canAllPay 1 = .ok (.istore_n 2, 1) := by decide +kernel
theorem dX0_canAllPay_2 : decode cX0_canAllPay 2 = .ok (.iload_n 2, 1) := by decide +kernel
theorem dX0_canAllPay_3 : decode cX0_canAllPay 3 = .ok (.aload_n 0, 1) := by decide +kernel
theorem dX0_canAllPay_4 : decode cX0_canAllPay 4 = .ok (.getfield 35, 3) := by decide +kernel
theorem dX0_canAllPay_7 : decode cX0_canAllPay 7 = .ok (.if_icmp .ge 23, 3) := by decide +kernel
theorem dX0_canAllPay_10 : decode cX0_canAllPay 10 = .ok (.aload_n 0, 1) := by decide +kernel
theorem dX0_canAllPay_11 : decode cX0_canAllPay 11 = .ok (.getfield 14, 3) := by decide +kernel
theorem dX0_canAllPay_14 : decode cX0_canAllPay 14 = .ok (.iload_n 2, 1) := by decide +kernel
theorem dX0_canAllPay_15 : decode cX0_canAllPay 15 = .ok (.invokevirtual 50, 3) := by decide +kernel
theorem dX0_canAllPay_18 : decode cX0_canAllPay 18 = .ok (.iload_n 1, 1) := by decide +kernel
theorem dX0_canAllPay_19 : decode cX0_canAllPay 19 = .ok (.if_icmp .ge 5, 3) := by decide +kernel
theorem dX0_canAllPay_22 : decode cX0_canAllPay 22 = .ok (.iconst 0, 1) := by decide +kernel
theorem dX0_canAllPay_23 : decode cX0_canAllPay 23 = .ok (.ireturn, 1) := by decide +kernel
theorem dX0_canAllPay_24 : decode cX0_canAllPay 24 = .ok (.iinc 2 1, 3) := by decide +kernel
theorem dX0_canAllPay_27 : decode cX0_canAllPay 27 = .ok (.goto (-25), 3) := by decide +kernel
theorem dX0_canAllPay_30 : decode cX0_canAllPay 30 = .ok (.iconst 1, 1) := by decide +kernel
theorem dX0_canAllPay_31 : decode cX0_canAllPay 31 = .ok (.ireturn, 1) := by decide +kernel
theorem dX0_takeFromAll_0 : decode cX0_takeFromAll 0 = .ok (.iconst 0, 1) := by decide +kernel
theorem dX0_takeFromAll_1 : decode cX0_takeFromAll 1 = .ok (.istore_n 2, 1) := by decide +kernel
theorem dX0_takeFromAll_2 : decode cX0_takeFromAll 2 = .ok (.iload_n 2, 1) := by decide +kernel
theorem dX0_takeFromAll_3 : decode cX0_takeFromAll 3 = .ok (.aload_n 0, 1) := by decide +kernel
theorem dX0_takeFromAll_4 : decode cX0_takeFromAll 4 = .ok (.getfield 35, 3) := by decide +kernel
theorem dX0_takeFromAll_7 : decode cX0_takeFromAll 7 = .ok (.if_icmp .ge 19, 3) := by decide +kernel
theorem dX0_takeFromAll_10 : decode cX0_takeFromAll 10 = .ok (.aload_n 0, 1) := by decide +kernel
theorem dX0_takeFromAll_11 : decode cX0_takeFromAll 11 = .ok (.getfield 14, 3) := by decide +kernel
theorem dX0_takeFromAll_14 : decode cX0_takeFromAll 14 = .ok (.iload_n 2, 1) := by decide +kernel
theorem dX0_takeFromAll_15 : decode cX0_takeFromAll 15 = .ok (.iload_n 1, 1) := by decide +kernel
theorem dX0_takeFromAll_16 : decode cX0_takeFromAll 16 = .ok (.ineg, 1) := by decide +kernel
theorem dX0_takeFromAll_17 : decode cX0_takeFromAll 17 = .ok (.invokevirtual 54, 3) := by decide +kernel
theorem dX0_takeFromAll_20 : decode cX0_takeFromAll 20 = .ok (.iinc 2 1, 3) := by decide +kernel
theorem dX0_takeFromAll_23 : decode cX0_takeFromAll 23 = .ok (.goto (-21), 3) := by decide +kernel
theorem dX0_takeFromAll_26 : decode cX0_takeFromAll 26 = .ok (.return_, 1) := by decide +kernel
theorem dX0_behind_0 : decode cX0_behind 0 = .ok (.iload_n 1, 1) := by decide +kernel
theorem dX0_behind_1 : decode cX0_behind 1 = .ok (.iconst 1, 1) := by decide +kernel
theorem dX0_behind_2 : decode cX0_behind 2 = .ok (.iadd, 1) := by decide +kernel
theorem dX0_behind_3 : decode cX0_behind 3 = .ok (.aload_n 0, 1) := by decide +kernel
theorem dX0_behind_4 : decode cX0_behind 4 = .ok (.getfield 35, 3) := by decide +kernel
theorem dX0_behind_7 : decode cX0_behind 7 = .ok (.if_icmp .ge 9, 3) := by decide +kernel
theorem dX0_behind_10 : decode cX0_behind 10 = .ok (.iload_n 1, 1) := by decide +kernel
theorem dX0_behind_11 : decode cX0_behind 11 = .ok (.iconst 1, 1) := by decide +kernel
theorem dX0_behind_12 : decode cX0_behind 12 = .ok (.iadd, 1) := by decide +kernel
theorem dX0_behind_13 : decode cX0_behind 13 = .ok (.goto 4, 3) := by decide +kernel
theorem dX0_behind_16 : decode cX0_behind 16 = .ok (.iconst 0, 1) := by decide +kernel
theorem dX0_behind_17 : decode cX0_behind 17 = .ok (.ireturn, 1) := by decide +kernel
theorem dX0_hasHint_0 : decode cX0_hasHint 0 = .ok (.aload_n 0, 1) := by decide +kernel
theorem dX0_hasHint_1 : decode cX0_hasHint 1 = .ok (.getfield 29, 3) := by decide +kernel
theorem dX0_hasHint_4 : decode cX0_hasHint 4 = .ok (.iload_n 1, 1) := by decide +kernel
theorem dX0_hasHint_5 : decode cX0_hasHint 5 = .ok (.invokevirtual 50, 3) := by decide +kernel
theorem dX0_hasHint_8 : decode cX0_hasHint 8 = .ok (.bipush 26, 2) := by decide +kernel
theorem dX0_hasHint_10 : decode cX0_hasHint 10 = .ok (.if_icmp .eq 7, 3) := by decide +kernel
theorem dX0_hasHint_13 : decode cX0_hasHint 13 = .ok (.iconst 1, 1) := by decide +kernel
theorem dX0_hasHint_14 : decode cX0_hasHint 14 = .ok (.goto 4, 3) := by decide +kernel
theorem dX0_hasHint_17 : decode cX0_hasHint 17 = .ok (.iconst 0, 1) := by decide +kernel
theorem dX0_hasHint_18 : decode cX0_hasHint 18 = .ok (.ireturn, 1) := by decide +kernel
theorem dX0_dropHint_0 : decode cX0_dropHint 0 = .ok (.aload_n 0, 1) := by decide +kernel
theorem dX0_dropHint_1 : decode cX0_dropHint 1 = .ok (.getfield 29, 3) := by decide +kernel
theorem dX0_dropHint_4 : decode cX0_dropHint 4 = .ok (.iload_n 1, 1) := by decide +kernel
theorem dX0_dropHint_5 : decode cX0_dropHint 5 = .ok (.bipush 26, 2) := by decide +kernel
theorem dX0_dropHint_7 : decode cX0_dropHint 7 = .ok (.invokevirtual 43, 3) := by decide +kernel
theorem dX0_dropHint_10 : decode cX0_dropHint 10 = .ok (.return_, 1) := by decide +kernel
theorem dX0_dropHints_0 : decode cX0_dropHints 0 = .ok (.iconst 0, 1) := by decide +kernel
theorem dX0_dropHints_1 : decode cX0_dropHints 1 = .ok (.istore_n 1, 1) := by decide +kernel
theorem dX0_dropHints_2 : decode cX0_dropHints 2 = .ok (.iload_n 1, 1) := by decide +kernel
theorem dX0_dropHints_3 : decode cX0_dropHints 3 = .ok (.aload_n 0, 1) := by decide +kernel
theorem dX0_dropHints_4 : decode cX0_dropHints 4 = .ok (.getfield 35, 3) := by decide +kernel
theorem dX0_dropHints_7 : decode cX0_dropHints 7 = .ok (.if_icmp .ge 14, 3) := by decide +kernel
theorem dX0_dropHints_10 : decode cX0_dropHints 10 = .ok (.aload_n 0, 1) := by decide +kernel
theorem dX0_dropHints_11 : decode cX0_dropHints 11 = .ok (.iload_n 1, 1) := by decide +kernel
theorem dX0_dropHints_12 : decode cX0_dropHints 12 = .ok (.invokevirtual 47, 3) := by decide +kernel
theorem dX0_dropHints_15 : decode cX0_dropHints 15 = .ok (.iinc 1 1, 3) := by decide +kernel
theorem dX0_dropHints_18 : decode cX0_dropHints 18 = .ok (.goto (-16), 3) := by decide +kernel
theorem dX0_dropHints_21 : decode cX0_dropHints 21 = .ok (.return_, 1) := by decide +kernel
theorem dX1_init_0 : decode cX1_init 0 = .ok (.aload_n 0, 1) := by decide +kernel
theorem dX1_init_1 : decode cX1_init 1 = .ok (.invokespecial 3, 3) := by decide +kernel
theorem dX1_init_4 : decode cX1_init 4 = .ok (.aload_n 0, 1) := by decide +kernel
theorem dX1_init_5 : decode cX1_init 5 = .ok (.iconst 0, 1) := by decide +kernel
theorem dX1_init_6 : decode cX1_init 6 = .ok (.putfield 9, 3) := by decide +kernel
theorem dX1_init_9 : decode cX1_init 9 = .ok (.aload_n 0, 1) := by decide +kernel
theorem dX1_init_10 : decode cX1_init 10 = .ok (.iconst 0, 1) := by decide +kernel
theorem dX1_init_11 : decode cX1_init 11 = .ok (.putfield 15, 3) := by decide +kernel
theorem dX1_init_14 : decode cX1_init 14 = .ok (.aload_n 0, 1) := by decide +kernel
theorem dX1_init_15 : decode cX1_init 15 = .ok (.iconst 4, 1) := by decide +kernel
theorem dX1_init_16 : decode cX1_init 16 = .ok (.anewarray 18, 3) := by decide +kernel
theorem dX1_init_19 : decode cX1_init 19 = .ok (.putfield 20, 3) := by decide +kernel
theorem dX1_init_22 : decode cX1_init 22 = .ok (.iconst 0, 1) := by decide +kernel
theorem dX1_init_23 : decode cX1_init 23 = .ok (.istore_n 1, 1) := by decide +kernel
theorem dX1_init_24 : decode cX1_init 24 = .ok (.iload_n 1, 1) := by decide +kernel
theorem dX1_init_25 : decode cX1_init 25 = .ok (.aload_n 0, 1) := by decide +kernel
theorem dX1_init_26 : decode cX1_init 26 = .ok (.getfield 20, 3) := by decide +kernel
theorem dX1_init_29 : decode cX1_init 29 = .ok (.arraylength, 1) := by decide +kernel
theorem dX1_init_30 : decode cX1_init 30 = .ok (.if_icmp .ge 22, 3) := by decide +kernel
theorem dX1_init_33 : decode cX1_init 33 = .ok (.aload_n 0, 1) := by decide +kernel
theorem dX1_init_34 : decode cX1_init 34 = .ok (.getfield 20, 3) := by decide +kernel
theorem dX1_init_37 : decode cX1_init 37 = .ok (.iload_n 1, 1) := by decide +kernel
theorem dX1_init_38 : decode cX1_init 38 = .ok (.new 18, 3) := by decide +kernel
theorem dX1_init_41 : decode cX1_init 41 = .ok (.dup, 1) := by decide +kernel
theorem dX1_init_42 : decode cX1_init 42 = .ok (.invokespecial 24, 3) := by decide +kernel
theorem dX1_init_45 : decode cX1_init 45 = .ok (.aastore, 1) := by decide +kernel
theorem dX1_init_46 : decode cX1_init 46 = .ok (.iinc 1 1, 3) := by decide +kernel
theorem dX1_init_49 : decode cX1_init 49 = .ok (.goto (-25), 3) := by decide +kernel
theorem dX1_init_52 : decode cX1_init 52 = .ok (.return_, 1) := by decide +kernel
theorem dX1_record_0 : decode cX1_record 0 = .ok (.aload_n 0, 1) := by decide +kernel
theorem dX1_record_1 : decode cX1_record 1 = .ok (.aload_n 0, 1) := by decide +kernel
theorem dX1_record_2 : decode cX1_record 2 = .ok (.getfield 15, 3) := by decide +kernel
theorem dX1_record_5 : decode cX1_record 5 = .ok (.invokevirtual 25, 3) := by decide +kernel
theorem dX1_record_8 : decode cX1_record 8 = .ok (.astore_n 2, 1) := by decide +kernel
theorem dX1_record_9 : decode cX1_record 9 = .ok (.aload_n 2, 1) := by decide +kernel
theorem dX1_record_10 : decode cX1_record 10 = .ok (.ifnull 34, 3) := by decide +kernel
theorem dX1_record_13 : decode cX1_record 13 = .ok (.aload_n 2, 1) := by decide +kernel
theorem dX1_record_14 : decode cX1_record 14 = .ok (.aload_n 1, 1) := by decide +kernel
theorem dX1_record_15 : decode cX1_record 15 = .ok (.invokevirtual 29, 3) := by decide +kernel
theorem dX1_record_18 : decode cX1_record 18 = .ok (.aload_n 0, 1) := by decide +kernel
theorem dX1_record_19 : decode cX1_record 19 = .ok (.aload_n 0, 1) := by decide +kernel
theorem dX1_record_20 : decode cX1_record 20 = .ok (.getfield 15, 3) := by decide +kernel
theorem dX1_record_23 : decode cX1_record 23 = .ok (.iconst 1, 1) := by decide +kernel
theorem dX1_record_24 : decode cX1_record 24 = .ok (.iadd, 1) := by decide +kernel
theorem dX1_record_25 : decode cX1_record 25 = .ok (.iconst 4, 1) := by decide +kernel
theorem dX1_record_26 : decode cX1_record 26 = .ok (.irem, 1) := by decide +kernel
theorem dX1_record_27 : decode cX1_record 27 = .ok (.putfield 15, 3) := by decide +kernel
theorem dX1_record_30 : decode cX1_record 30 = .ok (.aload_n 0, 1) := by decide +kernel
theorem dX1_record_31 : decode cX1_record 31 = .ok (.aload_n 0, 1) := by decide +kernel
theorem dX1_record_32 : decode cX1_record 32 = .ok (.getfield 9, 3) := by decide +kernel
theorem dX1_record_35 : decode cX1_record 35 = .ok (.iconst 1, 1) := by decide +kernel
theorem dX1_record_36 : decode cX1_record 36 = .ok (.iadd, 1) := by decide +kernel
theorem dX1_record_37 : decode cX1_record 37 = .ok (.iconst 4, 1) := by decide +kernel
theorem dX1_record_38 : decode cX1_record 38 = .ok (.invokestatic 33, 3) := by decide +kernel
theorem dX1_record_41 : decode cX1_record 41 = .ok (.putfield 9, 3) := by decide +kernel
theorem dX1_record_44 : decode cX1_record 44 = .ok (.return_, 1) := by decide +kernel
theorem dX1_takeLatest_0 : decode cX1_takeLatest 0 = .ok (.aload_n 0, 1) := by decide +kernel
theorem dX1_takeLatest_1 : decode cX1_takeLatest 1 = .ok (.getfield 15, 3) := by decide +kernel
theorem dX1_takeLatest_4 : decode cX1_takeLatest 4 = .ok (.iconst 4, 1) := by decide +kernel
theorem dX1_takeLatest_5 : decode cX1_takeLatest 5 = .ok (.iadd, 1) := by decide +kernel
theorem dX1_takeLatest_6 : decode cX1_takeLatest 6 = .ok (.iconst 1, 1) := by decide +kernel
theorem dX1_takeLatest_7 : decode cX1_takeLatest 7 = .ok (.isub, 1) := by decide +kernel
theorem dX1_takeLatest_8 : decode cX1_takeLatest 8 = .ok (.iconst 4, 1) := by decide +kernel
theorem dX1_takeLatest_9 : decode cX1_takeLatest 9 = .ok (.irem, 1) := by decide +kernel
theorem dX1_takeLatest_10 : decode cX1_takeLatest 10 = .ok (.istore_n 2, 1) := by decide +kernel
theorem dX1_takeLatest_11 : decode cX1_takeLatest 11 = .ok (.aload_n 0, 1) := by decide +kernel
theorem dX1_takeLatest_12 : decode cX1_takeLatest 12 = .ok (.iload_n 2, 1) := by decide +kernel
theorem dX1_takeLatest_13 : decode cX1_takeLatest 13 = .ok (.invokevirtual 25, 3) := by decide +kernel
theorem dX1_takeLatest_16 : decode cX1_takeLatest 16 = .ok (.astore_n 3, 1) := by decide +kernel
theorem dX1_takeLatest_17 : decode cX1_takeLatest 17 = .ok (.aload_n 3, 1) := by decide +kernel
theorem dX1_takeLatest_18 : decode cX1_takeLatest 18 = .ok (.ifnull 27, 3) := by decide +kernel
theorem dX1_takeLatest_21 : decode cX1_takeLatest 21 = .ok (.aload_n 1, 1) := by decide +kernel
theorem dX1_takeLatest_22 : decode cX1_takeLatest 22 = .ok (.aload_n 3, 1) := by decide +kernel
theorem dX1_takeLatest_23 : decode cX1_takeLatest 23 = .ok (.invokevirtual 29, 3) := by decide +kernel
theorem dX1_takeLatest_26 : decode cX1_takeLatest 26 = .ok (.aload_n 0, 1) := by decide +kernel
theorem dX1_takeLatest_27 : decode cX1_takeLatest 27 = .ok (.iload_n 2, 1) := by decide +kernel
theorem dX1_takeLatest_28 : decode cX1_takeLatest 28 = .ok (.putfield 15, 3) := by decide +kernel
theorem dX1_takeLatest_31 : decode cX1_takeLatest 31 = .ok (.aload_n 0, 1) := by decide +kernel
theorem dX1_takeLatest_32 : decode cX1_takeLatest 32 = .ok (.aload_n 0, 1) := by decide +kernel
theorem dX1_takeLatest_33 : decode cX1_takeLatest 33 = .ok (.getfield 9, 3) := by decide +kernel
theorem dX1_takeLatest_36 : decode cX1_takeLatest 36 = .ok (.iconst 1, 1) := by decide +kernel
theorem dX1_takeLatest_37 : decode cX1_takeLatest 37 = .ok (.isub, 1) := by decide +kernel
theorem dX1_takeLatest_38 : decode cX1_takeLatest 38 = .ok (.iconst 0, 1) := by decide +kernel
theorem dX1_takeLatest_39 : decode cX1_takeLatest 39 = .ok (.invokestatic 39, 3) := by decide +kernel
theorem dX1_takeLatest_42 : decode cX1_takeLatest 42 = .ok (.putfield 9, 3) := by decide +kernel
theorem dX1_takeLatest_45 : decode cX1_takeLatest 45 = .ok (.return_, 1) := by decide +kernel
theorem dX1_slotAt_0 : decode cX1_slotAt 0 = .ok (.iload_n 1, 1) := by decide +kernel
theorem dX1_slotAt_1 : decode cX1_slotAt 1 = .ok (.ifCond .lt 21, 3) := by decide +kernel
theorem dX1_slotAt_4 : decode cX1_slotAt 4 = .ok (.iload_n 1, 1) := by decide +kernel
theorem dX1_slotAt_5 : decode cX1_slotAt 5 = .ok (.aload_n 0, 1) := by decide +kernel
theorem dX1_slotAt_6 : decode cX1_slotAt 6 = .ok (.getfield 20, 3) := by decide +kernel
theorem dX1_slotAt_9 : decode cX1_slotAt 9 = .ok (.arraylength, 1) := by decide +kernel
theorem dX1_slotAt_10 : decode cX1_slotAt 10 = .ok (.if_icmp .ge 12, 3) := by decide +kernel
theorem dX1_slotAt_13 : decode cX1_slotAt 13 = .ok (.aload_n 0, 1) := by decide +kernel
theorem dX1_slotAt_14 : decode cX1_slotAt 14 = .ok (.getfield 20, 3) := by decide +kernel
theorem dX1_slotAt_17 : decode cX1_slotAt 17 = .ok (.iload_n 1, 1) := by decide +kernel
theorem dX1_slotAt_18 : decode cX1_slotAt 18 = .ok (.aaload, 1) := by decide +kernel
theorem dX1_slotAt_19 : decode cX1_slotAt 19 = .ok (.goto 4, 3) := by decide +kernel
theorem dX1_slotAt_22 : decode cX1_slotAt 22 = .ok (.aconst_null, 1) := by decide +kernel
theorem dX1_slotAt_23 : decode cX1_slotAt 23 = .ok (.areturn, 1) := by decide +kernel
theorem dX2_init_0 : decode cX2_init 0 = .ok (.aload_n 0, 1) := by decide +kernel
theorem dX2_init_1 : decode cX2_init 1 = .ok (.invokespecial 3, 3) := by decide +kernel
theorem dX2_init_4 : decode cX2_init 4 = .ok (.aload_n 0, 1) := by decide +kernel
theorem dX2_init_5 : decode cX2_init 5 = .ok (.new 9, 3) := by decide +kernel
theorem dX2_init_8 : decode cX2_init 8 = .ok (.dup, 1) := by decide +kernel
theorem dX2_init_9 : decode cX2_init 9 = .ok (.bipush 6, 2) := by decide +kernel
theorem dX2_init_11 : decode cX2_init 11 = .ok (.invokespecial 11, 3) := by decide +kernel
theorem dX2_init_14 : decode cX2_init 14 = .ok (.putfield 14, 3) := by decide +kernel
theorem dX2_init_17 : decode cX2_init 17 = .ok (.aload_n 0, 1) := by decide +kernel
theorem dX2_init_18 : decode cX2_init 18 = .ok (.new 9, 3) := by decide +kernel
theorem dX2_init_21 : decode cX2_init 21 = .ok (.dup, 1) := by decide +kernel
theorem dX2_init_22 : decode cX2_init 22 = .ok (.bipush 6, 2) := by decide +kernel
theorem dX2_init_24 : decode cX2_init 24 = .ok (.invokespecial 11, 3) := by decide +kernel
theorem dX2_init_27 : decode cX2_init 27 = .ok (.putfield 20, 3) := by decide +kernel
theorem dX2_init_30 : decode cX2_init 30 = .ok (.aload_n 0, 1) := by decide +kernel
theorem dX2_init_31 : decode cX2_init 31 = .ok (.new 9, 3) := by decide +kernel
theorem dX2_init_34 : decode cX2_init 34 = .ok (.dup, 1) := by decide +kernel
theorem dX2_init_35 : decode cX2_init 35 = .ok (.bipush 6, 2) := by decide +kernel
theorem dX2_init_37 : decode cX2_init 37 = .ok (.invokespecial 11, 3) := by decide +kernel
theorem dX2_init_40 : decode cX2_init 40 = .ok (.putfield 23, 3) := by decide +kernel
theorem dX2_init_43 : decode cX2_init 43 = .ok (.aload_n 0, 1) := by decide +kernel
theorem dX2_init_44 : decode cX2_init 44 = .ok (.new 9, 3) := by decide +kernel
theorem dX2_init_47 : decode cX2_init 47 = .ok (.dup, 1) := by decide +kernel
theorem dX2_init_48 : decode cX2_init 48 = .ok (.bipush 6, 2) := by decide +kernel
theorem dX2_init_50 : decode cX2_init 50 = .ok (.invokespecial 11, 3) := by decide +kernel
theorem dX2_init_53 : decode cX2_init 53 = .ok (.putfield 26, 3) := by decide +kernel
theorem dX2_init_56 : decode cX2_init 56 = .ok (.return_, 1) := by decide +kernel
theorem dX2_copyFrom_0 : decode cX2_copyFrom 0 = .ok (.aload_n 0, 1) := by decide +kernel
theorem dX2_copyFrom_1 : decode cX2_copyFrom 1 = .ok (.aload_n 1, 1) := by decide +kernel
theorem dX2_copyFrom_2 : decode cX2_copyFrom 2 = .ok (.getfield 29, 3) := by decide +kernel
theorem dX2_copyFrom_5 : decode cX2_copyFrom 5 = .ok (.putfield 29, 3) := by decide +kernel
theorem dX2_copyFrom_8 : decode cX2_copyFrom 8 = .ok (.aload_n 0, 1) := by decide +kernel
theorem dX2_copyFrom_9 : decode cX2_copyFrom 9 = .ok (.getfield 14, 3) := by decide +kernel
theorem dX2_copyFrom_12 : decode cX2_copyFrom 12 = .ok (.aload_n 1, 1) := by decide +kernel
theorem dX2_copyFrom_13 : decode cX2_copyFrom 13 = .ok (.getfield 14, 3) := by decide +kernel
theorem dX2_copyFrom_16 : decode cX2_copyFrom 16 = .ok (.invokevirtual 33, 3) := by decide +kernel
theorem dX2_copyFrom_19 : decode cX2_copyFrom 19 = .ok (.aload_n 0, 1) := by decide +kernel
theorem dX2_copyFrom_20 : decode cX2_copyFrom 20 = .ok (.getfield 20, 3) := by decide +kernel
theorem dX2_copyFrom_23 : decode cX2_copyFrom 23 = .ok (.aload_n 1, 1) := by decide +kernel
theorem dX2_copyFrom_24 : decode cX2_copyFrom 24 = .ok (.getfield 20, 3) := by decide +kernel
theorem dX2_copyFrom_27 : decode cX2_copyFrom 27 = .ok (.invokevirtual 33, 3) := by decide +kernel
theorem dX2_copyFrom_30 : decode cX2_copyFrom 30 = .ok (.aload_n 0, 1) := by decide +kernel
theorem dX2_copyFrom_31 : decode cX2_copyFrom 31 = .ok (.getfield 23, 3) := by decide +kernel
theorem dX2_copyFrom_34 : decode cX2_copyFrom 34 = .ok (.aload_n 1, 1) := by decide +kernel
theorem dX2_copyFrom_35 : decode cX2_copyFrom 35 = .ok (.getfield 23, 3) := by decide +kernel
theorem dX2_copyFrom_38 : decode cX2_copyFrom 38 = .ok (.invokevirtual 33, 3) := by decide +kernel
theorem dX2_copyFrom_41 : decode cX2_copyFrom 41 = .ok (.aload_n 0, 1) := by decide +kernel
theorem dX2_copyFrom_42 : decode cX2_copyFrom 42 = .ok (.getfield 26, 3) := by decide +kernel
theorem dX2_copyFrom_45 : decode cX2_copyFrom 45 = .ok (.aload_n 1, 1) := by decide +kernel
theorem dX2_copyFrom_46 : decode cX2_copyFrom 46 = .ok (.getfield 26, 3) := by decide +kernel
theorem dX2_copyFrom_49 : decode cX2_copyFrom 49 = .ok (.invokevirtual 33, 3) := by decide +kernel
theorem dX2_copyFrom_52 : decode cX2_copyFrom 52 = .ok (.return_, 1) := by decide +kernel
theorem dX2_putFirst_0 : decode cX2_putFirst 0 = .ok (.aload_n 0, 1) := by decide +kernel
theorem dX2_putFirst_1 : decode cX2_putFirst 1 = .ok (.aload_n 0, 1) := by decide +kernel
theorem dX2_putFirst_2 : decode cX2_putFirst 2 = .ok (.getfield 29, 3) := by decide +kernel
theorem dX2_putFirst_5 : decode cX2_putFirst 5 = .ok (.iconst 1, 1) := by decide +kernel
theorem dX2_putFirst_6 : decode cX2_putFirst 6 = .ok (.iadd, 1) := by decide +kernel
theorem dX2_putFirst_7 : decode cX2_putFirst 7 = .ok (.bipush 6, 2) := by decide +kernel
theorem dX2_putFirst_9 : decode cX2_putFirst 9 = .ok (.invokestatic 37, 3) := by decide +kernel
theorem dX2_putFirst_12 : decode cX2_putFirst 12 = .ok (.putfield 29, 3) := by decide +kernel
theorem dX2_putFirst_15 : decode cX2_putFirst 15 = .ok (.aload_n 0, 1) := by decide +kernel
theorem dX2_putFirst_16 : decode cX2_putFirst 16 = .ok (.getfield 29, 3) := by decide +kernel
theorem dX2_putFirst_19 : decode cX2_putFirst 19 = .ok (.iconst 1, 1) := by decide +kernel
theorem dX2_putFirst_20 : decode cX2_putFirst 20 = .ok (.isub, 1) := by decide +kernel
theorem dX2_putFirst_21 : decode cX2_putFirst 21 = .ok (.istore_n 3, 1) := by decide +kernel
theorem dX2_putFirst_22 : decode cX2_putFirst 22 = .ok (.iload_n 3, 1) := by decide +kernel
theorem dX2_putFirst_23 : decode cX2_putFirst 23 = .ok (.ifCond .le 81, 3) := by decide +kernel
theorem dX2_putFirst_26 : decode cX2_putFirst 26 = .ok (.aload_n 0, 1) := by decide +kernel
theorem dX2_putFirst_27 : decode cX2_putFirst 27 = .ok (.getfield 14, 3) := by decide +kernel
theorem dX2_putFirst_30 : decode cX2_putFirst 30 = .ok (.iload_n 3, 1) := by decide +kernel
theorem dX2_putFirst_31 : decode cX2_putFirst 31 = .ok (.aload_n 0, 1) := by decide +kernel
theorem dX2_putFirst_32 : decode cX2_putFirst 32 = .ok (.getfield 14, 3) := by decide +kernel
theorem dX2_putFirst_35 : decode cX2_putFirst 35 = .ok (.iload_n 3, 1) := by decide +kernel
theorem dX2_putFirst_36 : decode cX2_putFirst 36 = .ok (.iconst 1, 1) := by decide +kernel
theorem dX2_putFirst_37 : decode cX2_putFirst 37 = .ok (.isub, 1) := by decide +kernel
theorem dX2_putFirst_38 : decode cX2_putFirst 38 = .ok (.invokevirtual 43, 3) := by decide +kernel
theorem dX2_putFirst_41 : decode cX2_putFirst 41 = .ok (.invokevirtual 47, 3) := by decide +kernel
theorem dX2_putFirst_44 : decode cX2_putFirst 44 = .ok (.aload_n 0, 1) := by decide +kernel
theorem dX2_putFirst_45 : decode cX2_putFirst 45 = .ok (.getfield 20, 3) := by decide +kernel
theorem dX2_putFirst_48 : decode cX2_putFirst 48 = .ok (.iload_n 3, 1) := by decide +kernel
theorem dX2_putFirst_49 : decode cX2_putFirst 49 = .ok (.aload_n 0, 1) := by decide +kernel
theorem dX2_putFirst_50 : decode cX2_putFirst 50 = .ok (.getfield 20, 3) := by decide +kernel
theorem dX2_putFirst_53 : decode cX2_putFirst 53 = .ok (.iload_n 3, 1) := by decide +kernel
theorem dX2_putFirst_54 : decode cX2_putFirst 54 = .ok (.iconst 1, 1) := by decide +kernel
theorem dX2_putFirst_55 : decode cX2_putFirst 55 = .ok (.isub, 1) := by decide +kernel
theorem dX2_putFirst_56 : decode cX2_putFirst 56 = .ok (.invokevirtual 43, 3) := by decide +kernel
theorem dX2_putFirst_59 : decode cX2_putFirst 59 = .ok (.invokevirtual 47, 3) := by decide +kernel
theorem dX2_putFirst_62 : decode cX2_putFirst 62 = .ok (.aload_n 0, 1) := by decide +kernel
theorem dX2_putFirst_63 : decode cX2_putFirst 63 = .ok (.getfield 23, 3) := by decide +kernel
theorem dX2_putFirst_66 : decode cX2_putFirst 66 = .ok (.iload_n 3, 1) := by decide +kernel
theorem dX2_putFirst_67 : decode cX2_putFirst 67 = .ok (.aload_n 0, 1) := by decide +kernel
theorem dX2_putFirst_68 : decode cX2_putFirst 68 = .ok (.getfield 23, 3) := by decide +kernel
theorem dX2_putFirst_71 : decode cX2_putFirst 71 = .ok (.iload_n 3, 1) := by decide +kernel
theorem dX2_putFirst_72 : decode cX2_putFirst 72 = .ok (.iconst 1, 1) := by decide +kernel
theorem dX2_putFirst_73 : decode cX2_putFirst 73 = .ok (.isub, 1) := by decide +kernel
theorem dX2_putFirst_74 : decode cX2_putFirst 74 = .ok (.invokevirtual 43, 3) := by decide +kernel
theorem dX2_putFirst_77 : decode cX2_putFirst 77 = .ok (.invokevirtual 47, 3) := by decide +kernel
theorem dX2_putFirst_80 : decode cX2_putFirst 80 = .ok (.aload_n 0, 1) := by decide +kernel
theorem dX2_putFirst_81 : decode cX2_putFirst 81 = .ok (.getfield 26, 3) := by decide +kernel
theorem dX2_putFirst_84 : decode cX2_putFirst 84 = .ok (.iload_n 3, 1) := by decide +kernel
theorem dX2_putFirst_85 : decode cX2_putFirst 85 = .ok (.aload_n 0, 1) := by decide +kernel
theorem dX2_putFirst_86 : decode cX2_putFirst 86 = .ok (.getfield 26, 3) := by decide +kernel
theorem dX2_putFirst_89 : decode cX2_putFirst 89 = .ok (.iload_n 3, 1) := by decide +kernel
theorem dX2_putFirst_90 : decode cX2_putFirst 90 = .ok (.iconst 1, 1) := by decide +kernel
theorem dX2_putFirst_91 : decode cX2_putFirst 91 = .ok (.isub, 1) := by decide +kernel
theorem dX2_putFirst_92 : decode cX2_putFirst 92 = .ok (.invokevirtual 43, 3) := by decide +kernel
theorem dX2_putFirst_95 : decode cX2_putFirst 95 = .ok (.invokevirtual 47, 3) := by decide +kernel
theorem dX2_putFirst_98 : decode cX2_putFirst 98 = .ok (.iinc 3 (-1), 3) := by decide +kernel
theorem dX2_putFirst_101 : decode cX2_putFirst 101 = .ok (.goto (-79), 3) := by decide +kernel
theorem dX2_putFirst_104 : decode cX2_putFirst 104 = .ok (.aload_n 0, 1) := by decide +kernel
theorem dX2_putFirst_105 : decode cX2_putFirst 105 = .ok (.getfield 14, 3) := by decide +kernel
theorem dX2_putFirst_108 : decode cX2_putFirst 108 = .ok (.iconst 0, 1) := by decide +kernel
theorem dX2_putFirst_109 : decode cX2_putFirst 109 = .ok (.aload_n 1, 1) := by decide +kernel
theorem dX2_putFirst_110 : decode cX2_putFirst 110 = .ok (.getfield 51, 3) := by decide +kernel
theorem dX2_putFirst_113 : decode cX2_putFirst 113 = .ok (.invokevirtual 47, 3) := by decide +kernel
theorem dX2_putFirst_116 : decode cX2_putFirst 116 = .ok (.aload_n 0, 1) := by decide +kernel
theorem dX2_putFirst_117 : decode cX2_putFirst 117 = .ok (.getfield 20, 3) := by decide +kernel
theorem dX2_putFirst_120 : decode cX2_putFirst 120 = .ok (.iconst 0, 1) := by decide +kernel
theorem dX2_putFirst_121 : decode cX2_putFirst 121 = .ok (.iload_n 2, 1) := by decide +kernel
theorem dX2_putFirst_122 : decode cX2_putFirst 122 = .ok (.invokevirtual 47, 3) := by decide +kernel
theorem dX2_putFirst_125 : decode cX2_putFirst 125 = .ok (.aload_n 0, 1) := by decide +kernel
theorem dX2_putFirst_126 : decode cX2_putFirst 126 = .ok (.getfield 23, 3) := by decide +kernel
theorem dX2_putFirst_129 : decode cX2_putFirst 129 = .ok (.iconst 0, 1) := by decide +kernel
theorem dX2_putFirst_130 : decode cX2_putFirst 130 = .ok (.aload_n 1, 1) := by decide +kernel
theorem dX2_putFirst_131 : decode cX2_putFirst 131 = .ok (.getfield 55, 3) := by decide +kernel
theorem dX2_putFirst_134 : decode cX2_putFirst 134 = .ok (.invokevirtual 47, 3) := by decide +kernel
theorem dX2_putFirst_137 : decode cX2_putFirst 137 = .ok (.aload_n 0, 1) := by decide +kernel
theorem dX2_putFirst_138 : decode cX2_putFirst 138 = .ok (.getfield 26, 3) := by decide +kernel
theorem dX2_putFirst_141 : decode cX2_putFirst 141 = .ok (.iconst 0, 1) := by decide +kernel
theorem dX2_putFirst_142 : decode cX2_putFirst 142 = .ok (.aload_n 1, 1) := by decide +kernel
theorem dX2_putFirst_143 : decode cX2_putFirst 143 = .ok (.getfield 57, 3) := by decide +kernel
theorem dX2_putFirst_146 : decode cX2_putFirst 146 = .ok (.invokevirtual 47, 3) := by decide +kernel
theorem dX2_putFirst_149 : decode cX2_putFirst 149 = .ok (.return_, 1) := by decide +kernel
theorem dX3_init_0 : decode cX3_init 0 = .ok (.aload_n 0, 1) := by decide +kernel
theorem dX3_init_1 : decode cX3_init 1 = .ok (.invokespecial 1, 3) := by decide +kernel
theorem dX3_init_4 : decode cX3_init 4 = .ok (.return_, 1) := by decide +kernel
theorem dX3_copyFrom_0 : decode cX3_copyFrom 0 = .ok (.aload_n 0, 1) := by decide +kernel
theorem dX3_copyFrom_1 : decode cX3_copyFrom 1 = .ok (.aload_n 1, 1) := by decide +kernel
theorem dX3_copyFrom_2 : decode cX3_copyFrom 2 = .ok (.getfield 7, 3) := by decide +kernel
theorem dX3_copyFrom_5 : decode cX3_copyFrom 5 = .ok (.putfield 7, 3) := by decide +kernel
theorem dX3_copyFrom_8 : decode cX3_copyFrom 8 = .ok (.aload_n 0, 1) := by decide +kernel
theorem dX3_copyFrom_9 : decode cX3_copyFrom 9 = .ok (.aload_n 1, 1) := by decide +kernel
theorem dX3_copyFrom_10 : decode cX3_copyFrom 10 = .ok (.getfield 13, 3) := by decide +kernel
theorem dX3_copyFrom_13 : decode cX3_copyFrom 13 = .ok (.putfield 13, 3) := by decide +kernel
theorem dX3_copyFrom_16 : decode cX3_copyFrom 16 = .ok (.aload_n 0, 1) := by decide +kernel
theorem dX3_copyFrom_17 : decode cX3_copyFrom 17 = .ok (.aload_n 1, 1) := by decide +kernel
theorem dX3_copyFrom_18 : decode cX3_copyFrom 18 = .ok (.getfield 17, 3) := by decide +kernel
theorem dX3_copyFrom_21 : decode cX3_copyFrom 21 = .ok (.putfield 17, 3) := by decide +kernel
theorem dX3_copyFrom_24 : decode cX3_copyFrom 24 = .ok (.aload_n 0, 1) := by decide +kernel
theorem dX3_copyFrom_25 : decode cX3_copyFrom 25 = .ok (.aload_n 1, 1) := by decide +kernel
theorem dX3_copyFrom_26 : decode cX3_copyFrom 26 = .ok (.getfield 20, 3) := by decide +kernel
theorem dX3_copyFrom_29 : decode cX3_copyFrom 29 = .ok (.putfield 20, 3) := by decide +kernel
theorem dX3_copyFrom_32 : decode cX3_copyFrom 32 = .ok (.aload_n 0, 1) := by decide +kernel
theorem dX3_copyFrom_33 : decode cX3_copyFrom 33 = .ok (.aload_n 1, 1) := by decide +kernel
theorem dX3_copyFrom_34 : decode cX3_copyFrom 34 = .ok (.getfield 23, 3) := by decide +kernel
theorem dX3_copyFrom_37 : decode cX3_copyFrom 37 = .ok (.putfield 23, 3) := by decide +kernel
theorem dX3_copyFrom_40 : decode cX3_copyFrom 40 = .ok (.aload_n 0, 1) := by decide +kernel
theorem dX3_copyFrom_41 : decode cX3_copyFrom 41 = .ok (.aload_n 1, 1) := by decide +kernel
theorem dX3_copyFrom_42 : decode cX3_copyFrom 42 = .ok (.getfield 26, 3) := by decide +kernel
theorem dX3_copyFrom_45 : decode cX3_copyFrom 45 = .ok (.putfield 26, 3) := by decide +kernel
theorem dX3_copyFrom_48 : decode cX3_copyFrom 48 = .ok (.aload_n 0, 1) := by decide +kernel
theorem dX3_copyFrom_49 : decode cX3_copyFrom 49 = .ok (.aload_n 1, 1) := by decide +kernel
theorem dX3_copyFrom_50 : decode cX3_copyFrom 50 = .ok (.getfield 29, 3) := by decide +kernel
theorem dX3_copyFrom_53 : decode cX3_copyFrom 53 = .ok (.putfield 29, 3) := by decide +kernel
theorem dX3_copyFrom_56 : decode cX3_copyFrom 56 = .ok (.return_, 1) := by decide +kernel
theorem dX3_takes_0 : decode cX3_takes 0 = .ok (.aload_n 0, 1) := by decide +kernel
theorem dX3_takes_1 : decode cX3_takes 1 = .ok (.getfield 7, 3) := by decide +kernel
theorem dX3_takes_4 : decode cX3_takes 4 = .ok (.ifCond .eq 18, 3) := by decide +kernel
theorem dX3_takes_7 : decode cX3_takes 7 = .ok (.aload_n 0, 1) := by decide +kernel
theorem dX3_takes_8 : decode cX3_takes 8 = .ok (.getfield 29, 3) := by decide +kernel
theorem dX3_takes_11 : decode cX3_takes 11 = .ok (.iload_n 1, 1) := by decide +kernel
theorem dX3_takes_12 : decode cX3_takes 12 = .ok (.invokestatic 32, 3) := by decide +kernel
theorem dX3_takes_15 : decode cX3_takes 15 = .ok (.ifCond .ne 7, 3) := by decide +kernel
theorem dX3_takes_18 : decode cX3_takes 18 = .ok (.iconst 1, 1) := by decide +kernel
theorem dX3_takes_19 : decode cX3_takes 19 = .ok (.goto 4, 3) := by decide +kernel
theorem dX3_takes_22 : decode cX3_takes 22 = .ok (.iconst 0, 1) := by decide +kernel
theorem dX3_takes_23 : decode cX3_takes 23 = .ok (.ireturn, 1) := by decide +kernel
theorem dX3_takeFromPot_0 : decode cX3_takeFromPot 0 = .ok (.iload_n 1, 1) := by decide +kernel
theorem dX3_takeFromPot_1 : decode cX3_takeFromPot 1 = .ok (.aload_n 0, 1) := by decide +kernel
theorem dX3_takeFromPot_2 : decode cX3_takeFromPot 2 = .ok (.getfield 23, 3) := by decide +kernel
theorem dX3_takeFromPot_5 : decode cX3_takeFromPot 5 = .ok (.invokestatic 38, 3) := by decide +kernel
theorem dX3_takeFromPot_8 : decode cX3_takeFromPot 8 = .ok (.istore_n 2, 1) := by decide +kernel
theorem dX3_takeFromPot_9 : decode cX3_takeFromPot 9 = .ok (.aload_n 0, 1) := by decide +kernel
theorem dX3_takeFromPot_10 : decode cX3_takeFromPot 10 = .ok (.dup, 1) := by decide +kernel
theorem dX3_takeFromPot_11 : decode cX3_takeFromPot 11 = .ok (.getfield 23, 3) := by decide +kernel
theorem dX3_takeFromPot_14 : decode cX3_takeFromPot 14 = .ok (.iload_n 2, 1) := by decide +kernel
theorem dX3_takeFromPot_15 : decode cX3_takeFromPot 15 = .ok (.isub, 1) := by decide +kernel
theorem dX3_takeFromPot_16 : decode cX3_takeFromPot 16 = .ok (.putfield 23, 3) := by decide +kernel
theorem dX3_takeFromPot_19 : decode cX3_takeFromPot 19 = .ok (.iload_n 2, 1) := by decide +kernel
theorem dX3_takeFromPot_20 : decode cX3_takeFromPot 20 = .ok (.ireturn, 1) := by decide +kernel
theorem dX4_init_0 : decode cX4_init 0 = .ok (.aload_n 0, 1) := by decide +kernel
theorem dX4_init_1 : decode cX4_init 1 = .ok (.invokespecial 1, 3) := by decide +kernel
theorem dX4_init_4 : decode cX4_init 4 = .ok (.aload_n 0, 1) := by decide +kernel
theorem dX4_init_5 : decode cX4_init 5 = .ok (.iload_n 1, 1) := by decide +kernel
theorem dX4_init_6 : decode cX4_init 6 = .ok (.iconst 0, 1) := by decide +kernel
theorem dX4_init_7 : decode cX4_init 7 = .ok (.invokestatic 7, 3) := by decide +kernel
theorem dX4_init_10 : decode cX4_init 10 = .ok (.newarray .int, 2) := by decide +kernel
theorem dX4_init_12 : decode cX4_init 12 = .ok (.putfield 13, 3) := by decide +kernel
theorem dX4_init_15 : decode cX4_init 15 = .ok (.return_, 1) := by decide +kernel
theorem dX4_at_0 : decode cX4_at 0 = .ok (.iload_n 1, 1) := by decide +kernel
theorem dX4_at_1 : decode cX4_at 1 = .ok (.ifCond .lt 21, 3) := by decide +kernel
theorem dX4_at_4 : decode cX4_at 4 = .ok (.iload_n 1, 1) := by decide +kernel
theorem dX4_at_5 : decode cX4_at 5 = .ok (.aload_n 0, 1) := by decide +kernel
theorem dX4_at_6 : decode cX4_at 6 = .ok (.getfield 13, 3) := by decide +kernel
theorem dX4_at_9 : decode cX4_at 9 = .ok (.arraylength, 1) := by decide +kernel
theorem dX4_at_10 : decode cX4_at 10 = .ok (.if_icmp .ge 12, 3) := by decide +kernel
theorem dX4_at_13 : decode cX4_at 13 = .ok (.aload_n 0, 1) := by decide +kernel
theorem dX4_at_14 : decode cX4_at 14 = .ok (.getfield 13, 3) := by decide +kernel
theorem dX4_at_17 : decode cX4_at 17 = .ok (.iload_n 1, 1) := by decide +kernel
theorem dX4_at_18 : decode cX4_at 18 = .ok (.iaload, 1) := by decide +kernel
theorem dX4_at_19 : decode cX4_at 19 = .ok (.goto 4, 3) := by decide +kernel
theorem dX4_at_22 : decode cX4_at 22 = .ok (.iconst 0, 1) := by decide +kernel
theorem dX4_at_23 : decode cX4_at 23 = .ok (.ireturn, 1) := by decide +kernel
theorem dX4_put_0 : decode cX4_put 0 = .ok (.iload_n 1, 1) := by decide +kernel
theorem dX4_put_1 : decode cX4_put 1 = .ok (.ifCond .lt 19, 3) := by decide +kernel
theorem dX4_put_4 : decode cX4_put 4 = .ok (.iload_n 1, 1) := by decide +kernel
theorem dX4_put_5 : decode cX4_put 5 = .ok (.aload_n 0, 1) := by decide +kernel
theorem dX4_put_6 : decode cX4_put 6 = .ok (.getfield 13, 3) := by decide +kernel
theorem dX4_put_9 : decode cX4_put 9 = .ok (.arraylength, 1) := by decide +kernel
theorem dX4_put_10 : decode cX4_put 10 = .ok (.if_icmp .ge 10, 3) := by decide +kernel
theorem dX4_put_13 : decode cX4_put 13 = .ok (.aload_n 0, 1) := by decide +kernel
theorem dX4_put_14 : decode cX4_put 14 = .ok (.getfield 13, 3) := by decide +kernel
theorem dX4_put_17 : decode cX4_put 17 = .ok (.iload_n 1, 1) := by decide +kernel
theorem dX4_put_18 : decode cX4_put 18 = .ok (.iload_n 2, 1) := by decide +kernel
theorem dX4_put_19 : decode cX4_put 19 = .ok (.iastore, 1) := by decide +kernel
theorem dX4_put_20 : decode cX4_put 20 = .ok (.return_, 1) := by decide +kernel
theorem dX4_add_0 : decode cX4_add 0 = .ok (.aload_n 0, 1) := by decide +kernel
theorem dX4_add_1 : decode cX4_add 1 = .ok (.iload_n 1, 1) := by decide +kernel
theorem dX4_add_2 : decode cX4_add 2 = .ok (.aload_n 0, 1) := by decide +kernel
theorem dX4_add_3 : decode cX4_add 3 = .ok (.iload_n 1, 1) := by decide +kernel
theorem dX4_add_4 : decode cX4_add 4 = .ok (.invokevirtual 19, 3) := by decide +kernel
theorem dX4_add_7 : decode cX4_add 7 = .ok (.iload_n 2, 1) := by decide +kernel
theorem dX4_add_8 : decode cX4_add 8 = .ok (.iadd, 1) := by decide +kernel
theorem dX4_add_9 : decode cX4_add 9 = .ok (.invokevirtual 23, 3) := by decide +kernel
theorem dX4_add_12 : decode cX4_add 12 = .ok (.return_, 1) := by decide +kernel
theorem dX4_copyFrom_0 : decode cX4_copyFrom 0 = .ok (.aload_n 1, 1) := by decide +kernel
theorem dX4_copyFrom_1 : decode cX4_copyFrom 1 = .ok (.getfield 13, 3) := by decide +kernel
theorem dX4_copyFrom_4 : decode cX4_copyFrom 4 = .ok (.iconst 0, 1) := by decide +kernel
theorem dX4_copyFrom_5 : decode cX4_copyFrom 5 = .ok (.aload_n 0, 1) := by decide +kernel
theorem dX4_copyFrom_6 : decode cX4_copyFrom 6 = .ok (.getfield 13, 3) := by decide +kernel
theorem dX4_copyFrom_9 : decode cX4_copyFrom 9 = .ok (.iconst 0, 1) := by decide +kernel
theorem dX4_copyFrom_10 : decode cX4_copyFrom 10 = .ok (.aload_n 1, 1) := by decide +kernel
theorem dX4_copyFrom_11 : decode cX4_copyFrom 11 = .ok (.getfield 13, 3) := by decide +kernel
theorem dX4_copyFrom_14 : decode cX4_copyFrom 14 = .ok (.arraylength, 1) := by decide +kernel
theorem dX4_copyFrom_15 : decode cX4_copyFrom 15 = .ok (.aload_n 0, 1) := by decide +kernel
theorem dX4_copyFrom_16 : decode cX4_copyFrom 16 = .ok (.getfield 13, 3) := by decide +kernel
theorem dX4_copyFrom_19 : decode cX4_copyFrom 19 = .ok (.arraylength, 1) := by decide +kernel
theorem dX4_copyFrom_20 : decode cX4_copyFrom 20 = .ok (.invokestatic 27, 3) := by decide +kernel
theorem dX4_copyFrom_23 : decode cX4_copyFrom 23 = .ok (.invokestatic 30, 3) := by decide +kernel
theorem dX4_copyFrom_26 : decode cX4_copyFrom 26 = .ok (.return_, 1) := by decide +kernel
theorem dX5_init_0 : decode cX5_init 0 = .ok (.aload_n 0, 1) := by decide +kernel
theorem dX5_init_1 : decode cX5_init 1 = .ok (.invokespecial 3, 3) := by decide +kernel
theorem dX5_init_4 : decode cX5_init 4 = .ok (.aload_n 0, 1) := by decide +kernel
theorem dX5_init_5 : decode cX5_init 5 = .ok (.new 9, 3) := by decide +kernel
theorem dX5_init_8 : decode cX5_init 8 = .ok (.dup, 1) := by decide +kernel
theorem dX5_init_9 : decode cX5_init 9 = .ok (.invokespecial 11, 3) := by decide +kernel
theorem dX5_init_12 : decode cX5_init 12 = .ok (.putfield 12, 3) := by decide +kernel
theorem dX5_init_15 : decode cX5_init 15 = .ok (.aload_n 0, 1) := by decide +kernel
theorem dX5_init_16 : decode cX5_init 16 = .ok (.new 18, 3) := by decide +kernel
theorem dX5_init_19 : decode cX5_init 19 = .ok (.dup, 1) := by decide +kernel
theorem dX5_init_20 : decode cX5_init 20 = .ok (.invokespecial 20, 3) := by decide +kernel
theorem dX5_init_23 : decode cX5_init 23 = .ok (.putfield 21, 3) := by decide +kernel
theorem dX5_init_26 : decode cX5_init 26 = .ok (.aload_n 0, 1) := by decide +kernel
theorem dX5_init_27 : decode cX5_init 27 = .ok (.new 25, 3) := by decide +kernel
theorem dX5_init_30 : decode cX5_init 30 = .ok (.dup, 1) := by decide +kernel
theorem dX5_init_31 : decode cX5_init 31 = .ok (.invokespecial 27, 3) := by decide +kernel
theorem dX5_init_34 : decode cX5_init 34 = .ok (.putfield 28, 3) := by decide +kernel
theorem dX5_init_37 : decode cX5_init 37 = .ok (.aload_n 0, 1) := by decide +kernel
theorem dX5_init_38 : decode cX5_init 38 = .ok (.new 32, 3) := by decide +kernel
theorem dX5_init_41 : decode cX5_init 41 = .ok (.dup, 1) := by decide +kernel
theorem dX5_init_42 : decode cX5_init 42 = .ok (.invokespecial 34, 3) := by decide +kernel
theorem dX5_init_45 : decode cX5_init 45 = .ok (.putfield 35, 3) := by decide +kernel
theorem dX5_init_48 : decode cX5_init 48 = .ok (.aload_n 0, 1) := by decide +kernel
theorem dX5_init_49 : decode cX5_init 49 = .ok (.iconst 0, 1) := by decide +kernel
theorem dX5_init_50 : decode cX5_init 50 = .ok (.putfield 39, 3) := by decide +kernel
theorem dX5_init_53 : decode cX5_init 53 = .ok (.aload_n 0, 1) := by decide +kernel
theorem dX5_init_54 : decode cX5_init 54 = .ok (.iconst (-1), 1) := by decide +kernel
theorem dX5_init_55 : decode cX5_init 55 = .ok (.putfield 43, 3) := by decide +kernel
theorem dX5_init_58 : decode cX5_init 58 = .ok (.aload_n 0, 1) := by decide +kernel
theorem dX5_init_59 : decode cX5_init 59 = .ok (.iconst 0, 1) := by decide +kernel
theorem dX5_init_60 : decode cX5_init 60 = .ok (.putfield 46, 3) := by decide +kernel
theorem dX5_init_63 : decode cX5_init 63 = .ok (.aload_n 0, 1) := by decide +kernel
theorem dX5_init_64 : decode cX5_init 64 = .ok (.iconst 1, 1) := by decide +kernel
theorem dX5_init_65 : decode cX5_init 65 = .ok (.putfield 49, 3) := by decide +kernel
theorem dX5_init_68 : decode cX5_init 68 = .ok (.aload_n 0, 1) := by decide +kernel
theorem dX5_init_69 : decode cX5_init 69 = .ok (.bipush 7, 2) := by decide +kernel
theorem dX5_init_71 : decode cX5_init 71 = .ok (.putfield 52, 3) := by decide +kernel
theorem dX5_init_74 : decode cX5_init 74 = .ok (.return_, 1) := by decide +kernel
theorem dX5_copyFrom_0 : decode cX5_copyFrom 0 = .ok (.aload_n 0, 1) := by decide +kernel
theorem dX5_copyFrom_1 : decode cX5_copyFrom 1 = .ok (.getfield 12, 3) := by decide +kernel
theorem dX5_copyFrom_4 : decode cX5_copyFrom 4 = .ok (.aload_n 1, 1) := by decide +kernel
theorem dX5_copyFrom_5 : decode cX5_copyFrom 5 = .ok (.getfield 12, 3) := by decide +kernel
theorem dX5_copyFrom_8 : decode cX5_copyFrom 8 = .ok (.invokevirtual 55, 3) := by decide +kernel
theorem dX5_copyFrom_11 : decode cX5_copyFrom 11 = .ok (.aload_n 0, 1) := by decide +kernel
theorem dX5_copyFrom_12 : decode cX5_copyFrom 12 = .ok (.getfield 21, 3) := by decide +kernel
theorem dX5_copyFrom_15 : decode cX5_copyFrom 15 = .ok (.aload_n 1, 1) := by decide +kernel
theorem dX5_copyFrom_16 : decode cX5_copyFrom 16 = .ok (.getfield 21, 3) := by decide +kernel
theorem dX5_copyFrom_19 : decode cX5_copyFrom 19 = .ok (.invokevirtual 59, 3) := by decide +kernel
theorem dX5_copyFrom_22 : decode cX5_copyFrom 22 = .ok (.aload_n 0, 1) := by decide +kernel
theorem dX5_copyFrom_23 : decode cX5_copyFrom 23 = .ok (.getfield 28, 3) := by decide +kernel
theorem dX5_copyFrom_26 : decode cX5_copyFrom 26 = .ok (.aload_n 1, 1) := by decide +kernel
theorem dX5_copyFrom_27 : decode cX5_copyFrom 27 = .ok (.getfield 28, 3) := by decide +kernel
theorem dX5_copyFrom_30 : decode cX5_copyFrom 30 = .ok (.invokevirtual 62, 3) := by decide +kernel
theorem dX5_copyFrom_33 : decode cX5_copyFrom 33 = .ok (.aload_n 0, 1) := by decide +kernel
theorem dX5_copyFrom_34 : decode cX5_copyFrom 34 = .ok (.getfield 35, 3) := by decide +kernel
theorem dX5_copyFrom_37 : decode cX5_copyFrom 37 = .ok (.aload_n 1, 1) := by decide +kernel
theorem dX5_copyFrom_38 : decode cX5_copyFrom 38 = .ok (.getfield 35, 3) := by decide +kernel
theorem dX5_copyFrom_41 : decode cX5_copyFrom 41 = .ok (.invokevirtual 65, 3) := by decide +kernel
theorem dX5_copyFrom_44 : decode cX5_copyFrom 44 = .ok (.aload_n 0, 1) := by decide +kernel
theorem dX5_copyFrom_45 : decode cX5_copyFrom 45 = .ok (.aload_n 1, 1) := by decide +kernel
theorem dX5_copyFrom_46 : decode cX5_copyFrom 46 = .ok (.getfield 39, 3) := by decide +kernel
theorem dX5_copyFrom_49 : decode cX5_copyFrom 49 = .ok (.putfield 39, 3) := by decide +kernel
theorem dX5_copyFrom_52 : decode cX5_copyFrom 52 = .ok (.aload_n 0, 1) := by decide +kernel
theorem dX5_copyFrom_53 : decode cX5_copyFrom 53 = .ok (.aload_n 1, 1) := by decide +kernel
theorem dX5_copyFrom_54 : decode cX5_copyFrom 54 = .ok (.getfield 43, 3) := by decide +kernel
theorem dX5_copyFrom_57 : decode cX5_copyFrom 57 = .ok (.putfield 43, 3) := by decide +kernel
theorem dX5_copyFrom_60 : decode cX5_copyFrom 60 = .ok (.aload_n 0, 1) := by decide +kernel
theorem dX5_copyFrom_61 : decode cX5_copyFrom 61 = .ok (.aload_n 1, 1) := by decide +kernel
theorem dX5_copyFrom_62 : decode cX5_copyFrom 62 = .ok (.getfield 46, 3) := by decide +kernel
theorem dX5_copyFrom_65 : decode cX5_copyFrom 65 = .ok (.putfield 46, 3) := by decide +kernel
theorem dX5_copyFrom_68 : decode cX5_copyFrom 68 = .ok (.aload_n 0, 1) := by decide +kernel
theorem dX5_copyFrom_69 : decode cX5_copyFrom 69 = .ok (.aload_n 1, 1) := by decide +kernel
theorem dX5_copyFrom_70 : decode cX5_copyFrom 70 = .ok (.getfield 49, 3) := by decide +kernel
theorem dX5_copyFrom_73 : decode cX5_copyFrom 73 = .ok (.putfield 49, 3) := by decide +kernel
theorem dX5_copyFrom_76 : decode cX5_copyFrom 76 = .ok (.aload_n 0, 1) := by decide +kernel
theorem dX5_copyFrom_77 : decode cX5_copyFrom 77 = .ok (.aload_n 1, 1) := by decide +kernel
theorem dX5_copyFrom_78 : decode cX5_copyFrom 78 = .ok (.getfield 52, 3) := by decide +kernel
theorem dX5_copyFrom_81 : decode cX5_copyFrom 81 = .ok (.putfield 52, 3) := by decide +kernel
theorem dX5_copyFrom_84 : decode cX5_copyFrom 84 = .ok (.return_, 1) := by decide +kernel
theorem dX5_canBegin_0 : decode cX5_canBegin 0 = .ok (.aload_n 0, 1) := by decide +kernel
theorem dX5_canBegin_1 : decode cX5_canBegin 1 = .ok (.getfield 28, 3) := by decide +kernel
theorem dX5_canBegin_4 : decode cX5_canBegin 4 = .ok (.getfield 68, 3) := by decide +kernel
theorem dX5_canBegin_7 : decode cX5_canBegin 7 = .ok (.ifCond .ne 38, 3) := by decide +kernel
theorem dX5_canBegin_10 : decode cX5_canBegin 10 = .ok (.aload_n 0, 1) := by decide +kernel
theorem dX5_canBegin_11 : decode cX5_canBegin 11 = .ok (.getfield 12, 3) := by decide +kernel
theorem dX5_canBegin_14 : decode cX5_canBegin 14 = .ok (.getfield 72, 3) := by decide +kernel
theorem dX5_canBegin_17 : decode cX5_canBegin 17 = .ok (.ifCond .le 28, 3) := by decide +kernel
theorem dX5_canBegin_20 : decode cX5_canBegin 20 = .ok (.aload_n 0, 1) := by decide +kernel
theorem dX5_canBegin_21 : decode cX5_canBegin 21 = .ok (.getfield 21, 3) := by decide +kernel
theorem dX5_canBegin_24 : decode cX5_canBegin 24 = .ok (.getfield 75, 3) := by decide +kernel
theorem dX5_canBegin_27 : decode cX5_canBegin 27 = .ok (.ifCond .le 18, 3) := by decide +kernel
theorem dX5_canBegin_30 : decode cX5_canBegin 30 = .ok (.aload_n 0, 1) := by decide +kernel
theorem dX5_canBegin_31 : decode cX5_canBegin 31 = .ok (.getfield 21, 3) := by decide +kernel
theorem dX5_canBegin_34 : decode cX5_canBegin 34 = .ok (.iload_n 1, 1) := by decide +kernel
theorem dX5_canBegin_35 : decode cX5_canBegin 35 = .ok (.invokevirtual 76, 3) := by decide +kernel
theorem dX5_canBegin_38 : decode cX5_canBegin 38 = .ok (.ifCond .eq 7, 3) := by decide +kernel
theorem dX5_canBegin_41 : decode cX5_canBegin 41 = .ok (.iconst 1, 1) := by decide +kernel
theorem dX5_canBegin_42 : decode cX5_canBegin 42 = .ok (.goto 4, 3) := by decide +kernel
theorem dX5_canBegin_45 : decode cX5_canBegin 45 = .ok (.iconst 0, 1) := by decide +kernel
theorem dX5_canBegin_46 : decode cX5_canBegin 46 = .ok (.ireturn, 1) := by decide +kernel
theorem dX5_beginRound_0 : decode cX5_beginRound 0 = .ok (.aload_n 0, 1) := by decide +kernel
theorem dX5_beginRound_1 : decode cX5_beginRound 1 = .ok (.aload_n 0, 1) := by decide +kernel
theorem dX5_beginRound_2 : decode cX5_beginRound 2 = .ok (.getfield 49, 3) := by decide +kernel
theorem dX5_beginRound_5 : decode cX5_beginRound 5 = .ok (.invokestatic 80, 3) := by decide +kernel
theorem dX5_beginRound_8 : decode cX5_beginRound 8 = .ok (.putfield 49, 3) := by decide +kernel
theorem dX5_beginRound_11 : decode cX5_beginRound 11 = .ok (.aload_n 0, 1) := by decide +kernel
theorem dX5_beginRound_12 : decode cX5_beginRound 12 = .ok (.aload_n 0, 1) := by decide +kernel
theorem dX5_beginRound_13 : decode cX5_beginRound 13 = .ok (.getfield 21, 3) := by decide +kernel
theorem dX5_beginRound_16 : decode cX5_beginRound 16 = .ok (.aload_n 0, 1) := by decide +kernel
theorem dX5_beginRound_17 : decode cX5_beginRound 17 = .ok (.getfield 43, 3) := by decide +kernel
theorem dX5_beginRound_20 : decode cX5_beginRound 20 = .ok (.invokevirtual 84, 3) := by decide +kernel
theorem dX5_beginRound_23 : decode cX5_beginRound 23 = .ok (.putfield 43, 3) := by decide +kernel
theorem dX5_beginRound_26 : decode cX5_beginRound 26 = .ok (.aload_n 0, 1) := by decide +kernel
theorem dX5_beginRound_27 : decode cX5_beginRound 27 = .ok (.dup, 1) := by decide +kernel
theorem dX5_beginRound_28 : decode cX5_beginRound 28 = .ok (.getfield 39, 3) := by decide +kernel
theorem dX5_beginRound_31 : decode cX5_beginRound 31 = .ok (.iconst 1, 1) := by decide +kernel
theorem dX5_beginRound_32 : decode cX5_beginRound 32 = .ok (.iadd, 1) := by decide +kernel
theorem dX5_beginRound_33 : decode cX5_beginRound 33 = .ok (.putfield 39, 3) := by decide +kernel
theorem dX5_beginRound_36 : decode cX5_beginRound 36 = .ok (.aload_n 0, 1) := by decide +kernel
theorem dX5_beginRound_37 : decode cX5_beginRound 37 = .ok (.getfield 28, 3) := by decide +kernel
theorem dX5_beginRound_40 : decode cX5_beginRound 40 = .ok (.iconst 1, 1) := by decide +kernel
theorem dX5_beginRound_41 : decode cX5_beginRound 41 = .ok (.putfield 68, 3) := by decide +kernel
theorem dX5_beginRound_44 : decode cX5_beginRound 44 = .ok (.aload_n 0, 1) := by decide +kernel
theorem dX5_beginRound_45 : decode cX5_beginRound 45 = .ok (.getfield 28, 3) := by decide +kernel
theorem dX5_beginRound_48 : decode cX5_beginRound 48 = .ok (.aload_n 0, 1) := by decide +kernel
theorem dX5_beginRound_49 : decode cX5_beginRound 49 = .ok (.getfield 12, 3) := by decide +kernel
theorem dX5_beginRound_52 : decode cX5_beginRound 52 = .ok (.aload_n 0, 1) := by decide +kernel
theorem dX5_beginRound_53 : decode cX5_beginRound 53 = .ok (.getfield 49, 3) := by decide +kernel
theorem dX5_beginRound_56 : decode cX5_beginRound 56 = .ok (.invokevirtual 87, 3) := by decide +kernel
theorem dX5_beginRound_59 : decode cX5_beginRound 59 = .ok (.putfield 90, 3) := by decide +kernel
theorem dX5_beginRound_62 : decode cX5_beginRound 62 = .ok (.aload_n 0, 1) := by decide +kernel
theorem dX5_beginRound_63 : decode cX5_beginRound 63 = .ok (.getfield 28, 3) := by decide +kernel
theorem dX5_beginRound_66 : decode cX5_beginRound 66 = .ok (.iload_n 1, 1) := by decide +kernel
theorem dX5_beginRound_67 : decode cX5_beginRound 67 = .ok (.putfield 93, 3) := by decide +kernel
theorem dX5_beginRound_70 : decode cX5_beginRound 70 = .ok (.aload_n 0, 1) := by decide +kernel
theorem dX5_beginRound_71 : decode cX5_beginRound 71 = .ok (.getfield 28, 3) := by decide +kernel
theorem dX5_beginRound_74 : decode cX5_beginRound 74 = .ok (.aload_n 0, 1) := by decide +kernel
theorem dX5_beginRound_75 : decode cX5_beginRound 75 = .ok (.getfield 43, 3) := by decide +kernel
theorem dX5_beginRound_78 : decode cX5_beginRound 78 = .ok (.putfield 96, 3) := by decide +kernel
theorem dX5_beginRound_81 : decode cX5_beginRound 81 = .ok (.aload_n 0, 1) := by decide +kernel
theorem dX5_beginRound_82 : decode cX5_beginRound 82 = .ok (.getfield 28, 3) := by decide +kernel
theorem dX5_beginRound_85 : decode cX5_beginRound 85 = .ok (.iload_n 1, 1) := by decide +kernel
theorem dX5_beginRound_86 : decode cX5_beginRound 86 = .ok (.aload_n 0, 1) := by decide +kernel
theorem dX5_beginRound_87 : decode cX5_beginRound 87 = .ok (.getfield 21, 3) := by decide +kernel
theorem dX5_beginRound_90 : decode cX5_beginRound 90 = .ok (.getfield 75, 3) := by decide +kernel
theorem dX5_beginRound_93 : decode cX5_beginRound 93 = .ok (.imul, 1) := by decide +kernel
theorem dX5_beginRound_94 : decode cX5_beginRound 94 = .ok (.putfield 99, 3) := by decide +kernel
theorem dX5_beginRound_97 : decode cX5_beginRound 97 = .ok (.aload_n 0, 1) := by decide +kernel
theorem dX5_beginRound_98 : decode cX5_beginRound 98 = .ok (.getfield 28, 3) := by decide +kernel
theorem dX5_beginRound_101 : decode cX5_beginRound 101 = .ok (.iconst 0, 1) := by decide +kernel
theorem dX5_beginRound_102 : decode cX5_beginRound 102 = .ok (.putfield 102, 3) := by decide +kernel
theorem dX5_beginRound_105 : decode cX5_beginRound 105 = .ok (.aload_n 0, 1) := by decide +kernel
theorem dX5_beginRound_106 : decode cX5_beginRound 106 = .ok (.getfield 28, 3) := by decide +kernel
theorem dX5_beginRound_109 : decode cX5_beginRound 109 = .ok (.iconst 0, 1) := by decide +kernel
theorem dX5_beginRound_110 : decode cX5_beginRound 110 = .ok (.putfield 105, 3) := by decide +kernel
theorem dX5_beginRound_113 : decode cX5_beginRound 113 = .ok (.aload_n 0, 1) := by decide +kernel
theorem dX5_beginRound_114 : decode cX5_beginRound 114 = .ok (.getfield 21, 3) := by decide +kernel
theorem dX5_beginRound_117 : decode cX5_beginRound 117 = .ok (.iload_n 1, 1) := by decide +kernel
theorem dX5_beginRound_118 : decode cX5_beginRound 118 = .ok (.invokevirtual 108, 3) := by decide +kernel
theorem dX5_beginRound_121 : decode cX5_beginRound 121 = .ok (.aload_n 0, 1) := by decide +kernel
theorem dX5_beginRound_122 : decode cX5_beginRound 122 = .ok (.getfield 12, 3) := by decide +kernel
theorem dX5_beginRound_125 : decode cX5_beginRound 125 = .ok (.getfield 112, 3) := by decide +kernel
theorem dX5_beginRound_128 : decode cX5_beginRound 128 = .ok (.aload_n 0, 1) := by decide +kernel
theorem dX5_beginRound_129 : decode cX5_beginRound 129 = .ok (.getfield 28, 3) := by decide +kernel
theorem dX5_beginRound_132 : decode cX5_beginRound 132 = .ok (.getfield 90, 3) := by decide +kernel
theorem dX5_beginRound_135 : decode cX5_beginRound 135 = .ok (.iconst 1, 1) := by decide +kernel
theorem dX5_beginRound_136 : decode cX5_beginRound 136 = .ok (.invokevirtual 116, 3) := by decide +kernel
theorem dX5_beginRound_139 : decode cX5_beginRound 139 = .ok (.return_, 1) := by decide +kernel
theorem dX5_guessLetter_0 : decode cX5_guessLetter 0 = .ok (.aload_n 0, 1) := by decide +kernel
theorem dX5_guessLetter_1 : decode cX5_guessLetter 1 = .ok (.getfield 28, 3) := by decide +kernel
theorem dX5_guessLetter_4 : decode cX5_guessLetter 4 = .ok (.getfield 96, 3) := by decide +kernel
theorem dX5_guessLetter_7 : decode cX5_guessLetter 7 = .ok (.istore_n 2, 1) := by decide +kernel
theorem dX5_guessLetter_8 : decode cX5_guessLetter 8 = .ok (.aload_n 0, 1) := by decide +kernel
theorem dX5_guessLetter_9 : decode cX5_guessLetter 9 = .ok (.getfield 21, 3) := by decide +kernel
theorem dX5_guessLetter_12 : decode cX5_guessLetter 12 = .ok (.getfield 122, 3) := by decide +kernel
theorem dX5_guessLetter_15 : decode cX5_guessLetter 15 = .ok (.iload_n 2, 1) := by decide +kernel
theorem dX5_guessLetter_16 : decode cX5_guessLetter 16 = .ok (.invokevirtual 125, 3) := by decide +kernel
theorem dX5_guessLetter_19 : decode cX5_guessLetter 19 = .ok (.iload_n 1, 1) := by decide +kernel
theorem dX5_guessLetter_20 : decode cX5_guessLetter 20 = .ok (.if_icmp .ne 7, 3) := by decide +kernel
theorem dX5_guessLetter_23 : decode cX5_guessLetter 23 = .ok (.iconst 1, 1) := by decide +kernel
theorem dX5_guessLetter_24 : decode cX5_guessLetter 24 = .ok (.goto 4, 3) := by decide +kernel
theorem dX5_guessLetter_27 : decode cX5_guessLetter 27 = .ok (.iconst 0, 1) := by decide +kernel
theorem dX5_guessLetter_28 : decode cX5_guessLetter 28 = .ok (.istore_n 3, 1) := by decide +kernel
theorem dX5_guessLetter_29 : decode cX5_guessLetter 29 = .ok (.aload_n 0, 1) := by decide +kernel
theorem dX5_guessLetter_30 : decode cX5_guessLetter 30 = .ok (.getfield 21, 3) := by decide +kernel
theorem dX5_guessLetter_33 : decode cX5_guessLetter 33 = .ok (.iload_n 2, 1) := by decide +kernel
theorem dX5_guessLetter_34 : decode cX5_guessLetter 34 = .ok (.invokevirtual 128, 3) := by decide +kernel
theorem dX5_guessLetter_37 : decode cX5_guessLetter 37 = .ok (.aload_n 0, 1) := by decide +kernel
theorem dX5_guessLetter_38 : decode cX5_guessLetter 38 = .ok (.getfield 28, 3) := by decide +kernel
theorem dX5_guessLetter_41 : decode cX5_guessLetter 41 = .ok (.dup, 1) := by decide +kernel
theorem dX5_guessLetter_42 : decode cX5_guessLetter 42 = .ok (.getfield 105, 3) := by decide +kernel
theorem dX5_guessLetter_45 : decode cX5_guessLetter 45 = .ok (.iconst 1, 1) := by decide +kernel
theorem dX5_guessLetter_46 : decode cX5_guessLetter 46 = .ok (.iload_n 1, 1) := by decide +kernel
theorem dX5_guessLetter_47 : decode cX5_guessLetter 47 = .ok (.ishl, 1) := by decide +kernel
theorem dX5_guessLetter_48 : decode cX5_guessLetter 48 = .ok (.ior, 1) := by decide +kernel
theorem dX5_guessLetter_49 : decode cX5_guessLetter 49 = .ok (.putfield 105, 3) := by decide +kernel
theorem dX5_guessLetter_52 : decode cX5_guessLetter 52 = .ok (.aload_n 0, 1) := by decide +kernel
theorem dX5_guessLetter_53 : decode cX5_guessLetter 53 = .ok (.getfield 12, 3) := by decide +kernel
theorem dX5_guessLetter_56 : decode cX5_guessLetter 56 = .ok (.aload_n 0, 1) := by decide +kernel
theorem dX5_guessLetter_57 : decode cX5_guessLetter 57 = .ok (.getfield 28, 3) := by decide +kernel
theorem dX5_guessLetter_60 : decode cX5_guessLetter 60 = .ok (.getfield 90, 3) := by decide +kernel
theorem dX5_guessLetter_63 : decode cX5_guessLetter 63 = .ok (.iload_n 1, 1) := by decide +kernel
theorem dX5_guessLetter_64 : decode cX5_guessLetter 64 = .ok (.invokevirtual 131, 3) := by decide +kernel
theorem dX5_guessLetter_67 : decode cX5_guessLetter 67 = .ok (.invokestatic 135, 3) := by decide +kernel
theorem dX5_guessLetter_70 : decode cX5_guessLetter 70 = .ok (.istore 4, 2) := by decide +kernel
theorem dX5_guessLetter_72 : decode cX5_guessLetter 72 = .ok (.iload 4, 2) := by decide +kernel
theorem dX5_guessLetter_74 : decode cX5_guessLetter 74 = .ok (.ifCond .ne 9, 3) := by decide +kernel
theorem dX5_guessLetter_77 : decode cX5_guessLetter 77 = .ok (.aload_n 0, 1) := by decide +kernel
theorem dX5_guessLetter_78 : decode cX5_guessLetter 78 = .ok (.invokevirtual 140, 3) := by decide +kernel
theorem dX5_guessLetter_81 : decode cX5_guessLetter 81 = .ok (.iconst 0, 1) := by decide +kernel
theorem dX5_guessLetter_82 : decode cX5_guessLetter 82 = .ok (.ireturn, 1) := by decide +kernel
theorem dX5_guessLetter_83 : decode cX5_guessLetter 83 = .ok (.aload_n 0, 1) := by decide +kernel
theorem dX5_guessLetter_84 : decode cX5_guessLetter 84 = .ok (.getfield 21, 3) := by decide +kernel
theorem dX5_guessLetter_87 : decode cX5_guessLetter 87 = .ok (.getfield 143, 3) := by decide +kernel
theorem dX5_guessLetter_90 : decode cX5_guessLetter 90 = .ok (.iload_n 2, 1) := by decide +kernel
theorem dX5_guessLetter_91 : decode cX5_guessLetter 91 = .ok (.iconst 1, 1) := by decide +kernel
theorem dX5_guessLetter_92 : decode cX5_guessLetter 92 = .ok (.invokevirtual 116, 3) := by decide +kernel
theorem dX5_guessLetter_95 : decode cX5_guessLetter 95 = .ok (.aload_n 0, 1) := by decide +kernel
theorem dX5_guessLetter_96 : decode cX5_guessLetter 96 = .ok (.iload_n 2, 1) := by decide +kernel
theorem dX5_guessLetter_97 : decode cX5_guessLetter 97 = .ok (.iload 4, 2) := by decide +kernel
theorem dX5_guessLetter_99 : decode cX5_guessLetter 99 = .ok (.iload_n 3, 1) := by decide +kernel
theorem dX5_guessLetter_100 : decode cX5_guessLetter 100 = .ok (.invokevirtual 146, 3) := by decide +kernel
theorem dX5_guessLetter_103 : decode cX5_guessLetter 103 = .ok (.aload_n 0, 1) := by decide +kernel
theorem dX5_guessLetter_104 : decode cX5_guessLetter 104 = .ok (.invokevirtual 150, 3) := by decide +kernel
theorem dX5_guessLetter_107 : decode cX5_guessLetter 107 = .ok (.aload_n 0, 1) := by decide +kernel
theorem dX5_guessLetter_108 : decode cX5_guessLetter 108 = .ok (.getfield 12, 3) := by decide +kernel
theorem dX5_guessLetter_111 : decode cX5_guessLetter 111 = .ok (.getfield 154, 3) := by decide +kernel
theorem dX5_guessLetter_114 : decode cX5_guessLetter 114 = .ok (.aload_n 0, 1) := by decide +kernel
theorem dX5_guessLetter_115 : decode cX5_guessLetter 115 = .ok (.getfield 28, 3) := by decide +kernel
theorem dX5_guessLetter_118 : decode cX5_guessLetter 118 = .ok (.getfield 90, 3) := by decide +kernel
theorem dX5_guessLetter_121 : decode cX5_guessLetter 121 = .ok (.invokevirtual 125, 3) := by decide +kernel
theorem dX5_guessLetter_124 : decode cX5_guessLetter 124 = .ok (.if_icmp .ne 7, 3) := by decide +kernel
theorem dX5_guessLetter_127 : decode cX5_guessLetter 127 = .ok (.aload_n 0, 1) := by decide +kernel
theorem dX5_guessLetter_128 : decode cX5_guessLetter 128 = .ok (.invokevirtual 157, 3) := by decide +kernel
theorem dX5_guessLetter_131 : decode cX5_guessLetter 131 = .ok (.iload 4, 2) := by decide +kernel
theorem dX5_guessLetter_133 : decode cX5_guessLetter 133 = .ok (.ireturn, 1) := by decide +kernel
theorem dX5_payForPlaces_0 : decode cX5_payForPlaces 0 = .ok (.aload_n 0, 1) := by decide +kernel
theorem dX5_payForPlaces_1 : decode cX5_payForPlaces 1 = .ok (.getfield 28, 3) := by decide +kernel
theorem dX5_payForPlaces_4 : decode cX5_payForPlaces 4 = .ok (.iload_n 2, 1) := by decide +kernel
theorem dX5_payForPlaces_5 : decode cX5_payForPlaces 5 = .ok (.invokevirtual 160, 3) := by decide +kernel
theorem dX5_payForPlaces_8 : decode cX5_payForPlaces 8 = .ok (.istore 4, 2) := by decide +kernel
theorem dX5_payForPlaces_10 : decode cX5_payForPlaces 10 = .ok (.iload_n 3, 1) := by decide +kernel
theorem dX5_payForPlaces_11 : decode cX5_payForPlaces 11 = .ok (.ifCond .eq 10, 3) := by decide +kernel
theorem dX5_payForPlaces_14 : decode cX5_payForPlaces 14 = .ok (.iload 4, 2) := by decide +kernel
theorem dX5_payForPlaces_16 : decode cX5_payForPlaces 16 = .ok (.iconst 2, 1) := by decide +kernel
theorem dX5_payForPlaces_17 : decode cX5_payForPlaces 17 = .ok (.idiv, 1) := by decide +kernel
theorem dX5_payForPlaces_18 : decode cX5_payForPlaces 18 = .ok (.goto 4, 3) := by decide +kernel
theorem dX5_payForPlaces_21 : decode cX5_payForPlaces 21 = .ok (.iconst 0, 1) := by decide +kernel
theorem dX5_payForPlaces_22 : decode cX5_payForPlaces 22 = .ok (.istore 5, 2) := by decide +kernel
theorem dX5_payForPlaces_24 : decode cX5_payForPlaces 24 = .ok (.aload_n 0, 1) := by decide +kernel
theorem dX5_payForPlaces_25 : decode cX5_payForPlaces 25 = .ok (.getfield 21, 3) := by decide +kernel
theorem dX5_payForPlaces_28 : decode cX5_payForPlaces 28 = .ok (.getfield 163, 3) := by decide +kernel
theorem dX5_payForPlaces_31 : decode cX5_payForPlaces 31 = .ok (.iload_n 1, 1) := by decide +kernel
theorem dX5_payForPlaces_32 : decode cX5_payForPlaces 32 = .ok (.iload 4, 2) := by decide +kernel
theorem dX5_payForPlaces_34 : decode cX5_payForPlaces 34 = .ok (.iload 5, 2) := by decide +kernel
theorem dX5_payForPlaces_36 : decode cX5_payForPlaces 36 = .ok (.isub, 1) := by decide +kernel
theorem dX5_payForPlaces_37 : decode cX5_payForPlaces 37 = .ok (.invokevirtual 116, 3) := by decide +kernel
theorem dX5_payForPlaces_40 : decode cX5_payForPlaces 40 = .ok (.aload_n 0, 1) := by decide +kernel
theorem dX5_payForPlaces_41 : decode cX5_payForPlaces 41 = .ok (.getfield 21, 3) := by decide +kernel
theorem dX5_payForPlaces_44 : decode cX5_payForPlaces 44 = .ok (.getfield 163, 3) := by decide +kernel
theorem dX5_payForPlaces_47 : decode cX5_payForPlaces 47 = .ok (.aload_n 0, 1) := by decide +kernel
theorem dX5_payForPlaces_48 : decode cX5_payForPlaces 48 = .ok (.getfield 21, 3) := by decide +kernel
theorem dX5_payForPlaces_51 : decode cX5_payForPlaces 51 = .ok (.getfield 166, 3) := by decide +kernel
theorem dX5_payForPlaces_54 : decode cX5_payForPlaces 54 = .ok (.iload_n 1, 1) := by decide +kernel
theorem dX5_payForPlaces_55 : decode cX5_payForPlaces 55 = .ok (.invokevirtual 125, 3) := by decide +kernel
theorem dX5_payForPlaces_58 : decode cX5_payForPlaces 58 = .ok (.iload 5, 2) := by decide +kernel
theorem dX5_payForPlaces_60 : decode cX5_payForPlaces 60 = .ok (.invokevirtual 116, 3) := by decide +kernel
theorem dX5_payForPlaces_63 : decode cX5_payForPlaces 63 = .ok (.return_, 1) := by decide +kernel
theorem dX5_tellWord_0 : decode cX5_tellWord 0 = .ok (.iload_n 1, 1) := by decide +kernel
theorem dX5_tellWord_1 : decode cX5_tellWord 1 = .ok (.aload_n 0, 1) := by decide +kernel
theorem dX5_tellWord_2 : decode cX5_tellWord 2 = .ok (.getfield 28, 3) := by decide +kernel
theorem dX5_tellWord_5 : decode cX5_tellWord 5 = .ok (.getfield 90, 3) := by decide +kernel
theorem dX5_tellWord_8 : decode cX5_tellWord 8 = .ok (.if_icmp .eq 9, 3) := by decide +kernel
theorem dX5_tellWord_11 : decode cX5_tellWord 11 = .ok (.aload_n 0, 1) := by decide +kernel
theorem dX5_tellWord_12 : decode cX5_tellWord 12 = .ok (.invokevirtual 140, 3) := by decide +kernel
theorem dX5_tellWord_15 : decode cX5_tellWord 15 = .ok (.iconst 0, 1) := by decide +kernel
theorem dX5_tellWord_16 : decode cX5_tellWord 16 = .ok (.ireturn, 1) := by decide +kernel
theorem dX5_tellWord_17 : decode cX5_tellWord 17 = .ok (.aload_n 0, 1) := by decide +kernel
theorem dX5_tellWord_18 : decode cX5_tellWord 18 = .ok (.invokevirtual 157, 3) := by decide +kernel
theorem dX5_tellWord_21 : decode cX5_tellWord 21 = .ok (.iconst 1, 1) := by decide +kernel
theorem dX5_tellWord_22 : decode cX5_tellWord 22 = .ok (.ireturn, 1) := by decide +kernel
theorem dX5_countMiss_0 : decode cX5_countMiss 0 = .ok (.aload_n 0, 1) := by decide +kernel
theorem dX5_countMiss_1 : decode cX5_countMiss 1 = .ok (.getfield 21, 3) := by decide +kernel
theorem dX5_countMiss_4 : decode cX5_countMiss 4 = .ok (.getfield 169, 3) := by decide +kernel
theorem dX5_countMiss_7 : decode cX5_countMiss 7 = .ok (.aload_n 0, 1) := by decide +kernel
theorem dX5_countMiss_8 : decode cX5_countMiss 8 = .ok (.getfield 28, 3) := by decide +kernel
theorem dX5_countMiss_11 : decode cX5_countMiss 11 = .ok (.getfield 96, 3) := by decide +kernel
theorem dX5_countMiss_14 : decode cX5_countMiss 14 = .ok (.iconst 1, 1) := by decide +kernel
theorem dX5_countMiss_15 : decode cX5_countMiss 15 = .ok (.invokevirtual 116, 3) := by decide +kernel
theorem dX5_countMiss_18 : decode cX5_countMiss 18 = .ok (.aload_n 0, 1) := by decide +kernel
theorem dX5_countMiss_19 : decode cX5_countMiss 19 = .ok (.getfield 28, 3) := by decide +kernel
theorem dX5_countMiss_22 : decode cX5_countMiss 22 = .ok (.dup, 1) := by decide +kernel
theorem dX5_countMiss_23 : decode cX5_countMiss 23 = .ok (.getfield 102, 3) := by decide +kernel
theorem dX5_countMiss_26 : decode cX5_countMiss 26 = .ok (.iconst 1, 1) := by decide +kernel
theorem dX5_countMiss_27 : decode cX5_countMiss 27 = .ok (.iadd, 1) := by decide +kernel
theorem dX5_countMiss_28 : decode cX5_countMiss 28 = .ok (.putfield 102, 3) := by decide +kernel
theorem dX5_countMiss_31 : decode cX5_countMiss 31 = .ok (.aload_n 0, 1) := by decide +kernel
theorem dX5_countMiss_32 : decode cX5_countMiss 32 = .ok (.getfield 28, 3) := by decide +kernel
theorem dX5_countMiss_35 : decode cX5_countMiss 35 = .ok (.getfield 102, 3) := by decide +kernel
theorem dX5_countMiss_38 : decode cX5_countMiss 38 = .ok (.aload_n 0, 1) := by decide +kernel
theorem dX5_countMiss_39 : decode cX5_countMiss 39 = .ok (.getfield 52, 3) := by decide +kernel
theorem dX5_countMiss_42 : decode cX5_countMiss 42 = .ok (.if_icmp .lt 27, 3) := by decide +kernel
theorem dX5_countMiss_45 : decode cX5_countMiss 45 = .ok (.aload_n 0, 1) := by decide +kernel
theorem dX5_countMiss_46 : decode cX5_countMiss 46 = .ok (.dup, 1) := by decide +kernel
theorem dX5_countMiss_47 : decode cX5_countMiss 47 = .ok (.getfield 46, 3) := by decide +kernel
theorem dX5_countMiss_50 : decode cX5_countMiss 50 = .ok (.aload_n 0, 1) := by decide +kernel
theorem dX5_countMiss_51 : decode cX5_countMiss 51 = .ok (.getfield 28, 3) := by decide +kernel
theorem dX5_countMiss_54 : decode cX5_countMiss 54 = .ok (.getfield 99, 3) := by decide +kernel
theorem dX5_countMiss_57 : decode cX5_countMiss 57 = .ok (.iadd, 1) := by decide +kernel
theorem dX5_countMiss_58 : decode cX5_countMiss 58 = .ok (.putfield 46, 3) := by decide +kernel
theorem dX5_countMiss_61 : decode cX5_countMiss 61 = .ok (.aload_n 0, 1) := by decide +kernel
theorem dX5_countMiss_62 : decode cX5_countMiss 62 = .ok (.iconst 5, 1) := by decide +kernel
theorem dX5_countMiss_63 : decode cX5_countMiss 63 = .ok (.invokevirtual 171, 3) := by decide +kernel
theorem dX5_countMiss_66 : decode cX5_countMiss 66 = .ok (.goto 24, 3) := by decide +kernel
theorem dX5_countMiss_69 : decode cX5_countMiss 69 = .ok (.aload_n 0, 1) := by decide +kernel
theorem dX5_countMiss_70 : decode cX5_countMiss 70 = .ok (.getfield 28, 3) := by decide +kernel
theorem dX5_countMiss_73 : decode cX5_countMiss 73 = .ok (.aload_n 0, 1) := by decide +kernel
theorem dX5_countMiss_74 : decode cX5_countMiss 74 = .ok (.getfield 21, 3) := by decide +kernel
theorem dX5_countMiss_77 : decode cX5_countMiss 77 = .ok (.aload_n 0, 1) := by decide +kernel
theorem dX5_countMiss_78 : decode cX5_countMiss 78 = .ok (.getfield 28, 3) := by decide +kernel
theorem dX5_countMiss_81 : decode cX5_countMiss 81 = .ok (.getfield 96, 3) := by decide +kernel
theorem dX5_countMiss_84 : decode cX5_countMiss 84 = .ok (.invokevirtual 84, 3) := by decide +kernel
theorem dX5_countMiss_87 : decode cX5_countMiss 87 = .ok (.putfield 96, 3) := by decide +kernel
theorem dX5_countMiss_90 : decode cX5_countMiss 90 = .ok (.return_, 1) := by decide +kernel
theorem dX5_winRound_0 : decode cX5_winRound 0 = .ok (.aload_n 0, 1) := by decide +kernel
theorem dX5_winRound_1 : decode cX5_winRound 1 = .ok (.getfield 21, 3) := by decide +kernel
theorem dX5_winRound_4 : decode cX5_winRound 4 = .ok (.getfield 163, 3) := by decide +kernel
theorem dX5_winRound_7 : decode cX5_winRound 7 = .ok (.aload_n 0, 1) := by decide +kernel
theorem dX5_winRound_8 : decode cX5_winRound 8 = .ok (.getfield 28, 3) := by decide +kernel
theorem dX5_winRound_11 : decode cX5_winRound 11 = .ok (.getfield 96, 3) := by decide +kernel
theorem dX5_winRound_14 : decode cX5_winRound 14 = .ok (.aload_n 0, 1) := by decide +kernel
theorem dX5_winRound_15 : decode cX5_winRound 15 = .ok (.getfield 28, 3) := by decide +kernel
theorem dX5_winRound_18 : decode cX5_winRound 18 = .ok (.getfield 99, 3) := by decide +kernel
theorem dX5_winRound_21 : decode cX5_winRound 21 = .ok (.invokevirtual 116, 3) := by decide +kernel
theorem dX5_winRound_24 : decode cX5_winRound 24 = .ok (.aload_n 0, 1) := by decide +kernel
theorem dX5_winRound_25 : decode cX5_winRound 25 = .ok (.getfield 21, 3) := by decide +kernel
theorem dX5_winRound_28 : decode cX5_winRound 28 = .ok (.getfield 174, 3) := by decide +kernel
theorem dX5_winRound_31 : decode cX5_winRound 31 = .ok (.aload_n 0, 1) := by decide +kernel
theorem dX5_winRound_32 : decode cX5_winRound 32 = .ok (.getfield 28, 3) := by decide +kernel
theorem dX5_winRound_35 : decode cX5_winRound 35 = .ok (.getfield 96, 3) := by decide +kernel
theorem dX5_winRound_38 : decode cX5_winRound 38 = .ok (.iconst 1, 1) := by decide +kernel
theorem dX5_winRound_39 : decode cX5_winRound 39 = .ok (.invokevirtual 116, 3) := by decide +kernel
theorem dX5_winRound_42 : decode cX5_winRound 42 = .ok (.aload_n 0, 1) := by decide +kernel
theorem dX5_winRound_43 : decode cX5_winRound 43 = .ok (.aload_n 0, 1) := by decide +kernel
theorem dX5_winRound_44 : decode cX5_winRound 44 = .ok (.getfield 28, 3) := by decide +kernel
theorem dX5_winRound_47 : decode cX5_winRound 47 = .ok (.getfield 96, 3) := by decide +kernel
theorem dX5_winRound_50 : decode cX5_winRound 50 = .ok (.invokevirtual 171, 3) := by decide +kernel
theorem dX5_winRound_53 : decode cX5_winRound 53 = .ok (.return_, 1) := by decide +kernel
theorem dX5_endRound_0 : decode cX5_endRound 0 = .ok (.aload_n 0, 1) := by decide +kernel
theorem dX5_endRound_1 : decode cX5_endRound 1 = .ok (.getfield 35, 3) := by decide +kernel
theorem dX5_endRound_4 : decode cX5_endRound 4 = .ok (.aload_n 0, 1) := by decide +kernel
theorem dX5_endRound_5 : decode cX5_endRound 5 = .ok (.getfield 28, 3) := by decide +kernel
theorem dX5_endRound_8 : decode cX5_endRound 8 = .ok (.iload_n 1, 1) := by decide +kernel
theorem dX5_endRound_9 : decode cX5_endRound 9 = .ok (.invokevirtual 177, 3) := by decide +kernel
theorem dX5_endRound_12 : decode cX5_endRound 12 = .ok (.aload_n 0, 1) := by decide +kernel
theorem dX5_endRound_13 : decode cX5_endRound 13 = .ok (.getfield 21, 3) := by decide +kernel
theorem dX5_endRound_16 : decode cX5_endRound 16 = .ok (.invokevirtual 181, 3) := by decide +kernel
theorem dX5_endRound_19 : decode cX5_endRound 19 = .ok (.aload_n 0, 1) := by decide +kernel
theorem dX5_endRound_20 : decode cX5_endRound 20 = .ok (.getfield 28, 3) := by decide +kernel
theorem dX5_endRound_23 : decode cX5_endRound 23 = .ok (.iconst 0, 1) := by decide +kernel
theorem dX5_endRound_24 : decode cX5_endRound 24 = .ok (.putfield 68, 3) := by decide +kernel
theorem dX5_endRound_27 : decode cX5_endRound 27 = .ok (.return_, 1) := by decide +kernel
theorem dX5_openPlaces_0 : decode cX5_openPlaces 0 = .ok (.iconst 0, 1) := by decide +kernel
theorem dX5_openPlaces_1 : decode cX5_openPlaces 1 = .ok (.istore_n 1, 1) := by decide +kernel
theorem dX5_openPlaces_2 : decode cX5_openPlaces 2 = .ok (.aload_n 0, 1) := by decide +kernel
theorem dX5_openPlaces_3 : decode cX5_openPlaces 3 = .ok (.getfield 12, 3) := by decide +kernel
theorem dX5_openPlaces_6 : decode cX5_openPlaces 6 = .ok (.getfield 154, 3) := by decide +kernel
theorem dX5_openPlaces_9 : decode cX5_openPlaces 9 = .ok (.aload_n 0, 1) := by decide +kernel
theorem dX5_openPlaces_10 : decode cX5_openPlaces 10 = .ok (.getfield 28, 3) := by decide +kernel
theorem dX5_openPlaces_13 : decode cX5_openPlaces 13 = .ok (.getfield 90, 3) := by decide +kernel
theorem dX5_openPlaces_16 : decode cX5_openPlaces 16 = .ok (.invokevirtual 125, 3) := by decide +kernel
theorem dX5_openPlaces_19 : decode cX5_openPlaces 19 = .ok (.istore_n 2, 1) := by decide +kernel
theorem dX5_openPlaces_20 : decode cX5_openPlaces 20 = .ok (.iconst 0, 1) := by decide +kernel
theorem dX5_openPlaces_21 : decode cX5_openPlaces 21 = .ok (.istore_n 3, 1) := by decide +kernel
theorem dX5_openPlaces_22 : decode cX5_openPlaces 22 = .ok (.iload_n 3, 1) := by decide +kernel
theorem dX5_openPlaces_23 : decode cX5_openPlaces 23 = .ok (.iload_n 2, 1) := by decide +kernel
theorem dX5_openPlaces_24 : decode cX5_openPlaces 24 = .ok (.if_icmp .ge 40, 3) := by decide +kernel
theorem dX5_openPlaces_27 : decode cX5_openPlaces 27 = .ok (.aload_n 0, 1) := by decide +kernel
theorem dX5_openPlaces_28 : decode cX5_openPlaces 28 = .ok (.getfield 28, 3) := by decide +kernel
theorem dX5_openPlaces_31 : decode cX5_openPlaces 31 = .ok (.getfield 105, 3) := by decide +kernel
theorem dX5_openPlaces_34 : decode cX5_openPlaces 34 = .ok (.aload_n 0, 1) := by decide +kernel
theorem dX5_openPlaces_35 : decode cX5_openPlaces 35 = .ok (.getfield 12, 3) := by decide +kernel
theorem dX5_openPlaces_38 : decode cX5_openPlaces 38 = .ok (.aload_n 0, 1) := by decide +kernel
theorem dX5_openPlaces_39 : decode cX5_openPlaces 39 = .ok (.getfield 28, 3) := by decide +kernel
theorem dX5_openPlaces_42 : decode cX5_openPlaces 42 = .ok (.getfield 90, 3) := by decide +kernel
theorem dX5_openPlaces_45 : decode cX5_openPlaces 45 = .ok (.iload_n 3, 1) := by decide +kernel
theorem dX5_openPlaces_46 : decode cX5_openPlaces 46 = .ok (.invokevirtual 184, 3) := by decide +kernel
theorem dX5_openPlaces_49 : decode cX5_openPlaces 49 = .ok (.invokestatic 187, 3) := by decide +kernel
theorem dX5_openPlaces_52 : decode cX5_openPlaces 52 = .ok (.ifCond .eq 6, 3) := by decide +kernel
theorem dX5_openPlaces_55 : decode cX5_openPlaces 55 = .ok (.iinc 1 1, 3) := by decide +kernel
theorem dX5_openPlaces_58 : decode cX5_openPlaces 58 = .ok (.iinc 3 1, 3) := by decide +kernel
theorem dX5_openPlaces_61 : decode cX5_openPlaces 61 = .ok (.goto (-39), 3) := by decide +kernel
theorem dX5_openPlaces_64 : decode cX5_openPlaces 64 = .ok (.iload_n 1, 1) := by decide +kernel
theorem dX5_openPlaces_65 : decode cX5_openPlaces 65 = .ok (.ireturn, 1) := by decide +kernel
theorem dX5_fitting_0 : decode cX5_fitting 0 = .ok (.aload_n 0, 1) := by decide +kernel
theorem dX5_fitting_1 : decode cX5_fitting 1 = .ok (.getfield 12, 3) := by decide +kernel
theorem dX5_fitting_4 : decode cX5_fitting 4 = .ok (.aload_n 0, 1) := by decide +kernel
theorem dX5_fitting_5 : decode cX5_fitting 5 = .ok (.getfield 28, 3) := by decide +kernel
theorem dX5_fitting_8 : decode cX5_fitting 8 = .ok (.getfield 90, 3) := by decide +kernel
theorem dX5_fitting_11 : decode cX5_fitting 11 = .ok (.aload_n 0, 1) := by decide +kernel
theorem dX5_fitting_12 : decode cX5_fitting 12 = .ok (.getfield 28, 3) := by decide +kernel
theorem dX5_fitting_15 : decode cX5_fitting 15 = .ok (.getfield 105, 3) := by decide +kernel
theorem dX5_fitting_18 : decode cX5_fitting 18 = .ok (.invokevirtual 191, 3) := by decide +kernel
theorem dX5_fitting_21 : decode cX5_fitting 21 = .ok (.ireturn, 1) := by decide +kernel
theorem dX5_likeliestLetter_0 : decode cX5_likeliestLetter 0 = .ok (.iconst 0, 1) := by decide +kernel
theorem dX5_likeliestLetter_1 : decode cX5_likeliestLetter 1 = .ok (.istore_n 2, 1) := by decide +kernel
theorem dX5_likeliestLetter_2 : decode cX5_likeliestLetter 2 = .ok (.iconst (-1), 1) := by decide +kernel
theorem dX5_likeliestLetter_3 : decode cX5_likeliestLetter 3 = .ok (.istore_n 3, 1) := by decide +kernel
theorem dX5_likeliestLetter_4 : decode cX5_likeliestLetter 4 = .ok (.iconst 0, 1) := by decide +kernel
theorem dX5_likeliestLetter_5 : decode cX5_likeliestLetter 5 = .ok (.istore 4, 2) := by decide +kernel
theorem dX5_likeliestLetter_7 : decode cX5_likeliestLetter 7 = .ok (.iload 4, 2) := by decide +kernel
theorem dX5_likeliestLetter_9 : decode cX5_likeliestLetter 9 = .ok (.bipush 26, 2) := by decide +kernel
theorem dX5_likeliestLetter_11 : decode cX5_likeliestLetter 11 = .ok (.if_icmp .ge 49, 3) := by decide +kernel
theorem dX5_likeliestLetter_14 : decode cX5_likeliestLetter 14 = .ok (.aload_n 0, 1) := by decide +kernel
theorem dX5_likeliestLetter_15 : decode cX5_likeliestLetter 15 = .ok (.getfield 28, 3) := by decide +kernel
theorem dX5_likeliestLetter_18 : decode cX5_likeliestLetter 18 = .ok (.iload 4, 2) := by decide +kernel
theorem dX5_likeliestLetter_20 : decode cX5_likeliestLetter 20 = .ok (.invokevirtual 194, 3) := by decide +kernel
theorem dX5_likeliestLetter_23 : decode cX5_likeliestLetter 23 = .ok (.ifCond .eq 16, 3) := by decide +kernel
theorem dX5_likeliestLetter_26 : decode cX5_likeliestLetter 26 = .ok (.aload_n 0, 1) := by decide +kernel
theorem dX5_likeliestLetter_27 : decode cX5_likeliestLetter 27 = .ok (.getfield 12, 3) := by decide +kernel
theorem dX5_likeliestLetter_30 : decode cX5_likeliestLetter 30 = .ok (.iload_n 1, 1) := by decide +kernel
theorem dX5_likeliestLetter_31 : decode cX5_likeliestLetter 31 = .ok (.iload 4, 2) := by decide +kernel
theorem dX5_likeliestLetter_33 : decode cX5_likeliestLetter 33 = .ok (.invokevirtual 197, 3) := by decide +kernel
theorem dX5_likeliestLetter_36 : decode cX5_likeliestLetter 36 = .ok (.goto 4, 3) := by decide +kernel
theorem dX5_likeliestLetter_39 : decode cX5_likeliestLetter 39 = .ok (.iconst (-1), 1) := by decide +kernel
theorem dX5_likeliestLetter_40 : decode cX5_likeliestLetter 40 = .ok (.istore 5, 2) := by decide +kernel
theorem dX5_likeliestLetter_42 : decode cX5_likeliestLetter 42 = .ok (.iload 5, 2) := by decide +kernel
theorem dX5_likeliestLetter_44 : decode cX5_likeliestLetter 44 = .ok (.iload_n 3, 1) := by decide +kernel
theorem dX5_likeliestLetter_45 : decode cX5_likeliestLetter 45 = .ok (.if_icmp .le 9, 3) := by decide +kernel
theorem dX5_likeliestLetter_48 : decode cX5_likeliestLetter 48 = .ok (.iload 4, 2) := by decide +kernel
theorem dX5_likeliestLetter_50 : decode cX5_likeliestLetter 50 = .ok (.istore_n 2, 1) := by decide +kernel
theorem dX5_likeliestLetter_51 : decode cX5_likeliestLetter 51 = .ok (.iload 5, 2) := by decide +kernel
theorem dX5_likeliestLetter_53 : decode cX5_likeliestLetter 53 = .ok (.istore_n 3, 1) := by decide +kernel
theorem dX5_likeliestLetter_54 : decode cX5_likeliestLetter 54 = .ok (.iinc 4 1, 3) := by decide +kernel
theorem dX5_likeliestLetter_57 : decode cX5_likeliestLetter 57 = .ok (.goto (-50), 3) := by decide +kernel
theorem dX5_likeliestLetter_60 : decode cX5_likeliestLetter 60 = .ok (.iload_n 2, 1) := by decide +kernel
theorem dX5_likeliestLetter_61 : decode cX5_likeliestLetter 61 = .ok (.ireturn, 1) := by decide +kernel
theorem dX5_sharpestLetter_0 : decode cX5_sharpestLetter 0 = .ok (.iconst 0, 1) := by decide +kernel
theorem dX5_sharpestLetter_1 : decode cX5_sharpestLetter 1 = .ok (.istore_n 2, 1) := by decide +kernel
theorem dX5_sharpestLetter_2 : decode cX5_sharpestLetter 2 = .ok (.bipush 17, 2) := by decide +kernel
theorem dX5_sharpestLetter_4 : decode cX5_sharpestLetter 4 = .ok (.istore_n 3, 1) := by decide +kernel
theorem dX5_sharpestLetter_5 : decode cX5_sharpestLetter 5 = .ok (.iconst 0, 1) := by decide +kernel
theorem dX5_sharpestLetter_6 : decode cX5_sharpestLetter 6 = .ok (.istore 4, 2) := by decide +kernel
theorem dX5_sharpestLetter_8 : decode cX5_sharpestLetter 8 = .ok (.iload 4, 2) := by decide +kernel
theorem dX5_sharpestLetter_10 : decode cX5_sharpestLetter 10 = .ok (.bipush 26, 2) := by decide +kernel
theorem dX5_sharpestLetter_12 : decode cX5_sharpestLetter 12 = .ok (.if_icmp .ge 49, 3) := by decide +kernel
theorem dX5_sharpestLetter_15 : decode cX5_sharpestLetter 15 = .ok (.aload_n 0, 1) := by decide +kernel
theorem dX5_sharpestLetter_16 : decode cX5_sharpestLetter 16 = .ok (.getfield 28, 3) := by decide +kernel
theorem dX5_sharpestLetter_19 : decode cX5_sharpestLetter 19 = .ok (.iload 4, 2) := by decide +kernel
theorem dX5_sharpestLetter_21 : decode cX5_sharpestLetter 21 = .ok (.invokevirtual 194, 3) := by decide +kernel
theorem dX5_sharpestLetter_24 : decode cX5_sharpestLetter 24 = .ok (.ifCond .eq 16, 3) := by decide +kernel
theorem dX5_sharpestLetter_27 : decode cX5_sharpestLetter 27 = .ok (.aload_n 0, 1) := by decide +kernel
theorem dX5_sharpestLetter_28 : decode cX5_sharpestLetter 28 = .ok (.getfield 12, 3) := by decide +kernel
theorem dX5_sharpestLetter_31 : decode cX5_sharpestLetter 31 = .ok (.iload_n 1, 1) := by decide +kernel
theorem dX5_sharpestLetter_32 : decode cX5_sharpestLetter 32 = .ok (.iload 4, 2) := by decide +kernel
theorem dX5_sharpestLetter_34 : decode cX5_sharpestLetter 34 = .ok (.invokevirtual 200, 3) := by decide +kernel
theorem dX5_sharpestLetter_37 : decode cX5_sharpestLetter 37 = .ok (.goto 4, 3) := by decide +kernel
theorem dX5_sharpestLetter_40 : decode cX5_sharpestLetter 40 = .ok (.iload_n 3, 1) := by decide +kernel
theorem dX5_sharpestLetter_41 : decode cX5_sharpestLetter 41 = .ok (.istore 5, 2) := by decide +kernel
theorem dX5_sharpestLetter_43 : decode cX5_sharpestLetter 43 = .ok (.iload 5, 2) := by decide +kernel
theorem dX5_sharpestLetter_45 : decode cX5_sharpestLetter 45 = .ok (.iload_n 3, 1) := by decide +kernel
theorem dX5_sharpestLetter_46 : decode cX5_sharpestLetter 46 = .ok (.if_icmp .ge 9, 3) := by decide +kernel
theorem dX5_sharpestLetter_49 : decode cX5_sharpestLetter 49 = .ok (.iload 4, 2) := by decide +kernel
theorem dX5_sharpestLetter_51 : decode cX5_sharpestLetter 51 = .ok (.istore_n 2, 1) := by decide +kernel
theorem dX5_sharpestLetter_52 : decode cX5_sharpestLetter 52 = .ok (.iload 5, 2) := by decide +kernel
theorem dX5_sharpestLetter_54 : decode cX5_sharpestLetter 54 = .ok (.istore_n 3, 1) := by decide +kernel
theorem dX5_sharpestLetter_55 : decode cX5_sharpestLetter 55 = .ok (.iinc 4 1, 3) := by decide +kernel
theorem dX5_sharpestLetter_58 : decode cX5_sharpestLetter 58 = .ok (.goto (-50), 3) := by decide +kernel
theorem dX5_sharpestLetter_61 : decode cX5_sharpestLetter 61 = .ok (.iload_n 2, 1) := by decide +kernel
theorem dX5_sharpestLetter_62 : decode cX5_sharpestLetter 62 = .ok (.ireturn, 1) := by decide +kernel
theorem dX6_init_0 : decode cX6_init 0 = .ok (.aload_n 0, 1) := by decide +kernel
theorem dX6_init_1 : decode cX6_init 1 = .ok (.invokespecial 3, 3) := by decide +kernel
theorem dX6_init_4 : decode cX6_init 4 = .ok (.aload_n 0, 1) := by decide +kernel
theorem dX6_init_5 : decode cX6_init 5 = .ok (.iconst 0, 1) := by decide +kernel
theorem dX6_init_6 : decode cX6_init 6 = .ok (.putfield 9, 3) := by decide +kernel
theorem dX6_init_9 : decode cX6_init 9 = .ok (.aload_n 0, 1) := by decide +kernel
theorem dX6_init_10 : decode cX6_init 10 = .ok (.iconst 0, 1) := by decide +kernel
theorem dX6_init_11 : decode cX6_init 11 = .ok (.putfield 15, 3) := by decide +kernel
theorem dX6_init_14 : decode cX6_init 14 = .ok (.aload_n 0, 1) := by decide +kernel
theorem dX6_init_15 : decode cX6_init 15 = .ok (.iconst 0, 1) := by decide +kernel
theorem dX6_init_16 : decode cX6_init 16 = .ok (.putfield 18, 3) := by decide +kernel
theorem dX6_init_19 : decode cX6_init 19 = .ok (.aload_n 0, 1) := by decide +kernel
theorem dX6_init_20 : decode cX6_init 20 = .ok (.new 21, 3) := by decide +kernel
theorem dX6_init_23 : decode cX6_init 23 = .ok (.dup, 1) := by decide +kernel
theorem dX6_init_24 : decode cX6_init 24 = .ok (.invokespecial 23, 3) := by decide +kernel
theorem dX6_init_27 : decode cX6_init 27 = .ok (.putfield 24, 3) := by decide +kernel
theorem dX6_init_30 : decode cX6_init 30 = .ok (.aload_n 0, 1) := by decide +kernel
theorem dX6_init_31 : decode cX6_init 31 = .ok (.new 28, 3) := by decide +kernel
theorem dX6_init_34 : decode cX6_init 34 = .ok (.dup, 1) := by decide +kernel
theorem dX6_init_35 : decode cX6_init 35 = .ok (.bipush 120, 2) := by decide +kernel
theorem dX6_init_37 : decode cX6_init 37 = .ok (.invokespecial 30, 3) := by decide +kernel
theorem dX6_init_40 : decode cX6_init 40 = .ok (.putfield 33, 3) := by decide +kernel
theorem dX6_init_43 : decode cX6_init 43 = .ok (.aload_n 0, 1) := by decide +kernel
theorem dX6_init_44 : decode cX6_init 44 = .ok (.iconst 0, 1) := by decide +kernel
theorem dX6_init_45 : decode cX6_init 45 = .ok (.putfield 37, 3) := by decide +kernel
theorem dX6_init_48 : decode cX6_init 48 = .ok (.return_, 1) := by decide +kernel
theorem dX6_append_0 : decode cX6_append 0 = .ok (.aload_n 0, 1) := by decide +kernel
theorem dX6_append_1 : decode cX6_append 1 = .ok (.getfield 33, 3) := by decide +kernel
theorem dX6_append_4 : decode cX6_append 4 = .ok (.aload_n 0, 1) := by decide +kernel
theorem dX6_append_5 : decode cX6_append 5 = .ok (.getfield 9, 3) := by decide +kernel
theorem dX6_append_8 : decode cX6_append 8 = .ok (.iload_n 1, 1) := by decide +kernel
theorem dX6_append_9 : decode cX6_append 9 = .ok (.invokevirtual 40, 3) := by decide +kernel
theorem dX6_append_12 : decode cX6_append 12 = .ok (.aload_n 0, 1) := by decide +kernel
theorem dX6_append_13 : decode cX6_append 13 = .ok (.dup, 1) := by decide +kernel
theorem dX6_append_14 : decode cX6_append 14 = .ok (.getfield 9, 3) := by decide +kernel
theorem dX6_append_17 : decode cX6_append 17 = .ok (.iconst 1, 1) := by decide +kernel
theorem dX6_append_18 : decode cX6_append 18 = .ok (.iadd, 1) := by decide +kernel
theorem dX6_append_19 : decode cX6_append 19 = .ok (.putfield 9, 3) := by decide +kernel
theorem dX6_append_22 : decode cX6_append 22 = .ok (.return_, 1) := by decide +kernel
theorem dX6_hasFault_0 : decode cX6_hasFault 0 = .ok (.aload_n 0, 1) := by decide +kernel
theorem dX6_hasFault_1 : decode cX6_hasFault 1 = .ok (.getfield 18, 3) := by decide +kernel
theorem dX6_hasFault_4 : decode cX6_hasFault 4 = .ok (.ifCond .eq 7, 3) := by decide +kernel
theorem dX6_hasFault_7 : decode cX6_hasFault 7 = .ok (.iconst 1, 1) := by decide +kernel
theorem dX6_hasFault_8 : decode cX6_hasFault 8 = .ok (.goto 4, 3) := by decide +kernel
theorem dX6_hasFault_11 : decode cX6_hasFault 11 = .ok (.iconst 0, 1) := by decide +kernel
theorem dX6_hasFault_12 : decode cX6_hasFault 12 = .ok (.ireturn, 1) := by decide +kernel
theorem dX6_scan_0 : decode cX6_scan 0 = .ok (.aload_n 0, 1) := by decide +kernel
theorem dX6_scan_1 : decode cX6_scan 1 = .ok (.getfield 24, 3) := by decide +kernel
theorem dX6_scan_4 : decode cX6_scan 4 = .ok (.iconst 0, 1) := by decide +kernel
theorem dX6_scan_5 : decode cX6_scan 5 = .ok (.putfield 44, 3) := by decide +kernel
theorem dX6_scan_8 : decode cX6_scan 8 = .ok (.aload_n 0, 1) := by decide +kernel
theorem dX6_scan_9 : decode cX6_scan 9 = .ok (.iconst 0, 1) := by decide +kernel
theorem dX6_scan_10 : decode cX6_scan 10 = .ok (.putfield 37, 3) := by decide +kernel
theorem dX6_scan_13 : decode cX6_scan 13 = .ok (.aload_n 0, 1) := by decide +kernel
theorem dX6_scan_14 : decode cX6_scan 14 = .ok (.iconst 0, 1) := by decide +kernel
theorem dX6_scan_15 : decode cX6_scan 15 = .ok (.putfield 18, 3) := by decide +kernel
theorem dX6_scan_18 : decode cX6_scan 18 = .ok (.aload_n 0, 1) := by decide +kernel
theorem dX6_scan_19 : decode cX6_scan 19 = .ok (.invokevirtual 47, 3) := by decide +kernel
theorem dX6_scan_22 : decode cX6_scan 22 = .ok (.iconst 1, 1) := by decide +kernel
theorem dX6_scan_23 : decode cX6_scan 23 = .ok (.istore_n 1, 1) := by decide +kernel
theorem dX6_scan_24 : decode cX6_scan 24 = .ok (.iload_n 1, 1) := by decide +kernel
theorem dX6_scan_25 : decode cX6_scan 25 = .ok (.bipush 16, 2) := by decide +kernel
theorem dX6_scan_27 : decode cX6_scan 27 = .ok (.if_icmp .gt 31, 3) := by decide +kernel
theorem dX6_scan_30 : decode cX6_scan 30 = .ok (.aload_n 0, 1) := by decide +kernel
theorem dX6_scan_31 : decode cX6_scan 31 = .ok (.getfield 37, 3) := by decide +kernel
theorem dX6_scan_34 : decode cX6_scan 34 = .ok (.aload_n 0, 1) := by decide +kernel
theorem dX6_scan_35 : decode cX6_scan 35 = .ok (.getfield 9, 3) := by decide +kernel
theorem dX6_scan_38 : decode cX6_scan 38 = .ok (.if_icmp .ge 20, 3) := by decide +kernel
theorem dX6_scan_41 : decode cX6_scan 41 = .ok (.aload_n 0, 1) := by decide +kernel
theorem dX6_scan_42 : decode cX6_scan 42 = .ok (.invokevirtual 50, 3) := by decide +kernel
theorem dX6_scan_45 : decode cX6_scan 45 = .ok (.ifCond .ne 13, 3) := by decide +kernel
theorem dX6_scan_48 : decode cX6_scan 48 = .ok (.aload_n 0, 1) := by decide +kernel
theorem dX6_scan_49 : decode cX6_scan 49 = .ok (.invokevirtual 47, 3) := by decide +kernel
theorem dX6_scan_52 : decode cX6_scan 52 = .ok (.iinc 1 1, 3) := by decide +kernel
theorem dX6_scan_55 : decode cX6_scan 55 = .ok (.goto (-31), 3) := by decide +kernel
theorem dX6_scan_58 : decode cX6_scan 58 = .ok (.return_, 1) := by decide +kernel
theorem dX6_scanWord_0 : decode cX6_scanWord 0 = .ok (.aload_n 0, 1) := by decide +kernel
theorem dX6_scanWord_1 : decode cX6_scanWord 1 = .ok (.getfield 37, 3) := by decide +kernel
theorem dX6_scanWord_4 : decode cX6_scanWord 4 = .ok (.istore_n 1, 1) := by decide +kernel
theorem dX6_scanWord_5 : decode cX6_scanWord 5 = .ok (.aload_n 0, 1) := by decide +kernel
theorem dX6_scanWord_6 : decode cX6_scanWord 6 = .ok (.iload_n 1, 1) := by decide +kernel
theorem dX6_scanWord_7 : decode cX6_scanWord 7 = .ok (.invokevirtual 54, 3) := by decide +kernel
theorem dX6_scanWord_10 : decode cX6_scanWord 10 = .ok (.invokestatic 58, 3) := by decide +kernel
theorem dX6_scanWord_13 : decode cX6_scanWord 13 = .ok (.ifCond .ne 13, 3) := by decide +kernel
theorem dX6_scanWord_16 : decode cX6_scanWord 16 = .ok (.aload_n 0, 1) := by decide +kernel
theorem dX6_scanWord_17 : decode cX6_scanWord 17 = .ok (.iload_n 1, 1) := by decide +kernel
theorem dX6_scanWord_18 : decode cX6_scanWord 18 = .ok (.iconst 1, 1) := by decide +kernel
theorem dX6_scanWord_19 : decode cX6_scanWord 19 = .ok (.invokevirtual 62, 3) := by decide +kernel
theorem dX6_scanWord_22 : decode cX6_scanWord 22 = .ok (.pop, 1) := by decide +kernel
theorem dX6_scanWord_23 : decode cX6_scanWord 23 = .ok (.goto 62, 3) := by decide +kernel
theorem dX6_scanWord_26 : decode cX6_scanWord 26 = .ok (.aload_n 0, 1) := by decide +kernel
theorem dX6_scanWord_27 : decode cX6_scanWord 27 = .ok (.getfield 24, 3) := by decide +kernel
theorem dX6_scanWord_30 : decode cX6_scanWord 30 = .ok (.getfield 44, 3) := by decide +kernel
theorem dX6_scanWord_33 : decode cX6_scanWord 33 = .ok (.bipush 16, 2) := by decide +kernel
theorem dX6_scanWord_35 : decode cX6_scanWord 35 = .ok (.if_icmp .lt 13, 3) := by decide +kernel
theorem dX6_scanWord_38 : decode cX6_scanWord 38 = .ok (.aload_n 0, 1) := by decide +kernel
theorem dX6_scanWord_39 : decode cX6_scanWord 39 = .ok (.iload_n 1, 1) := by decide +kernel
theorem dX6_scanWord_40 : decode cX6_scanWord 40 = .ok (.iconst 4, 1) := by decide +kernel
theorem dX6_scanWord_41 : decode cX6_scanWord 41 = .ok (.invokevirtual 62, 3) := by decide +kernel
theorem dX6_scanWord_44 : decode cX6_scanWord 44 = .ok (.pop, 1) := by decide +kernel
theorem dX6_scanWord_45 : decode cX6_scanWord 45 = .ok (.goto 40, 3) := by decide +kernel
theorem dX6_scanWord_48 : decode cX6_scanWord 48 = .ok (.aload_n 0, 1) := by decide +kernel
theorem dX6_scanWord_49 : decode cX6_scanWord 49 = .ok (.invokevirtual 66, 3) := by decide +kernel
theorem dX6_scanWord_52 : decode cX6_scanWord 52 = .ok (.ifCond .eq 33, 3) := by decide +kernel
theorem dX6_scanWord_55 : decode cX6_scanWord 55 = .ok (.aload_n 0, 1) := by decide +kernel
theorem dX6_scanWord_56 : decode cX6_scanWord 56 = .ok (.bipush 42, 2) := by decide +kernel
theorem dX6_scanWord_58 : decode cX6_scanWord 58 = .ok (.invokevirtual 69, 3) := by decide +kernel
theorem dX6_scanWord_61 : decode cX6_scanWord 61 = .ok (.ifCond .eq 24, 3) := by decide +kernel
theorem dX6_scanWord_64 : decode cX6_scanWord 64 = .ok (.aload_n 0, 1) := by decide +kernel
theorem dX6_scanWord_65 : decode cX6_scanWord 65 = .ok (.invokevirtual 72, 3) := by decide +kernel
theorem dX6_scanWord_68 : decode cX6_scanWord 68 = .ok (.ifCond .eq 17, 3) := by decide +kernel
theorem dX6_scanWord_71 : decode cX6_scanWord 71 = .ok (.aload_n 0, 1) := by decide +kernel
theorem dX6_scanWord_72 : decode cX6_scanWord 72 = .ok (.bipush 59, 2) := by decide +kernel
theorem dX6_scanWord_74 : decode cX6_scanWord 74 = .ok (.invokevirtual 69, 3) := by decide +kernel
theorem dX6_scanWord_77 : decode cX6_scanWord 77 = .ok (.ifCond .eq 8, 3) := by decide +kernel
theorem dX6_scanWord_80 : decode cX6_scanWord 80 = .ok (.aload_n 0, 1) := by decide +kernel
theorem dX6_scanWord_81 : decode cX6_scanWord 81 = .ok (.iload_n 1, 1) := by decide +kernel
theorem dX6_scanWord_82 : decode cX6_scanWord 82 = .ok (.invokevirtual 75, 3) := by decide +kernel
theorem dX6_scanWord_85 : decode cX6_scanWord 85 = .ok (.return_, 1) := by decide +kernel
theorem dX6_addWord_0 : decode cX6_addWord 0 = .ok (.iconst 0, 1) := by decide +kernel
theorem dX6_addWord_1 : decode cX6_addWord 1 = .ok (.istore_n 2, 1) := by decide +kernel
theorem dX6_addWord_2 : decode cX6_addWord 2 = .ok (.iload_n 2, 1) := by decide +kernel
theorem dX6_addWord_3 : decode cX6_addWord 3 = .ok (.aload_n 0, 1) := by decide +kernel
theorem dX6_addWord_4 : decode cX6_addWord 4 = .ok (.getfield 24, 3) := by decide +kernel
theorem dX6_addWord_7 : decode cX6_addWord 7 = .ok (.getfield 44, 3) := by decide +kernel
theorem dX6_addWord_10 : decode cX6_addWord 10 = .ok (.if_icmp .ge 35, 3) := by decide +kernel
theorem dX6_addWord_13 : decode cX6_addWord 13 = .ok (.aload_n 0, 1) := by decide +kernel
theorem dX6_addWord_14 : decode cX6_addWord 14 = .ok (.getfield 24, 3) := by decide +kernel
theorem dX6_addWord_17 : decode cX6_addWord 17 = .ok (.iload_n 2, 1) := by decide +kernel
theorem dX6_addWord_18 : decode cX6_addWord 18 = .ok (.aload_n 0, 1) := by decide +kernel
theorem dX6_addWord_19 : decode cX6_addWord 19 = .ok (.getfield 24, 3) := by decide +kernel
theorem dX6_addWord_22 : decode cX6_addWord 22 = .ok (.getfield 44, 3) := by decide +kernel
theorem dX6_addWord_25 : decode cX6_addWord 25 = .ok (.invokevirtual 78, 3) := by decide +kernel
theorem dX6_addWord_28 : decode cX6_addWord 28 = .ok (.ifCond .eq 11, 3) := by decide +kernel
theorem dX6_addWord_31 : decode cX6_addWord 31 = .ok (.aload_n 0, 1) := by decide +kernel
theorem dX6_addWord_32 : decode cX6_addWord 32 = .ok (.iload_n 1, 1) := by decide +kernel
theorem dX6_addWord_33 : decode cX6_addWord 33 = .ok (.iconst 3, 1) := by decide +kernel
theorem dX6_addWord_34 : decode cX6_addWord 34 = .ok (.invokevirtual 62, 3) := by decide +kernel
theorem dX6_addWord_37 : decode cX6_addWord 37 = .ok (.pop, 1) := by decide +kernel
theorem dX6_addWord_38 : decode cX6_addWord 38 = .ok (.return_, 1) := by decide +kernel
theorem dX6_addWord_39 : decode cX6_addWord 39 = .ok (.iinc 2 1, 3) := by decide +kernel
theorem dX6_addWord_42 : decode cX6_addWord 42 = .ok (.goto (-40), 3) := by decide +kernel
theorem dX6_addWord_45 : decode cX6_addWord 45 = .ok (.aload_n 0, 1) := by decide +kernel
theorem dX6_addWord_46 : decode cX6_addWord 46 = .ok (.getfield 24, 3) := by decide +kernel
theorem dX6_addWord_49 : decode cX6_addWord 49 = .ok (.dup, 1) := by decide +kernel
theorem dX6_addWord_50 : decode cX6_addWord 50 = .ok (.getfield 44, 3) := by decide +kernel
theorem dX6_addWord_53 : decode cX6_addWord 53 = .ok (.iconst 1, 1) := by decide +kernel
theorem dX6_addWord_54 : decode cX6_addWord 54 = .ok (.iadd, 1) := by decide +kernel
theorem dX6_addWord_55 : decode cX6_addWord 55 = .ok (.putfield 44, 3) := by decide +kernel
theorem dX6_addWord_58 : decode cX6_addWord 58 = .ok (.return_, 1) := by decide +kernel
theorem dX6_scanLetters_0 : decode cX6_scanLetters 0 = .ok (.iconst 0, 1) := by decide +kernel
theorem dX6_scanLetters_1 : decode cX6_scanLetters 1 = .ok (.istore_n 1, 1) := by decide +kernel
theorem dX6_scanLetters_2 : decode cX6_scanLetters 2 = .ok (.iload_n 1, 1) := by decide +kernel
theorem dX6_scanLetters_3 : decode cX6_scanLetters 3 = .ok (.bipush 8, 2) := by decide +kernel
theorem dX6_scanLetters_5 : decode cX6_scanLetters 5 = .ok (.if_icmp .ge 59, 3) := by decide +kernel
theorem dX6_scanLetters_8 : decode cX6_scanLetters 8 = .ok (.aload_n 0, 1) := by decide +kernel
theorem dX6_scanLetters_9 : decode cX6_scanLetters 9 = .ok (.aload_n 0, 1) := by decide +kernel
theorem dX6_scanLetters_10 : decode cX6_scanLetters 10 = .ok (.getfield 37, 3) := by decide +kernel
theorem dX6_scanLetters_13 : decode cX6_scanLetters 13 = .ok (.invokevirtual 54, 3) := by decide +kernel
theorem dX6_scanLetters_16 : decode cX6_scanLetters 16 = .ok (.invokestatic 58, 3) := by decide +kernel
theorem dX6_scanLetters_19 : decode cX6_scanLetters 19 = .ok (.ifCond .eq 45, 3) := by decide +kernel
theorem dX6_scanLetters_22 : decode cX6_scanLetters 22 = .ok (.aload_n 0, 1) := by decide +kernel
theorem dX6_scanLetters_23 : decode cX6_scanLetters 23 = .ok (.getfield 24, 3) := by decide +kernel
theorem dX6_scanLetters_26 : decode cX6_scanLetters 26 = .ok (.aload_n 0, 1) := by decide +kernel
theorem dX6_scanLetters_27 : decode cX6_scanLetters 27 = .ok (.getfield 24, 3) := by decide +kernel
theorem dX6_scanLetters_30 : decode cX6_scanLetters 30 = .ok (.getfield 44, 3) := by decide +kernel
theorem dX6_scanLetters_33 : decode cX6_scanLetters 33 = .ok (.iload_n 1, 1) := by decide +kernel
theorem dX6_scanLetters_34 : decode cX6_scanLetters 34 = .ok (.aload_n 0, 1) := by decide +kernel
theorem dX6_scanLetters_35 : decode cX6_scanLetters 35 = .ok (.aload_n 0, 1) := by decide +kernel
theorem dX6_scanLetters_36 : decode cX6_scanLetters 36 = .ok (.getfield 37, 3) := by decide +kernel
theorem dX6_scanLetters_39 : decode cX6_scanLetters 39 = .ok (.invokevirtual 54, 3) := by decide +kernel
theorem dX6_scanLetters_42 : decode cX6_scanLetters 42 = .ok (.bipush 97, 2) := by decide +kernel
theorem dX6_scanLetters_44 : decode cX6_scanLetters 44 = .ok (.isub, 1) := by decide +kernel
theorem dX6_scanLetters_45 : decode cX6_scanLetters 45 = .ok (.invokevirtual 81, 3) := by decide +kernel
theorem dX6_scanLetters_48 : decode cX6_scanLetters 48 = .ok (.iinc 1 1, 3) := by decide +kernel
theorem dX6_scanLetters_51 : decode cX6_scanLetters 51 = .ok (.aload_n 0, 1) := by decide +kernel
theorem dX6_scanLetters_52 : decode cX6_scanLetters 52 = .ok (.dup, 1) := by decide +kernel
theorem dX6_scanLetters_53 : decode cX6_scanLetters 53 = .ok (.getfield 37, 3) := by decide +kernel
theorem dX6_scanLetters_56 : decode cX6_scanLetters 56 = .ok (.iconst 1, 1) := by decide +kernel
theorem dX6_scanLetters_57 : decode cX6_scanLetters 57 = .ok (.iadd, 1) := by decide +kernel
theorem dX6_scanLetters_58 : decode cX6_scanLetters 58 = .ok (.putfield 37, 3) := by decide +kernel
theorem dX6_scanLetters_61 : decode cX6_scanLetters 61 = .ok (.goto (-59), 3) := by decide +kernel
theorem dX6_scanLetters_64 : decode cX6_scanLetters 64 = .ok (.aload_n 0, 1) := by decide +kernel
theorem dX6_scanLetters_65 : decode cX6_scanLetters 65 = .ok (.getfield 24, 3) := by decide +kernel
theorem dX6_scanLetters_68 : decode cX6_scanLetters 68 = .ok (.getfield 85, 3) := by decide +kernel
theorem dX6_scanLetters_71 : decode cX6_scanLetters 71 = .ok (.aload_n 0, 1) := by decide +kernel
theorem dX6_scanLetters_72 : decode cX6_scanLetters 72 = .ok (.getfield 24, 3) := by decide +kernel
theorem dX6_scanLetters_75 : decode cX6_scanLetters 75 = .ok (.getfield 44, 3) := by decide +kernel
theorem dX6_scanLetters_78 : decode cX6_scanLetters 78 = .ok (.iload_n 1, 1) := by decide +kernel
theorem dX6_scanLetters_79 : decode cX6_scanLetters 79 = .ok (.invokevirtual 40, 3) := by decide +kernel
theorem dX6_scanLetters_82 : decode cX6_scanLetters 82 = .ok (.iload_n 1, 1) := by decide +kernel
theorem dX6_scanLetters_83 : decode cX6_scanLetters 83 = .ok (.iconst 2, 1) := by decide +kernel
theorem dX6_scanLetters_84 : decode cX6_scanLetters 84 = .ok (.if_icmp .ge 13, 3) := by decide +kernel
theorem dX6_scanLetters_87 : decode cX6_scanLetters 87 = .ok (.aload_n 0, 1) := by decide +kernel
theorem dX6_scanLetters_88 : decode cX6_scanLetters 88 = .ok (.aload_n 0, 1) := by decide +kernel
theorem dX6_scanLetters_89 : decode cX6_scanLetters 89 = .ok (.getfield 37, 3) := by decide +kernel
theorem dX6_scanLetters_92 : decode cX6_scanLetters 92 = .ok (.iconst 1, 1) := by decide +kernel
theorem dX6_scanLetters_93 : decode cX6_scanLetters 93 = .ok (.invokevirtual 62, 3) := by decide +kernel
theorem dX6_scanLetters_96 : decode cX6_scanLetters 96 = .ok (.ireturn, 1) := by decide +kernel
theorem dX6_scanLetters_97 : decode cX6_scanLetters 97 = .ok (.aload_n 0, 1) := by decide +kernel
theorem dX6_scanLetters_98 : decode cX6_scanLetters 98 = .ok (.aload_n 0, 1) := by decide +kernel
theorem dX6_scanLetters_99 : decode cX6_scanLetters 99 = .ok (.getfield 37, 3) := by decide +kernel
theorem dX6_scanLetters_102 : decode cX6_scanLetters 102 = .ok (.invokevirtual 54, 3) := by decide +kernel
theorem dX6_scanLetters_105 : decode cX6_scanLetters 105 = .ok (.invokestatic 58, 3) := by decide +kernel
theorem dX6_scanLetters_108 : decode cX6_scanLetters 108 = .ok (.ifCond .eq 13, 3) := by decide +kernel
theorem dX6_scanLetters_111 : decode cX6_scanLetters 111 = .ok (.aload_n 0, 1) := by decide +kernel
theorem dX6_scanLetters_112 : decode cX6_scanLetters 112 = .ok (.aload_n 0, 1) := by decide +kernel
theorem dX6_scanLetters_113 : decode cX6_scanLetters 113 = .ok (.getfield 37, 3) := by decide +kernel
theorem dX6_scanLetters_116 : decode cX6_scanLetters 116 = .ok (.iconst 2, 1) := by decide +kernel
theorem dX6_scanLetters_117 : decode cX6_scanLetters 117 = .ok (.invokevirtual 62, 3) := by decide +kernel
theorem dX6_scanLetters_120 : decode cX6_scanLetters 120 = .ok (.ireturn, 1) := by decide +kernel
theorem dX6_scanLetters_121 : decode cX6_scanLetters 121 = .ok (.iconst 1, 1) := by decide +kernel
theorem dX6_scanLetters_122 : decode cX6_scanLetters 122 = .ok (.ireturn, 1) := by decide +kernel
theorem dX6_scanWeight_0 : decode cX6_scanWeight 0 = .ok (.aload_n 0, 1) := by decide +kernel
theorem dX6_scanWeight_1 : decode cX6_scanWeight 1 = .ok (.aload_n 0, 1) := by decide +kernel
theorem dX6_scanWeight_2 : decode cX6_scanWeight 2 = .ok (.getfield 37, 3) := by decide +kernel
theorem dX6_scanWeight_5 : decode cX6_scanWeight 5 = .ok (.invokevirtual 54, 3) := by decide +kernel
theorem dX6_scanWeight_8 : decode cX6_scanWeight 8 = .ok (.istore_n 1, 1) := by decide +kernel
theorem dX6_scanWeight_9 : decode cX6_scanWeight 9 = .ok (.iload_n 1, 1) := by decide +kernel
theorem dX6_scanWeight_10 : decode cX6_scanWeight 10 = .ok (.bipush 49, 2) := by decide +kernel
theorem dX6_scanWeight_12 : decode cX6_scanWeight 12 = .ok (.bipush 57, 2) := by decide +kernel
theorem dX6_scanWeight_14 : decode cX6_scanWeight 14 = .ok (.invokestatic 87, 3) := by decide +kernel
theorem dX6_scanWeight_17 : decode cX6_scanWeight 17 = .ok (.ifCond .ne 13, 3) := by decide +kernel
theorem dX6_scanWeight_20 : decode cX6_scanWeight 20 = .ok (.aload_n 0, 1) := by decide +kernel
theorem dX6_scanWeight_21 : decode cX6_scanWeight 21 = .ok (.aload_n 0, 1) := by decide +kernel
theorem dX6_scanWeight_22 : decode cX6_scanWeight 22 = .ok (.getfield 37, 3) := by decide +kernel
theorem dX6_scanWeight_25 : decode cX6_scanWeight 25 = .ok (.iconst 1, 1) := by decide +kernel
theorem dX6_scanWeight_26 : decode cX6_scanWeight 26 = .ok (.invokevirtual 62, 3) := by decide +kernel
theorem dX6_scanWeight_29 : decode cX6_scanWeight 29 = .ok (.ireturn, 1) := by decide +kernel
theorem dX6_scanWeight_30 : decode cX6_scanWeight 30 = .ok (.aload_n 0, 1) := by decide +kernel
theorem dX6_scanWeight_31 : decode cX6_scanWeight 31 = .ok (.dup, 1) := by decide +kernel
theorem dX6_scanWeight_32 : decode cX6_scanWeight 32 = .ok (.getfield 37, 3) := by decide +kernel
theorem dX6_scanWeight_35 : decode cX6_scanWeight 35 = .ok (.iconst 1, 1) := by decide +kernel
theorem dX6_scanWeight_36 : decode cX6_scanWeight 36 = .ok (.iadd, 1) := by decide +kernel
theorem dX6_scanWeight_37 : decode cX6_scanWeight 37 = .ok (.putfield 37, 3) := by decide +kernel
theorem dX6_scanWeight_40 : decode cX6_scanWeight 40 = .ok (.iload_n 1, 1) := by decide +kernel
theorem dX6_scanWeight_41 : decode cX6_scanWeight 41 = .ok (.bipush 48, 2) := by decide +kernel
theorem dX6_scanWeight_43 : decode cX6_scanWeight 43 = .ok (.isub, 1) := by decide +kernel
theorem dX6_scanWeight_44 : decode cX6_scanWeight 44 = .ok (.istore_n 2, 1) := by decide +kernel
theorem dX6_scanWeight_45 : decode cX6_scanWeight 45 = .ok (.aload_n 0, 1) := by decide +kernel
theorem dX6_scanWeight_46 : decode cX6_scanWeight 46 = .ok (.aload_n 0, 1) := by decide +kernel
theorem dX6_scanWeight_47 : decode cX6_scanWeight 47 = .ok (.getfield 37, 3) := by decide +kernel
theorem dX6_scanWeight_50 : decode cX6_scanWeight 50 = .ok (.invokevirtual 54, 3) := by decide +kernel
theorem dX6_scanWeight_53 : decode cX6_scanWeight 53 = .ok (.istore_n 3, 1) := by decide +kernel
theorem dX6_scanWeight_54 : decode cX6_scanWeight 54 = .ok (.iload_n 3, 1) := by decide +kernel
theorem dX6_scanWeight_55 : decode cX6_scanWeight 55 = .ok (.bipush 48, 2) := by decide +kernel
theorem dX6_scanWeight_57 : decode cX6_scanWeight 57 = .ok (.bipush 57, 2) := by decide +kernel
theorem dX6_scanWeight_59 : decode cX6_scanWeight 59 = .ok (.invokestatic 87, 3) := by decide +kernel
theorem dX6_scanWeight_62 : decode cX6_scanWeight 62 = .ok (.ifCond .eq 23, 3) := by decide +kernel
theorem dX6_scanWeight_65 : decode cX6_scanWeight 65 = .ok (.aload_n 0, 1) := by decide +kernel
theorem dX6_scanWeight_66 : decode cX6_scanWeight 66 = .ok (.dup, 1) := by decide +kernel
theorem dX6_scanWeight_67 : decode cX6_scanWeight 67 = .ok (.getfield 37, 3) := by decide +kernel
theorem dX6_scanWeight_70 : decode cX6_scanWeight 70 = .ok (.iconst 1, 1) := by decide +kernel
theorem dX6_scanWeight_71 : decode cX6_scanWeight 71 = .ok (.iadd, 1) := by decide +kernel
theorem dX6_scanWeight_72 : decode cX6_scanWeight 72 = .ok (.putfield 37, 3) := by decide +kernel
theorem dX6_scanWeight_75 : decode cX6_scanWeight 75 = .ok (.iload_n 2, 1) := by decide +kernel
theorem dX6_scanWeight_76 : decode cX6_scanWeight 76 = .ok (.bipush 10, 2) := by decide +kernel
theorem dX6_scanWeight_78 : decode cX6_scanWeight 78 = .ok (.imul, 1) := by decide +kernel
theorem dX6_scanWeight_79 : decode cX6_scanWeight 79 = .ok (.iload_n 3, 1) := by decide +kernel
theorem dX6_scanWeight_80 : decode cX6_scanWeight 80 = .ok (.iadd, 1) := by decide +kernel
theorem dX6_scanWeight_81 : decode cX6_scanWeight 81 = .ok (.bipush 48, 2) := by decide +kernel
theorem dX6_scanWeight_83 : decode cX6_scanWeight 83 = .ok (.isub, 1) := by decide +kernel
theorem dX6_scanWeight_84 : decode cX6_scanWeight 84 = .ok (.istore_n 2, 1) := by decide +kernel
theorem dX6_scanWeight_85 : decode cX6_scanWeight 85 = .ok (.aload_n 0, 1) := by decide +kernel
theorem dX6_scanWeight_86 : decode cX6_scanWeight 86 = .ok (.getfield 24, 3) := by decide +kernel
theorem dX6_scanWeight_89 : decode cX6_scanWeight 89 = .ok (.getfield 91, 3) := by decide +kernel
theorem dX6_scanWeight_92 : decode cX6_scanWeight 92 = .ok (.aload_n 0, 1) := by decide +kernel
theorem dX6_scanWeight_93 : decode cX6_scanWeight 93 = .ok (.getfield 24, 3) := by decide +kernel
theorem dX6_scanWeight_96 : decode cX6_scanWeight 96 = .ok (.getfield 44, 3) := by decide +kernel
theorem dX6_scanWeight_99 : decode cX6_scanWeight 99 = .ok (.iload_n 2, 1) := by decide +kernel
theorem dX6_scanWeight_100 : decode cX6_scanWeight 100 = .ok (.invokevirtual 40, 3) := by decide +kernel
theorem dX6_scanWeight_103 : decode cX6_scanWeight 103 = .ok (.iconst 1, 1) := by decide +kernel
theorem dX6_scanWeight_104 : decode cX6_scanWeight 104 = .ok (.ireturn, 1) := by decide +kernel
theorem dX6_scanSign_0 : decode cX6_scanSign 0 = .ok (.aload_n 0, 1) := by decide +kernel
theorem dX6_scanSign_1 : decode cX6_scanSign 1 = .ok (.aload_n 0, 1) := by decide +kernel
theorem dX6_scanSign_2 : decode cX6_scanSign 2 = .ok (.getfield 37, 3) := by decide +kernel
theorem dX6_scanSign_5 : decode cX6_scanSign 5 = .ok (.invokevirtual 54, 3) := by decide +kernel
theorem dX6_scanSign_8 : decode cX6_scanSign 8 = .ok (.iload_n 1, 1) := by decide +kernel
theorem dX6_scanSign_9 : decode cX6_scanSign 9 = .ok (.if_icmp .eq 13, 3) := by decide +kernel
theorem dX6_scanSign_12 : decode cX6_scanSign 12 = .ok (.aload_n 0, 1) := by decide +kernel
theorem dX6_scanSign_13 : decode cX6_scanSign 13 = .ok (.aload_n 0, 1) := by decide +kernel
theorem dX6_scanSign_14 : decode cX6_scanSign 14 = .ok (.getfield 37, 3) := by decide +kernel
theorem dX6_scanSign_17 : decode cX6_scanSign 17 = .ok (.iconst 1, 1) := by decide +kernel
theorem dX6_scanSign_18 : decode cX6_scanSign 18 = .ok (.invokevirtual 62, 3) := by decide +kernel
theorem dX6_scanSign_21 : decode cX6_scanSign 21 = .ok (.ireturn, 1) := by decide +kernel
theorem dX6_scanSign_22 : decode cX6_scanSign 22 = .ok (.aload_n 0, 1) := by decide +kernel
theorem dX6_scanSign_23 : decode cX6_scanSign 23 = .ok (.dup, 1) := by decide +kernel
theorem dX6_scanSign_24 : decode cX6_scanSign 24 = .ok (.getfield 37, 3) := by decide +kernel
theorem dX6_scanSign_27 : decode cX6_scanSign 27 = .ok (.iconst 1, 1) := by decide +kernel
theorem dX6_scanSign_28 : decode cX6_scanSign 28 = .ok (.iadd, 1) := by decide +kernel
theorem dX6_scanSign_29 : decode cX6_scanSign 29 = .ok (.putfield 37, 3) := by decide +kernel
theorem dX6_scanSign_32 : decode cX6_scanSign 32 = .ok (.iconst 1, 1) := by decide +kernel
theorem dX6_scanSign_33 : decode cX6_scanSign 33 = .ok (.ireturn, 1) := by decide +kernel
theorem dX6_fail_0 : decode cX6_fail 0 = .ok (.aload_n 0, 1) := by decide +kernel
theorem dX6_fail_1 : decode cX6_fail 1 = .ok (.iload_n 1, 1) := by decide +kernel
theorem dX6_fail_2 : decode cX6_fail 2 = .ok (.putfield 15, 3) := by decide +kernel
theorem dX6_fail_5 : decode cX6_fail 5 = .ok (.aload_n 0, 1) := by decide +kernel
theorem dX6_fail_6 : decode cX6_fail 6 = .ok (.iload_n 2, 1) := by decide +kernel
theorem dX6_fail_7 : decode cX6_fail 7 = .ok (.putfield 18, 3) := by decide +kernel
theorem dX6_fail_10 : decode cX6_fail 10 = .ok (.iconst 0, 1) := by decide +kernel
theorem dX6_fail_11 : decode cX6_fail 11 = .ok (.ireturn, 1) := by decide +kernel
theorem dX6_characterAt_0 : decode cX6_characterAt 0 = .ok (.iload_n 1, 1) := by decide +kernel
theorem dX6_characterAt_1 : decode cX6_characterAt 1 = .ok (.aload_n 0, 1) := by decide +kernel
theorem dX6_characterAt_2 : decode cX6_characterAt 2 = .ok (.getfield 9, 3) := by decide +kernel
theorem dX6_characterAt_5 : decode cX6_characterAt 5 = .ok (.if_icmp .ge 14, 3) := by decide +kernel
theorem dX6_characterAt_8 : decode cX6_characterAt 8 = .ok (.aload_n 0, 1) := by decide +kernel
theorem dX6_characterAt_9 : decode cX6_characterAt 9 = .ok (.getfield 33, 3) := by decide +kernel
theorem dX6_characterAt_12 : decode cX6_characterAt 12 = .ok (.iload_n 1, 1) := by decide +kernel
theorem dX6_characterAt_13 : decode cX6_characterAt 13 = .ok (.invokevirtual 94, 3) := by decide +kernel
theorem dX6_characterAt_16 : decode cX6_characterAt 16 = .ok (.goto 4, 3) := by decide +kernel
theorem dX6_characterAt_19 : decode cX6_characterAt 19 = .ok (.iconst 0, 1) := by decide +kernel
theorem dX6_characterAt_20 : decode cX6_characterAt 20 = .ok (.ireturn, 1) := by decide +kernel
theorem dX6_isSmallLetter_0 : decode cX6_isSmallLetter 0 = .ok (.iload_n 0, 1) := by decide +kernel
theorem dX6_isSmallLetter_1 : decode cX6_isSmallLetter 1 = .ok (.bipush 97, 2) := by decide +kernel
theorem dX6_isSmallLetter_3 : decode cX6_isSmallLetter 3 = .ok (.bipush 122, 2) := by decide +kernel
theorem dX6_isSmallLetter_5 : decode cX6_isSmallLetter 5 = .ok (.invokestatic 87, 3) := by decide +kernel
theorem dX6_isSmallLetter_8 : decode cX6_isSmallLetter 8 = .ok (.ireturn, 1) := by decide +kernel
theorem dX7_init_0 : decode cX7_init 0 = .ok (.aload_n 0, 1) := by decide +kernel
theorem dX7_init_1 : decode cX7_init 1 = .ok (.invokespecial 3, 3) := by decide +kernel
theorem dX7_init_4 : decode cX7_init 4 = .ok (.aload_n 0, 1) := by decide +kernel
theorem dX7_init_5 : decode cX7_init 5 = .ok (.new 9, 3) := by decide +kernel
theorem dX7_init_8 : decode cX7_init 8 = .ok (.dup, 1) := by decide +kernel
theorem dX7_init_9 : decode cX7_init 9 = .ok (.bipush 16, 2) := by decide +kernel
theorem dX7_init_11 : decode cX7_init 11 = .ok (.invokespecial 11, 3) := by decide +kernel
theorem dX7_init_14 : decode cX7_init 14 = .ok (.putfield 14, 3) := by decide +kernel
theorem dX7_init_17 : decode cX7_init 17 = .ok (.aload_n 0, 1) := by decide +kernel
theorem dX7_init_18 : decode cX7_init 18 = .ok (.new 9, 3) := by decide +kernel
theorem dX7_init_21 : decode cX7_init 21 = .ok (.dup, 1) := by decide +kernel
theorem dX7_init_22 : decode cX7_init 22 = .ok (.bipush 16, 2) := by decide +kernel
theorem dX7_init_24 : decode cX7_init 24 = .ok (.invokespecial 11, 3) := by decide +kernel
theorem dX7_init_27 : decode cX7_init 27 = .ok (.putfield 20, 3) := by decide +kernel
theorem dX7_init_30 : decode cX7_init 30 = .ok (.aload_n 0, 1) := by decide +kernel
theorem dX7_init_31 : decode cX7_init 31 = .ok (.new 9, 3) := by decide +kernel
theorem dX7_init_34 : decode cX7_init 34 = .ok (.dup, 1) := by decide +kernel
theorem dX7_init_35 : decode cX7_init 35 = .ok (.bipush 16, 2) := by decide +kernel
theorem dX7_init_37 : decode cX7_init 37 = .ok (.invokespecial 11, 3) := by decide +kernel
theorem dX7_init_40 : decode cX7_init 40 = .ok (.putfield 23, 3) := by decide +kernel
theorem dX7_init_43 : decode cX7_init 43 = .ok (.aload_n 0, 1) := by decide +kernel
theorem dX7_init_44 : decode cX7_init 44 = .ok (.new 9, 3) := by decide +kernel
theorem dX7_init_47 : decode cX7_init 47 = .ok (.dup, 1) := by decide +kernel
theorem dX7_init_48 : decode cX7_init 48 = .ok (.sipush 128, 3) := by decide +kernel
theorem dX7_init_51 : decode cX7_init 51 = .ok (.invokespecial 11, 3) := by decide +kernel
theorem dX7_init_54 : decode cX7_init 54 = .ok (.putfield 26, 3) := by decide +kernel
theorem dX7_init_57 : decode cX7_init 57 = .ok (.return_, 1) := by decide +kernel
theorem dX7_copyFrom_0 : decode cX7_copyFrom 0 = .ok (.aload_n 0, 1) := by decide +kernel
theorem dX7_copyFrom_1 : decode cX7_copyFrom 1 = .ok (.aload_n 1, 1) := by decide +kernel
theorem dX7_copyFrom_2 : decode cX7_copyFrom 2 = .ok (.getfield 29, 3) := by decide +kernel
theorem dX7_copyFrom_5 : decode cX7_copyFrom 5 = .ok (.putfield 29, 3) := by decide +kernel
theorem dX7_copyFrom_8 : decode cX7_copyFrom 8 = .ok (.aload_n 0, 1) := by decide +kernel
theorem dX7_copyFrom_9 : decode cX7_copyFrom 9 = .ok (.getfield 14, 3) := by decide +kernel
theorem dX7_copyFrom_12 : decode cX7_copyFrom 12 = .ok (.aload_n 1, 1) := by decide +kernel
theorem dX7_copyFrom_13 : decode cX7_copyFrom 13 = .ok (.getfield 14, 3) := by decide +kernel
theorem dX7_copyFrom_16 : decode cX7_copyFrom 16 = .ok (.invokevirtual 33, 3) := by decide +kernel
theorem dX7_copyFrom_19 : decode cX7_copyFrom 19 = .ok (.aload_n 0, 1) := by decide +kernel
theorem dX7_copyFrom_20 : decode cX7_copyFrom 20 = .ok (.getfield 20, 3) := by decide +kernel
theorem dX7_copyFrom_23 : decode cX7_copyFrom 23 = .ok (.aload_n 1, 1) := by decide +kernel
theorem dX7_copyFrom_24 : decode cX7_copyFrom 24 = .ok (.getfield 20, 3) := by decide +kernel
theorem dX7_copyFrom_27 : decode cX7_copyFrom 27 = .ok (.invokevirtual 33, 3) := by decide +kernel
theorem dX7_copyFrom_30 : decode cX7_copyFrom 30 = .ok (.aload_n 0, 1) := by decide +kernel
theorem dX7_copyFrom_31 : decode cX7_copyFrom 31 = .ok (.getfield 23, 3) := by decide +kernel
theorem dX7_copyFrom_34 : decode cX7_copyFrom 34 = .ok (.aload_n 1, 1) := by decide +kernel
theorem dX7_copyFrom_35 : decode cX7_copyFrom 35 = .ok (.getfield 23, 3) := by decide +kernel
theorem dX7_copyFrom_38 : decode cX7_copyFrom 38 = .ok (.invokevirtual 33, 3) := by decide +kernel
theorem dX7_copyFrom_41 : decode cX7_copyFrom 41 = .ok (.aload_n 0, 1) := by decide +kernel
theorem dX7_copyFrom_42 : decode cX7_copyFrom 42 = .ok (.getfield 26, 3) := by decide +kernel
theorem dX7_copyFrom_45 : decode cX7_copyFrom 45 = .ok (.aload_n 1, 1) := by decide +kernel
theorem dX7_copyFrom_46 : decode cX7_copyFrom 46 = .ok (.getfield 26, 3) := by decide +kernel
theorem dX7_copyFrom_49 : decode cX7_copyFrom 49 = .ok (.invokevirtual 33, 3) := by decide +kernel
theorem dX7_copyFrom_52 : decode cX7_copyFrom 52 = .ok (.return_, 1) := by decide +kernel
theorem dX7_has_0 : decode cX7_has 0 = .ok (.iload_n 1, 1) := by decide +kernel
theorem dX7_has_1 : decode cX7_has 1 = .ok (.ifCond .lt 15, 3) := by decide +kernel
theorem dX7_has_4 : decode cX7_has 4 = .ok (.iload_n 1, 1) := by decide +kernel
theorem dX7_has_5 : decode cX7_has 5 = .ok (.aload_n 0, 1) := by decide +kernel
theorem dX7_has_6 : decode cX7_has 6 = .ok (.getfield 29, 3) := by decide +kernel
theorem dX7_has_9 : decode cX7_has 9 = .ok (.if_icmp .ge 7, 3) := by decide +kernel
theorem dX7_has_12 : decode cX7_has 12 = .ok (.iconst 1, 1) := by decide +kernel
theorem dX7_has_13 : decode cX7_has 13 = .ok (.goto 4, 3) := by decide +kernel
theorem dX7_has_16 : decode cX7_has 16 = .ok (.iconst 0, 1) := by decide +kernel
theorem dX7_has_17 : decode cX7_has 17 = .ok (.ireturn, 1) := by decide +kernel
theorem dX7_letterAt_0 : decode cX7_letterAt 0 = .ok (.aload_n 0, 1) := by decide +kernel
theorem dX7_letterAt_1 : decode cX7_letterAt 1 = .ok (.getfield 26, 3) := by decide +kernel
theorem dX7_letterAt_4 : decode cX7_letterAt 4 = .ok (.iload_n 1, 1) := by decide +kernel
theorem dX7_letterAt_5 : decode cX7_letterAt 5 = .ok (.bipush 8, 2) := by decide +kernel
theorem dX7_letterAt_7 : decode cX7_letterAt 7 = .ok (.imul, 1) := by decide +kernel
theorem dX7_letterAt_8 : decode cX7_letterAt 8 = .ok (.iload_n 2, 1) := by decide +kernel
theorem dX7_letterAt_9 : decode cX7_letterAt 9 = .ok (.iadd, 1) := by decide +kernel
theorem dX7_letterAt_10 : decode cX7_letterAt 10 = .ok (.invokevirtual 37, 3) := by decide +kernel
theorem dX7_letterAt_13 : decode cX7_letterAt 13 = .ok (.ireturn, 1) := by decide +kernel
theorem dX7_putLetter_0 : decode cX7_putLetter 0 = .ok (.aload_n 0, 1) := by decide +kernel
theorem dX7_putLetter_1 : decode cX7_putLetter 1 = .ok (.getfield 26, 3) := by decide +kernel
theorem dX7_putLetter_4 : decode cX7_putLetter 4 = .ok (.iload_n 1, 1) := by decide +kernel
theorem dX7_putLetter_5 : decode cX7_putLetter 5 = .ok (.bipush 8, 2) := by decide +kernel
theorem dX7_putLetter_7 : decode cX7_putLetter 7 = .ok (.imul, 1) := by decide +kernel
theorem dX7_putLetter_8 : decode cX7_putLetter 8 = .ok (.iload_n 2, 1) := by decide +kernel
theorem dX7_putLetter_9 : decode cX7_putLetter 9 = .ok (.iadd, 1) := by decide +kernel
theorem dX7_putLetter_10 : decode cX7_putLetter 10 = .ok (.iload_n 3, 1) := by decide +kernel
theorem dX7_putLetter_11 : decode cX7_putLetter 11 = .ok (.invokevirtual 41, 3) := by decide +kernel
theorem dX7_putLetter_14 : decode cX7_putLetter 14 = .ok (.return_, 1) := by decide +kernel
theorem dX7_letterSet_0 : decode cX7_letterSet 0 = .ok (.iconst 0, 1) := by decide +kernel
theorem dX7_letterSet_1 : decode cX7_letterSet 1 = .ok (.istore_n 2, 1) := by decide +kernel
theorem dX7_letterSet_2 : decode cX7_letterSet 2 = .ok (.aload_n 0, 1) := by decide +kernel
theorem dX7_letterSet_3 : decode cX7_letterSet 3 = .ok (.getfield 14, 3) := by decide +kernel
theorem dX7_letterSet_6 : decode cX7_letterSet 6 = .ok (.iload_n 1, 1) := by decide +kernel
theorem dX7_letterSet_7 : decode cX7_letterSet 7 = .ok (.invokevirtual 37, 3) := by decide +kernel
theorem dX7_letterSet_10 : decode cX7_letterSet 10 = .ok (.istore_n 3, 1) := by decide +kernel
theorem dX7_letterSet_11 : decode cX7_letterSet 11 = .ok (.iconst 0, 1) := by decide +kernel
theorem dX7_letterSet_12 : decode cX7_letterSet 12 = .ok (.istore 4, 2) := by decide +kernel
theorem dX7_letterSet_14 : decode cX7_letterSet 14 = .ok (.iload 4, 2) := by decide +kernel
theorem dX7_letterSet_16 : decode cX7_letterSet 16 = .ok (.iload_n 3, 1) := by decide +kernel
theorem dX7_letterSet_17 : decode cX7_letterSet 17 = .ok (.if_icmp .ge 21, 3) := by decide +kernel
theorem dX7_letterSet_20 : decode cX7_letterSet 20 = .ok (.iload_n 2, 1) := by decide +kernel
theorem dX7_letterSet_21 : decode cX7_letterSet 21 = .ok (.iconst 1, 1) := by decide +kernel
theorem dX7_letterSet_22 : decode cX7_letterSet 22 = .ok (.aload_n 0, 1) := by decide +kernel
theorem dX7_letterSet_23 : decode cX7_letterSet 23 = .ok (.iload_n 1, 1) := by decide +kernel
theorem dX7_letterSet_24 : decode cX7_letterSet 24 = .ok (.iload 4, 2) := by decide +kernel
theorem dX7_letterSet_26 : decode cX7_letterSet 26 = .ok (.invokevirtual 45, 3) := by decide +kernel
theorem dX7_letterSet_29 : decode cX7_letterSet 29 = .ok (.ishl, 1) := by decide +kernel
theorem dX7_letterSet_30 : decode cX7_letterSet 30 = .ok (.ior, 1) := by decide +kernel
theorem dX7_letterSet_31 : decode cX7_letterSet 31 = .ok (.istore_n 2, 1) := by decide +kernel
theorem dX7_letterSet_32 : decode cX7_letterSet 32 = .ok (.iinc 4 1, 3) := by decide +kernel
theorem dX7_letterSet_35 : decode cX7_letterSet 35 = .ok (.goto (-21), 3) := by decide +kernel
theorem dX7_letterSet_38 : decode cX7_letterSet 38 = .ok (.iload_n 2, 1) := by decide +kernel
theorem dX7_letterSet_39 : decode cX7_letterSet 39 = .ok (.ireturn, 1) := by decide +kernel
theorem dX7_placesOf_0 : decode cX7_placesOf 0 = .ok (.iconst 0, 1) := by decide +kernel
theorem dX7_placesOf_1 : decode cX7_placesOf 1 = .ok (.istore_n 3, 1) := by decide +kernel
theorem dX7_placesOf_2 : decode cX7_placesOf 2 = .ok (.aload_n 0, 1) := by decide +kernel
theorem dX7_placesOf_3 : decode cX7_placesOf 3 = .ok (.getfield 14, 3) := by decide +kernel
theorem dX7_placesOf_6 : decode cX7_placesOf 6 = .ok (.iload_n 1, 1) := by decide +kernel
theorem dX7_placesOf_7 : decode cX7_placesOf 7 = .ok (.invokevirtual 37, 3) := by decide +kernel
theorem dX7_placesOf_10 : decode cX7_placesOf 10 = .ok (.istore 4, 2) := by decide +kernel
theorem dX7_placesOf_12 : decode cX7_placesOf 12 = .ok (.iconst 0, 1) := by decide +kernel
theorem dX7_placesOf_13 : decode cX7_placesOf 13 = .ok (.istore 5, 2) := by decide +kernel
theorem dX7_placesOf_15 : decode cX7_placesOf 15 = .ok (.iload 5, 2) := by decide +kernel
theorem dX7_placesOf_17 : decode cX7_placesOf 17 = .ok (.iload 4, 2) := by decide +kernel
theorem dX7_placesOf_19 : decode cX7_placesOf 19 = .ok (.if_icmp .ge 27, 3) := by decide +kernel
theorem dX7_placesOf_22 : decode cX7_placesOf 22 = .ok (.aload_n 0, 1) := by decide +kernel
theorem dX7_placesOf_23 : decode cX7_placesOf 23 = .ok (.iload_n 1, 1) := by decide +kernel
theorem dX7_placesOf_24 : decode cX7_placesOf 24 = .ok (.iload 5, 2) := by decide +kernel
theorem dX7_placesOf_26 : decode cX7_placesOf 26 = .ok (.invokevirtual 45, 3) := by decide +kernel
theorem dX7_placesOf_29 : decode cX7_placesOf 29 = .ok (.iload_n 2, 1) := by decide +kernel
theorem dX7_placesOf_30 : decode cX7_placesOf 30 = .ok (.if_icmp .ne 10, 3) := by decide +kernel
theorem dX7_placesOf_33 : decode cX7_placesOf 33 = .ok (.iload_n 3, 1) := by decide +kernel
theorem dX7_placesOf_34 : decode cX7_placesOf 34 = .ok (.iconst 1, 1) := by decide +kernel
theorem dX7_placesOf_35 : decode cX7_placesOf 35 = .ok (.iload 5, 2) := by decide +kernel
theorem dX7_placesOf_37 : decode cX7_placesOf 37 = .ok (.ishl, 1) := by decide +kernel
theorem dX7_placesOf_38 : decode cX7_placesOf 38 = .ok (.ior, 1) := by decide +kernel
theorem dX7_placesOf_39 : decode cX7_placesOf 39 = .ok (.istore_n 3, 1) := by decide +kernel
theorem dX7_placesOf_40 : decode cX7_placesOf 40 = .ok (.iinc 5 1, 3) := by decide +kernel
theorem dX7_placesOf_43 : decode cX7_placesOf 43 = .ok (.goto (-28), 3) := by decide +kernel
theorem dX7_placesOf_46 : decode cX7_placesOf 46 = .ok (.iload_n 3, 1) := by decide +kernel
theorem dX7_placesOf_47 : decode cX7_placesOf 47 = .ok (.ireturn, 1) := by decide +kernel
theorem dX7_areSame_0 : decode cX7_areSame 0 = .ok (.aload_n 0, 1) := by decide +kernel
theorem dX7_areSame_1 : decode cX7_areSame 1 = .ok (.getfield 14, 3) := by decide +kernel
theorem dX7_areSame_4 : decode cX7_areSame 4 = .ok (.iload_n 1, 1) := by decide +kernel
theorem dX7_areSame_5 : decode cX7_areSame 5 = .ok (.invokevirtual 37, 3) := by decide +kernel
theorem dX7_areSame_8 : decode cX7_areSame 8 = .ok (.istore_n 3, 1) := by decide +kernel
theorem dX7_areSame_9 : decode cX7_areSame 9 = .ok (.aload_n 0, 1) := by decide +kernel
theorem dX7_areSame_10 : decode cX7_areSame 10 = .ok (.getfield 14, 3) := by decide +kernel
theorem dX7_areSame_13 : decode cX7_areSame 13 = .ok (.iload_n 2, 1) := by decide +kernel
theorem dX7_areSame_14 : decode cX7_areSame 14 = .ok (.invokevirtual 37, 3) := by decide +kernel
theorem dX7_areSame_17 : decode cX7_areSame 17 = .ok (.iload_n 3, 1) := by decide +kernel
theorem dX7_areSame_18 : decode cX7_areSame 18 = .ok (.if_icmp .eq 5, 3) := by decide +kernel
theorem dX7_areSame_21 : decode cX7_areSame 21 = .ok (.iconst 0, 1) := by decide +kernel
theorem dX7_areSame_22 : decode cX7_areSame 22 = .ok (.ireturn, 1) := by decide +kernel
theorem dX7_areSame_23 : decode cX7_areSame 23 = .ok (.iconst 0, 1) := by decide +kernel
theorem dX7_areSame_24 : decode cX7_areSame 24 = .ok (.istore 4, 2) := by decide +kernel
theorem dX7_areSame_26 : decode cX7_areSame 26 = .ok (.iload 4, 2) := by decide +kernel
theorem dX7_areSame_28 : decode cX7_areSame 28 = .ok (.iload_n 3, 1) := by decide +kernel
theorem dX7_areSame_29 : decode cX7_areSame 29 = .ok (.if_icmp .ge 28, 3) := by decide +kernel
theorem dX7_areSame_32 : decode cX7_areSame 32 = .ok (.aload_n 0, 1) := by decide +kernel
theorem dX7_areSame_33 : decode cX7_areSame 33 = .ok (.iload_n 1, 1) := by decide +kernel
theorem dX7_areSame_34 : decode cX7_areSame 34 = .ok (.iload 4, 2) := by decide +kernel
theorem dX7_areSame_36 : decode cX7_areSame 36 = .ok (.invokevirtual 45, 3) := by decide +kernel
theorem dX7_areSame_39 : decode cX7_areSame 39 = .ok (.aload_n 0, 1) := by decide +kernel
theorem dX7_areSame_40 : decode cX7_areSame 40 = .ok (.iload_n 2, 1) := by decide +kernel
theorem dX7_areSame_41 : decode cX7_areSame 41 = .ok (.iload 4, 2) := by decide +kernel
theorem dX7_areSame_43 : decode cX7_areSame 43 = .ok (.invokevirtual 45, 3) := by decide +kernel
theorem dX7_areSame_46 : decode cX7_areSame 46 = .ok (.if_icmp .eq 5, 3) := by decide +kernel
theorem dX7_areSame_49 : decode cX7_areSame 49 = .ok (.iconst 0, 1) := by decide +kernel
theorem dX7_areSame_50 : decode cX7_areSame 50 = .ok (.ireturn, 1) := by decide +kernel
theorem dX7_areSame_51 : decode cX7_areSame 51 = .ok (.iinc 4 1, 3) := by decide +kernel
theorem dX7_areSame_54 : decode cX7_areSame 54 = .ok (.goto (-28), 3) := by decide +kernel
theorem dX7_areSame_57 : decode cX7_areSame 57 = .ok (.iconst 1, 1) := by decide +kernel
theorem dX7_areSame_58 : decode cX7_areSame 58 = .ok (.ireturn, 1) := by decide +kernel
theorem dX7_weightOf_0 : decode cX7_weightOf 0 = .ok (.iconst 0, 1) := by decide +kernel
theorem dX7_weightOf_1 : decode cX7_weightOf 1 = .ok (.istore_n 2, 1) := by decide +kernel
theorem dX7_weightOf_2 : decode cX7_weightOf 2 = .ok (.iconst 0, 1) := by decide +kernel
theorem dX7_weightOf_3 : decode cX7_weightOf 3 = .ok (.istore_n 3, 1) := by decide +kernel
theorem dX7_weightOf_4 : decode cX7_weightOf 4 = .ok (.iload_n 3, 1) := by decide +kernel
theorem dX7_weightOf_5 : decode cX7_weightOf 5 = .ok (.aload_n 0, 1) := by decide +kernel
theorem dX7_weightOf_6 : decode cX7_weightOf 6 = .ok (.getfield 29, 3) := by decide +kernel
theorem dX7_weightOf_9 : decode cX7_weightOf 9 = .ok (.if_icmp .ge 28, 3) := by decide +kernel
theorem dX7_weightOf_12 : decode cX7_weightOf 12 = .ok (.iload_n 1, 1) := by decide +kernel
theorem dX7_weightOf_13 : decode cX7_weightOf 13 = .ok (.iload_n 3, 1) := by decide +kernel
theorem dX7_weightOf_14 : decode cX7_weightOf 14 = .ok (.invokestatic 49, 3) := by decide +kernel
theorem dX7_weightOf_17 : decode cX7_weightOf 17 = .ok (.ifCond .eq 14, 3) := by decide +kernel
theorem dX7_weightOf_20 : decode cX7_weightOf 20 = .ok (.iload_n 2, 1) := by decide +kernel
theorem dX7_weightOf_21 : decode cX7_weightOf 21 = .ok (.aload_n 0, 1) := by decide +kernel
theorem dX7_weightOf_22 : decode cX7_weightOf 22 = .ok (.getfield 20, 3) := by decide +kernel
theorem dX7_weightOf_25 : decode cX7_weightOf 25 = .ok (.iload_n 3, 1) := by decide +kernel
theorem dX7_weightOf_26 : decode cX7_weightOf 26 = .ok (.invokevirtual 37, 3) := by decide +kernel
theorem dX7_weightOf_29 : decode cX7_weightOf 29 = .ok (.iadd, 1) := by decide +kernel
theorem dX7_weightOf_30 : decode cX7_weightOf 30 = .ok (.istore_n 2, 1) := by decide +kernel
theorem dX7_weightOf_31 : decode cX7_weightOf 31 = .ok (.iinc 3 1, 3) := by decide +kernel
theorem dX7_weightOf_34 : decode cX7_weightOf 34 = .ok (.goto (-30), 3) := by decide +kernel
theorem dX7_weightOf_37 : decode cX7_weightOf 37 = .ok (.iload_n 2, 1) := by decide +kernel
theorem dX7_weightOf_38 : decode cX7_weightOf 38 = .ok (.ireturn, 1) := by decide +kernel
theorem dX7_weightSum_0 : decode cX7_weightSum 0 = .ok (.aload_n 0, 1) := by decide +kernel
theorem dX7_weightSum_1 : decode cX7_weightSum 1 = .ok (.iconst (-1), 1) := by decide +kernel
theorem dX7_weightSum_2 : decode cX7_weightSum 2 = .ok (.invokevirtual 53, 3) := by decide +kernel
theorem dX7_weightSum_5 : decode cX7_weightSum 5 = .ok (.ireturn, 1) := by decide +kernel
theorem dX7_drawnBy_0 : decode cX7_drawnBy 0 = .ok (.aload_n 0, 1) := by decide +kernel
theorem dX7_drawnBy_1 : decode cX7_drawnBy 1 = .ok (.invokevirtual 56, 3) := by decide +kernel
theorem dX7_drawnBy_4 : decode cX7_drawnBy 4 = .ok (.istore_n 2, 1) := by decide +kernel
theorem dX7_drawnBy_5 : decode cX7_drawnBy 5 = .ok (.iload_n 2, 1) := by decide +kernel
theorem dX7_drawnBy_6 : decode cX7_drawnBy 6 = .ok (.ifCond .le 12, 3) := by decide +kernel
theorem dX7_drawnBy_9 : decode cX7_drawnBy 9 = .ok (.iload_n 1, 1) := by decide +kernel
theorem dX7_drawnBy_10 : decode cX7_drawnBy 10 = .ok (.ldc 60, 2) := by decide +kernel
theorem dX7_drawnBy_12 : decode cX7_drawnBy 12 = .ok (.idiv, 1) := by decide +kernel
theorem dX7_drawnBy_13 : decode cX7_drawnBy 13 = .ok (.iload_n 2, 1) := by decide +kernel
theorem dX7_drawnBy_14 : decode cX7_drawnBy 14 = .ok (.irem, 1) := by decide +kernel
theorem dX7_drawnBy_15 : decode cX7_drawnBy 15 = .ok (.goto 4, 3) := by decide +kernel
theorem dX7_drawnBy_18 : decode cX7_drawnBy 18 = .ok (.iconst 0, 1) := by decide +kernel
theorem dX7_drawnBy_19 : decode cX7_drawnBy 19 = .ok (.istore_n 3, 1) := by decide +kernel
theorem dX7_drawnBy_20 : decode cX7_drawnBy 20 = .ok (.iconst 0, 1) := by decide +kernel
theorem dX7_drawnBy_21 : decode cX7_drawnBy 21 = .ok (.istore 4, 2) := by decide +kernel
theorem dX7_drawnBy_23 : decode cX7_drawnBy 23 = .ok (.iconst 0, 1) := by decide +kernel
theorem dX7_drawnBy_24 : decode cX7_drawnBy 24 = .ok (.istore 5, 2) := by decide +kernel
theorem dX7_drawnBy_26 : decode cX7_drawnBy 26 = .ok (.iload 5, 2) := by decide +kernel
theorem dX7_drawnBy_28 : decode cX7_drawnBy 28 = .ok (.aload_n 0, 1) := by decide +kernel
theorem dX7_drawnBy_29 : decode cX7_drawnBy 29 = .ok (.getfield 29, 3) := by decide +kernel
theorem dX7_drawnBy_32 : decode cX7_drawnBy 32 = .ok (.if_icmp .ge 32, 3) := by decide +kernel
theorem dX7_drawnBy_35 : decode cX7_drawnBy 35 = .ok (.iload 4, 2) := by decide +kernel
theorem dX7_drawnBy_37 : decode cX7_drawnBy 37 = .ok (.aload_n 0, 1) := by decide +kernel
theorem dX7_drawnBy_38 : decode cX7_drawnBy 38 = .ok (.getfield 20, 3) := by decide +kernel
theorem dX7_drawnBy_41 : decode cX7_drawnBy 41 = .ok (.iload 5, 2) := by decide +kernel
theorem dX7_drawnBy_43 : decode cX7_drawnBy 43 = .ok (.invokevirtual 37, 3) := by decide +kernel
theorem dX7_drawnBy_46 : decode cX7_drawnBy 46 = .ok (.iadd, 1) := by decide +kernel
theorem dX7_drawnBy_47 : decode cX7_drawnBy 47 = .ok (.istore 4, 2) := by decide +kernel
theorem dX7_drawnBy_49 : decode cX7_drawnBy 49 = .ok (.iload 4, 2) := by decide +kernel
theorem dX7_drawnBy_51 : decode cX7_drawnBy 51 = .ok (.iload_n 3, 1) := by decide +kernel
theorem dX7_drawnBy_52 : decode cX7_drawnBy 52 = .ok (.if_icmp .le 6, 3) := by decide +kernel
theorem dX7_drawnBy_55 : decode cX7_drawnBy 55 = .ok (.iload 5, 2) := by decide +kernel
theorem dX7_drawnBy_57 : decode cX7_drawnBy 57 = .ok (.ireturn, 1) := by decide +kernel
theorem dX7_drawnBy_58 : decode cX7_drawnBy 58 = .ok (.iinc 5 1, 3) := by decide +kernel
theorem dX7_drawnBy_61 : decode cX7_drawnBy 61 = .ok (.goto (-35), 3) := by decide +kernel
theorem dX7_drawnBy_64 : decode cX7_drawnBy 64 = .ok (.iconst 0, 1) := by decide +kernel
theorem dX7_drawnBy_65 : decode cX7_drawnBy 65 = .ok (.ireturn, 1) := by decide +kernel
theorem dX7_fitting_0 : decode cX7_fitting 0 = .ok (.iconst 0, 1) := by decide +kernel
theorem dX7_fitting_1 : decode cX7_fitting 1 = .ok (.istore_n 3, 1) := by decide +kernel
theorem dX7_fitting_2 : decode cX7_fitting 2 = .ok (.iconst 0, 1) := by decide +kernel
theorem dX7_fitting_3 : decode cX7_fitting 3 = .ok (.istore 4, 2) := by decide +kernel
theorem dX7_fitting_5 : decode cX7_fitting 5 = .ok (.iload 4, 2) := by decide +kernel
theorem dX7_fitting_7 : decode cX7_fitting 7 = .ok (.aload_n 0, 1) := by decide +kernel
theorem dX7_fitting_8 : decode cX7_fitting 8 = .ok (.getfield 29, 3) := by decide +kernel
theorem dX7_fitting_11 : decode cX7_fitting 11 = .ok (.if_icmp .ge 27, 3) := by decide +kernel
theorem dX7_fitting_14 : decode cX7_fitting 14 = .ok (.aload_n 0, 1) := by decide +kernel
theorem dX7_fitting_15 : decode cX7_fitting 15 = .ok (.iload 4, 2) := by decide +kernel
theorem dX7_fitting_17 : decode cX7_fitting 17 = .ok (.iload_n 1, 1) := by decide +kernel
theorem dX7_fitting_18 : decode cX7_fitting 18 = .ok (.iload_n 2, 1) := by decide +kernel
theorem dX7_fitting_19 : decode cX7_fitting 19 = .ok (.invokevirtual 61, 3) := by decide +kernel
theorem dX7_fitting_22 : decode cX7_fitting 22 = .ok (.ifCond .eq 10, 3) := by decide +kernel
theorem dX7_fitting_25 : decode cX7_fitting 25 = .ok (.iload_n 3, 1) := by decide +kernel
theorem dX7_fitting_26 : decode cX7_fitting 26 = .ok (.iconst 1, 1) := by decide +kernel
theorem dX7_fitting_27 : decode cX7_fitting 27 = .ok (.iload 4, 2) := by decide +kernel
theorem dX7_fitting_29 : decode cX7_fitting 29 = .ok (.ishl, 1) := by decide +kernel
theorem dX7_fitting_30 : decode cX7_fitting 30 = .ok (.ior, 1) := by decide +kernel
theorem dX7_fitting_31 : decode cX7_fitting 31 = .ok (.istore_n 3, 1) := by decide +kernel
theorem dX7_fitting_32 : decode cX7_fitting 32 = .ok (.iinc 4 1, 3) := by decide +kernel
theorem dX7_fitting_35 : decode cX7_fitting 35 = .ok (.goto (-30), 3) := by decide +kernel
theorem dX7_fitting_38 : decode cX7_fitting 38 = .ok (.iload_n 3, 1) := by decide +kernel
theorem dX7_fitting_39 : decode cX7_fitting 39 = .ok (.ireturn, 1) := by decide +kernel
theorem dX7_looksLike_0 : decode cX7_looksLike 0 = .ok (.aload_n 0, 1) := by decide +kernel
theorem dX7_looksLike_1 : decode cX7_looksLike 1 = .ok (.getfield 14, 3) := by decide +kernel
theorem dX7_looksLike_4 : decode cX7_looksLike 4 = .ok (.iload_n 2, 1) := by decide +kernel
theorem dX7_looksLike_5 : decode cX7_looksLike 5 = .ok (.invokevirtual 37, 3) := by decide +kernel
theorem dX7_looksLike_8 : decode cX7_looksLike 8 = .ok (.istore 4, 2) := by decide +kernel
theorem dX7_looksLike_10 : decode cX7_looksLike 10 = .ok (.aload_n 0, 1) := by decide +kernel
theorem dX7_looksLike_11 : decode cX7_looksLike 11 = .ok (.getfield 14, 3) := by decide +kernel
theorem dX7_looksLike_14 : decode cX7_looksLike 14 = .ok (.iload_n 1, 1) := by decide +kernel
theorem dX7_looksLike_15 : decode cX7_looksLike 15 = .ok (.invokevirtual 37, 3) := by decide +kernel
theorem dX7_looksLike_18 : decode cX7_looksLike 18 = .ok (.iload 4, 2) := by decide +kernel
theorem dX7_looksLike_20 : decode cX7_looksLike 20 = .ok (.if_icmp .eq 5, 3) := by decide +kernel
theorem dX7_looksLike_23 : decode cX7_looksLike 23 = .ok (.iconst 0, 1) := by decide +kernel
theorem dX7_looksLike_24 : decode cX7_looksLike 24 = .ok (.ireturn, 1) := by decide +kernel
theorem dX7_looksLike_25 : decode cX7_looksLike 25 = .ok (.iconst 0, 1) := by decide +kernel
theorem dX7_looksLike_26 : decode cX7_looksLike 26 = .ok (.istore 5, 2) := by decide +kernel
theorem dX7_looksLike_28 : decode cX7_looksLike 28 = .ok (.iload 5, 2) := by decide +kernel
theorem dX7_looksLike_30 : decode cX7_looksLike 30 = .ok (.iload 4, 2) := by decide +kernel
theorem dX7_looksLike_32 : decode cX7_looksLike 32 = .ok (.if_icmp .ge 74, 3) := by decide +kernel
theorem dX7_looksLike_35 : decode cX7_looksLike 35 = .ok (.aload_n 0, 1) := by decide +kernel
theorem dX7_looksLike_36 : decode cX7_looksLike 36 = .ok (.iload_n 2, 1) := by decide +kernel
theorem dX7_looksLike_37 : decode cX7_looksLike 37 = .ok (.iload 5, 2) := by decide +kernel
theorem dX7_looksLike_39 : decode cX7_looksLike 39 = .ok (.invokevirtual 45, 3) := by decide +kernel
theorem dX7_looksLike_42 : decode cX7_looksLike 42 = .ok (.istore 6, 2) := by decide +kernel
theorem dX7_looksLike_44 : decode cX7_looksLike 44 = .ok (.aload_n 0, 1) := by decide +kernel
theorem dX7_looksLike_45 : decode cX7_looksLike 45 = .ok (.iload_n 1, 1) := by decide +kernel
theorem dX7_looksLike_46 : decode cX7_looksLike 46 = .ok (.iload 5, 2) := by decide +kernel
theorem dX7_looksLike_48 : decode cX7_looksLike 48 = .ok (.invokevirtual 45, 3) := by decide +kernel
theorem dX7_looksLike_51 : decode cX7_looksLike 51 = .ok (.istore 7, 2) := by decide +kernel
theorem dX7_looksLike_53 : decode cX7_looksLike 53 = .ok (.iload_n 3, 1) := by decide +kernel
theorem dX7_looksLike_54 : decode cX7_looksLike 54 = .ok (.iload 6, 2) := by decide +kernel
theorem dX7_looksLike_56 : decode cX7_looksLike 56 = .ok (.invokestatic 49, 3) := by decide +kernel
theorem dX7_looksLike_59 : decode cX7_looksLike 59 = .ok (.ifCond .eq 18, 3) := by decide +kernel
theorem dX7_looksLike_62 : decode cX7_looksLike 62 = .ok (.iload 7, 2) := by decide +kernel
theorem dX7_looksLike_64 : decode cX7_looksLike 64 = .ok (.iload 6, 2) := by decide +kernel
theorem dX7_looksLike_66 : decode cX7_looksLike 66 = .ok (.if_icmp .ne 7, 3) := by decide +kernel
theorem dX7_looksLike_69 : decode cX7_looksLike 69 = .ok (.iconst 1, 1) := by decide +kernel
theorem dX7_looksLike_70 : decode cX7_looksLike 70 = .ok (.goto 21, 3) := by decide +kernel
theorem dX7_looksLike_73 : decode cX7_looksLike 73 = .ok (.iconst 0, 1) := by decide +kernel
theorem dX7_looksLike_74 : decode cX7_looksLike 74 = .ok (.goto 17, 3) := by decide +kernel
theorem dX7_looksLike_77 : decode cX7_looksLike 77 = .ok (.iload_n 3, 1) := by decide +kernel
theorem dX7_looksLike_78 : decode cX7_looksLike 78 = .ok (.iload 7, 2) := by decide +kernel
theorem dX7_looksLike_80 : decode cX7_looksLike 80 = .ok (.invokestatic 49, 3) := by decide +kernel
theorem dX7_looksLike_83 : decode cX7_looksLike 83 = .ok (.ifCond .ne 7, 3) := by decide +kernel
theorem dX7_looksLike_86 : decode cX7_looksLike 86 = .ok (.iconst 1, 1) := by decide +kernel
theorem dX7_looksLike_87 : decode cX7_looksLike 87 = .ok (.goto 4, 3) := by decide +kernel
theorem dX7_looksLike_90 : decode cX7_looksLike 90 = .ok (.iconst 0, 1) := by decide +kernel
theorem dX7_looksLike_91 : decode cX7_looksLike 91 = .ok (.istore 8, 2) := by decide +kernel
theorem dX7_looksLike_93 : decode cX7_looksLike 93 = .ok (.iload 8, 2) := by decide +kernel
theorem dX7_looksLike_95 : decode cX7_looksLike 95 = .ok (.ifCond .ne 5, 3) := by decide +kernel
theorem dX7_looksLike_98 : decode cX7_looksLike 98 = .ok (.iconst 0, 1) := by decide +kernel
theorem dX7_looksLike_99 : decode cX7_looksLike 99 = .ok (.ireturn, 1) := by decide +kernel
theorem dX7_looksLike_100 : decode cX7_looksLike 100 = .ok (.iinc 5 1, 3) := by decide +kernel
theorem dX7_looksLike_103 : decode cX7_looksLike 103 = .ok (.goto (-75), 3) := by decide +kernel
theorem dX7_looksLike_106 : decode cX7_looksLike 106 = .ok (.iconst 1, 1) := by decide +kernel
theorem dX7_looksLike_107 : decode cX7_looksLike 107 = .ok (.ireturn, 1) := by decide +kernel
theorem dX7_weightHaving_0 : decode cX7_weightHaving 0 = .ok (.iconst 0, 1) := by decide +kernel
theorem dX7_weightHaving_1 : decode cX7_weightHaving 1 = .ok (.istore_n 3, 1) := by decide +kernel
theorem dX7_weightHaving_2 : decode cX7_weightHaving 2 = .ok (.iconst 0, 1) := by decide +kernel
theorem dX7_weightHaving_3 : decode cX7_weightHaving 3 = .ok (.istore 4, 2) := by decide +kernel
theorem dX7_weightHaving_5 : decode cX7_weightHaving 5 = .ok (.iload 4, 2) := by decide +kernel
theorem dX7_weightHaving_7 : decode cX7_weightHaving 7 = .ok (.aload_n 0, 1) := by decide +kernel
theorem dX7_weightHaving_8 : decode cX7_weightHaving 8 = .ok (.getfield 29, 3) := by decide +kernel
theorem dX7_weightHaving_11 : decode cX7_weightHaving 11 = .ok (.if_icmp .ge 40, 3) := by decide +kernel
theorem dX7_weightHaving_14 : decode cX7_weightHaving 14 = .ok (.iload_n 1, 1) := by decide +kernel
theorem dX7_weightHaving_15 : decode cX7_weightHaving 15 = .ok (.iload 4, 2) := by decide +kernel
theorem dX7_weightHaving_17 : decode cX7_weightHaving 17 = .ok (.invokestatic 49, 3) := by decide +kernel
theorem dX7_weightHaving_20 : decode cX7_weightHaving 20 = .ok (.ifCond .eq 25, 3) := by decide +kernel
theorem dX7_weightHaving_23 : decode cX7_weightHaving 23 = .ok (.aload_n 0, 1) := by decide +kernel
theorem dX7_weightHaving_24 : decode cX7_weightHaving 24 = .ok (.iload 4, 2) := by decide +kernel
theorem dX7_weightHaving_26 : decode cX7_weightHaving 26 = .ok (.iload_n 2, 1) := by decide +kernel
theorem dX7_weightHaving_27 : decode cX7_weightHaving 27 = .ok (.invokevirtual 65, 3) := by decide +kernel
theorem dX7_weightHaving_30 : decode cX7_weightHaving 30 = .ok (.ifCond .eq 15, 3) := by decide +kernel
theorem dX7_weightHaving_33 : decode cX7_weightHaving 33 = .ok (.iload_n 3, 1) := by decide +kernel
theorem dX7_weightHaving_34 : decode cX7_weightHaving 34 = .ok (.aload_n 0, 1) := by decide +kernel
theorem dX7_weightHaving_35 : decode cX7_weightHaving 35 = .ok (.getfield 20, 3) := by decide +kernel
theorem dX7_weightHaving_38 : decode cX7_weightHaving 38 = .ok (.iload 4, 2) := by decide +kernel
theorem dX7_weightHaving_40 : decode cX7_weightHaving 40 = .ok (.invokevirtual 37, 3) := by decide +kernel
theorem dX7_weightHaving_43 : decode cX7_weightHaving 43 = .ok (.iadd, 1) := by decide +kernel
theorem dX7_weightHaving_44 : decode cX7_weightHaving 44 = .ok (.istore_n 3, 1) := by decide +kernel
theorem dX7_weightHaving_45 : decode cX7_weightHaving 45 = .ok (.iinc 4 1, 3) := by decide +kernel
theorem dX7_weightHaving_48 : decode cX7_weightHaving 48 = .ok (.goto (-43), 3) := by decide +kernel
theorem dX7_weightHaving_51 : decode cX7_weightHaving 51 = .ok (.iload_n 3, 1) := by decide +kernel
theorem dX7_weightHaving_52 : decode cX7_weightHaving 52 = .ok (.ireturn, 1) := by decide +kernel
theorem dX7_largestGroup_0 : decode cX7_largestGroup 0 = .ok (.iconst 0, 1) := by decide +kernel
theorem dX7_largestGroup_1 : decode cX7_largestGroup 1 = .ok (.istore_n 3, 1) := by decide +kernel
theorem dX7_largestGroup_2 : decode cX7_largestGroup 2 = .ok (.iconst 0, 1) := by decide +kernel
theorem dX7_largestGroup_3 : decode cX7_largestGroup 3 = .ok (.istore 4, 2) := by decide +kernel
theorem dX7_largestGroup_5 : decode cX7_largestGroup 5 = .ok (.iload 4, 2) := by decide +kernel
theorem dX7_largestGroup_7 : decode cX7_largestGroup 7 = .ok (.aload_n 0, 1) := by decide +kernel
theorem dX7_largestGroup_8 : decode cX7_largestGroup 8 = .ok (.getfield 29, 3) := by decide +kernel
theorem dX7_largestGroup_11 : decode cX7_largestGroup 11 = .ok (.if_icmp .ge 31, 3) := by decide +kernel
theorem dX7_largestGroup_14 : decode cX7_largestGroup 14 = .ok (.iload_n 1, 1) := by decide +kernel
theorem dX7_largestGroup_15 : decode cX7_largestGroup 15 = .ok (.iload 4, 2) := by decide +kernel
theorem dX7_largestGroup_17 : decode cX7_largestGroup 17 = .ok (.invokestatic 49, 3) := by decide +kernel
theorem dX7_largestGroup_20 : decode cX7_largestGroup 20 = .ok (.ifCond .eq 16, 3) := by decide +kernel
theorem dX7_largestGroup_23 : decode cX7_largestGroup 23 = .ok (.iload_n 3, 1) := by decide +kernel
theorem dX7_largestGroup_24 : decode cX7_largestGroup 24 = .ok (.aload_n 0, 1) := by decide +kernel
theorem dX7_largestGroup_25 : decode cX7_largestGroup 25 = .ok (.iload_n 1, 1) := by decide +kernel
theorem dX7_largestGroup_26 : decode cX7_largestGroup 26 = .ok (.iload_n 2, 1) := by decide +kernel
theorem dX7_largestGroup_27 : decode cX7_largestGroup 27 = .ok (.iload 4, 2) := by decide +kernel
theorem dX7_largestGroup_29 : decode cX7_largestGroup 29 = .ok (.invokevirtual 68, 3) := by decide +kernel
theorem dX7_largestGroup_32 : decode cX7_largestGroup 32 = .ok (.invokestatic 72, 3) := by decide +kernel
theorem dX7_largestGroup_35 : decode cX7_largestGroup 35 = .ok (.istore_n 3, 1) := by decide +kernel
theorem dX7_largestGroup_36 : decode cX7_largestGroup 36 = .ok (.iinc 4 1, 3) := by decide +kernel
theorem dX7_largestGroup_39 : decode cX7_largestGroup 39 = .ok (.goto (-34), 3) := by decide +kernel
theorem dX7_largestGroup_42 : decode cX7_largestGroup 42 = .ok (.iload_n 3, 1) := by decide +kernel
theorem dX7_largestGroup_43 : decode cX7_largestGroup 43 = .ok (.ireturn, 1) := by decide +kernel
theorem dX7_groupOf_0 : decode cX7_groupOf 0 = .ok (.aload_n 0, 1) := by decide +kernel
theorem dX7_groupOf_1 : decode cX7_groupOf 1 = .ok (.iload_n 3, 1) := by decide +kernel
theorem dX7_groupOf_2 : decode cX7_groupOf 2 = .ok (.iload_n 2, 1) := by decide +kernel
theorem dX7_groupOf_3 : decode cX7_groupOf 3 = .ok (.invokevirtual 65, 3) := by decide +kernel
theorem dX7_groupOf_6 : decode cX7_groupOf 6 = .ok (.istore 4, 2) := by decide +kernel
theorem dX7_groupOf_8 : decode cX7_groupOf 8 = .ok (.iconst 0, 1) := by decide +kernel
theorem dX7_groupOf_9 : decode cX7_groupOf 9 = .ok (.istore 5, 2) := by decide +kernel
theorem dX7_groupOf_11 : decode cX7_groupOf 11 = .ok (.iconst 0, 1) := by decide +kernel
theorem dX7_groupOf_12 : decode cX7_groupOf 12 = .ok (.istore 6, 2) := by decide +kernel
theorem dX7_groupOf_14 : decode cX7_groupOf 14 = .ok (.iload 6, 2) := by decide +kernel
theorem dX7_groupOf_16 : decode cX7_groupOf 16 = .ok (.aload_n 0, 1) := by decide +kernel
theorem dX7_groupOf_17 : decode cX7_groupOf 17 = .ok (.getfield 29, 3) := by decide +kernel
theorem dX7_groupOf_20 : decode cX7_groupOf 20 = .ok (.if_icmp .ge 33, 3) := by decide +kernel
theorem dX7_groupOf_23 : decode cX7_groupOf 23 = .ok (.iload_n 1, 1) := by decide +kernel
theorem dX7_groupOf_24 : decode cX7_groupOf 24 = .ok (.iload 6, 2) := by decide +kernel
theorem dX7_groupOf_26 : decode cX7_groupOf 26 = .ok (.invokestatic 49, 3) := by decide +kernel
theorem dX7_groupOf_29 : decode cX7_groupOf 29 = .ok (.ifCond .eq 18, 3) := by decide +kernel
theorem dX7_groupOf_32 : decode cX7_groupOf 32 = .ok (.aload_n 0, 1) := by decide +kernel
theorem dX7_groupOf_33 : decode cX7_groupOf 33 = .ok (.iload 6, 2) := by decide +kernel
theorem dX7_groupOf_35 : decode cX7_groupOf 35 = .ok (.iload_n 2, 1) := by decide +kernel
theorem dX7_groupOf_36 : decode cX7_groupOf 36 = .ok (.invokevirtual 65, 3) := by decide +kernel
theorem dX7_groupOf_39 : decode cX7_groupOf 39 = .ok (.iload 4, 2) := by decide +kernel
theorem dX7_groupOf_41 : decode cX7_groupOf 41 = .ok (.if_icmp .ne 6, 3) := by decide +kernel
theorem dX7_groupOf_44 : decode cX7_groupOf 44 = .ok (.iinc 5 1, 3) := by decide +kernel
theorem dX7_groupOf_47 : decode cX7_groupOf 47 = .ok (.iinc 6 1, 3) := by decide +kernel
theorem dX7_groupOf_50 : decode cX7_groupOf 50 = .ok (.goto (-36), 3) := by decide +kernel
theorem dX7_groupOf_53 : decode cX7_groupOf 53 = .ok (.iload 5, 2) := by decide +kernel
theorem dX7_groupOf_55 : decode cX7_groupOf 55 = .ok (.ireturn, 1) := by decide +kernel
theorem dX8_init_0 : decode cX8_init 0 = .ok (.aload_n 0, 1) := by decide +kernel
theorem dX8_init_1 : decode cX8_init 1 = .ok (.invokespecial 1, 3) := by decide +kernel
theorem dX8_init_4 : decode cX8_init 4 = .ok (.aload_n 0, 1) := by decide +kernel
theorem dX8_init_5 : decode cX8_init 5 = .ok (.new 7, 3) := by decide +kernel
theorem dX8_init_8 : decode cX8_init 8 = .ok (.dup, 1) := by decide +kernel
theorem dX8_init_9 : decode cX8_init 9 = .ok (.invokespecial 9, 3) := by decide +kernel
theorem dX8_init_12 : decode cX8_init 12 = .ok (.putfield 10, 3) := by decide +kernel
theorem dX8_init_15 : decode cX8_init 15 = .ok (.aload_n 0, 1) := by decide +kernel
theorem dX8_init_16 : decode cX8_init 16 = .ok (.new 7, 3) := by decide +kernel
theorem dX8_init_19 : decode cX8_init 19 = .ok (.dup, 1) := by decide +kernel
theorem dX8_init_20 : decode cX8_init 20 = .ok (.invokespecial 9, 3) := by decide +kernel
theorem dX8_init_23 : decode cX8_init 23 = .ok (.putfield 16, 3) := by decide +kernel
theorem dX8_init_26 : decode cX8_init 26 = .ok (.aload_n 0, 1) := by decide +kernel
theorem dX8_init_27 : decode cX8_init 27 = .ok (.new 19, 3) := by decide +kernel
theorem dX8_init_30 : decode cX8_init 30 = .ok (.dup, 1) := by decide +kernel
theorem dX8_init_31 : decode cX8_init 31 = .ok (.invokespecial 21, 3) := by decide +kernel
theorem dX8_init_34 : decode cX8_init 34 = .ok (.putfield 22, 3) := by decide +kernel
theorem dX8_init_37 : decode cX8_init 37 = .ok (.aload_n 0, 1) := by decide +kernel
theorem dX8_init_38 : decode cX8_init 38 = .ok (.new 26, 3) := by decide +kernel
theorem dX8_init_41 : decode cX8_init 41 = .ok (.dup, 1) := by decide +kernel
theorem dX8_init_42 : decode cX8_init 42 = .ok (.invokespecial 28, 3) := by decide +kernel
theorem dX8_init_45 : decode cX8_init 45 = .ok (.putfield 29, 3) := by decide +kernel
theorem dX8_init_48 : decode cX8_init 48 = .ok (.aload_n 0, 1) := by decide +kernel
theorem dX8_init_49 : decode cX8_init 49 = .ok (.iconst 0, 1) := by decide +kernel
theorem dX8_init_50 : decode cX8_init 50 = .ok (.putfield 33, 3) := by decide +kernel
theorem dX8_init_53 : decode cX8_init 53 = .ok (.return_, 1) := by decide +kernel
theorem dX8_word_0 : decode cX8_word 0 = .ok (.aload_n 0, 1) := by decide +kernel
theorem dX8_word_1 : decode cX8_word 1 = .ok (.getfield 10, 3) := by decide +kernel
theorem dX8_word_4 : decode cX8_word 4 = .ok (.getfield 37, 3) := by decide +kernel
theorem dX8_word_7 : decode cX8_word 7 = .ok (.iload_n 1, 1) := by decide +kernel
theorem dX8_word_8 : decode cX8_word 8 = .ok (.invokevirtual 41, 3) := by decide +kernel
theorem dX8_word_11 : decode cX8_word 11 = .ok (.ifCond .eq 13, 3) := by decide +kernel
theorem dX8_word_14 : decode cX8_word 14 = .ok (.iload_n 2, 1) := by decide +kernel
theorem dX8_word_15 : decode cX8_word 15 = .ok (.iconst 1, 1) := by decide +kernel
theorem dX8_word_16 : decode cX8_word 16 = .ok (.bipush 99, 2) := by decide +kernel
theorem dX8_word_18 : decode cX8_word 18 = .ok (.invokestatic 47, 3) := by decide +kernel
theorem dX8_word_21 : decode cX8_word 21 = .ok (.ifCond .ne 5, 3) := by decide +kernel
theorem dX8_word_24 : decode cX8_word 24 = .ok (.iconst (-1), 1) := by decide +kernel
theorem dX8_word_25 : decode cX8_word 25 = .ok (.ireturn, 1) := by decide +kernel
theorem dX8_word_26 : decode cX8_word 26 = .ok (.aload_n 0, 1) := by decide +kernel
theorem dX8_word_27 : decode cX8_word 27 = .ok (.getfield 10, 3) := by decide +kernel
theorem dX8_word_30 : decode cX8_word 30 = .ok (.getfield 51, 3) := by decide +kernel
theorem dX8_word_33 : decode cX8_word 33 = .ok (.getfield 55, 3) := by decide +kernel
theorem dX8_word_36 : decode cX8_word 36 = .ok (.ifCond .eq 6, 3) := by decide +kernel
theorem dX8_word_39 : decode cX8_word 39 = .ok (.bipush (-2), 2) := by decide +kernel
theorem dX8_word_41 : decode cX8_word 41 = .ok (.ireturn, 1) := by decide +kernel
theorem dX8_word_42 : decode cX8_word 42 = .ok (.aload_n 0, 1) := by decide +kernel
theorem dX8_word_43 : decode cX8_word 43 = .ok (.getfield 22, 3) := by decide +kernel
theorem dX8_word_46 : decode cX8_word 46 = .ok (.aload_n 0, 1) := by decide +kernel
theorem dX8_word_47 : decode cX8_word 47 = .ok (.getfield 10, 3) := by decide +kernel
theorem dX8_word_50 : decode cX8_word 50 = .ok (.invokevirtual 60, 3) := by decide +kernel
theorem dX8_word_53 : decode cX8_word 53 = .ok (.aload_n 0, 1) := by decide +kernel
theorem dX8_word_54 : decode cX8_word 54 = .ok (.getfield 10, 3) := by decide +kernel
theorem dX8_word_57 : decode cX8_word 57 = .ok (.getfield 37, 3) := by decide +kernel
theorem dX8_word_60 : decode cX8_word 60 = .ok (.getfield 64, 3) := by decide +kernel
theorem dX8_word_63 : decode cX8_word 63 = .ok (.iload_n 1, 1) := by decide +kernel
theorem dX8_word_64 : decode cX8_word 64 = .ok (.invokevirtual 68, 3) := by decide +kernel
theorem dX8_word_67 : decode cX8_word 67 = .ok (.istore_n 3, 1) := by decide +kernel
theorem dX8_word_68 : decode cX8_word 68 = .ok (.aload_n 0, 1) := by decide +kernel
theorem dX8_word_69 : decode cX8_word 69 = .ok (.getfield 10, 3) := by decide +kernel
theorem dX8_word_72 : decode cX8_word 72 = .ok (.getfield 37, 3) := by decide +kernel
theorem dX8_word_75 : decode cX8_word 75 = .ok (.getfield 64, 3) := by decide +kernel
theorem dX8_word_78 : decode cX8_word 78 = .ok (.iload_n 1, 1) := by decide +kernel
theorem dX8_word_79 : decode cX8_word 79 = .ok (.iload_n 2, 1) := by decide +kernel
theorem dX8_word_80 : decode cX8_word 80 = .ok (.invokevirtual 74, 3) := by decide +kernel
theorem dX8_word_83 : decode cX8_word 83 = .ok (.iload_n 3, 1) := by decide +kernel
theorem dX8_word_84 : decode cX8_word 84 = .ok (.ireturn, 1) := by decide +kernel
theorem dX8_seat_0 : decode cX8_seat 0 = .ok (.iload_n 1, 1) := by decide +kernel
theorem dX8_seat_1 : decode cX8_seat 1 = .ok (.iconst 0, 1) := by decide +kernel
theorem dX8_seat_2 : decode cX8_seat 2 = .ok (.sipush 999, 3) := by decide +kernel
theorem dX8_seat_5 : decode cX8_seat 5 = .ok (.invokestatic 47, 3) := by decide +kernel
theorem dX8_seat_8 : decode cX8_seat 8 = .ok (.ifCond .ne 5, 3) := by decide +kernel
theorem dX8_seat_11 : decode cX8_seat 11 = .ok (.iconst (-1), 1) := by decide +kernel
theorem dX8_seat_12 : decode cX8_seat 12 = .ok (.ireturn, 1) := by decide +kernel
theorem dX8_seat_13 : decode cX8_seat 13 = .ok (.aload_n 0, 1) := by decide +kernel
theorem dX8_seat_14 : decode cX8_seat 14 = .ok (.getfield 10, 3) := by decide +kernel
theorem dX8_seat_17 : decode cX8_seat 17 = .ok (.getfield 51, 3) := by decide +kernel
theorem dX8_seat_20 : decode cX8_seat 20 = .ok (.getfield 55, 3) := by decide +kernel
theorem dX8_seat_23 : decode cX8_seat 23 = .ok (.ifCond .eq 6, 3) := by decide +kernel
theorem dX8_seat_26 : decode cX8_seat 26 = .ok (.bipush (-2), 2) := by decide +kernel
theorem dX8_seat_28 : decode cX8_seat 28 = .ok (.ireturn, 1) := by decide +kernel
theorem dX8_seat_29 : decode cX8_seat 29 = .ok (.aload_n 0, 1) := by decide +kernel
theorem dX8_seat_30 : decode cX8_seat 30 = .ok (.getfield 10, 3) := by decide +kernel
theorem dX8_seat_33 : decode cX8_seat 33 = .ok (.getfield 78, 3) := by decide +kernel
theorem dX8_seat_36 : decode cX8_seat 36 = .ok (.getfield 82, 3) := by decide +kernel
theorem dX8_seat_39 : decode cX8_seat 39 = .ok (.iconst 5, 1) := by decide +kernel
theorem dX8_seat_40 : decode cX8_seat 40 = .ok (.if_icmp .lt 6, 3) := by decide +kernel
theorem dX8_seat_43 : decode cX8_seat 43 = .ok (.bipush (-3), 2) := by decide +kernel
theorem dX8_seat_45 : decode cX8_seat 45 = .ok (.ireturn, 1) := by decide +kernel
theorem dX8_seat_46 : decode cX8_seat 46 = .ok (.aload_n 0, 1) := by decide +kernel
theorem dX8_seat_47 : decode cX8_seat 47 = .ok (.getfield 22, 3) := by decide +kernel
theorem dX8_seat_50 : decode cX8_seat 50 = .ok (.aload_n 0, 1) := by decide +kernel
theorem dX8_seat_51 : decode cX8_seat 51 = .ok (.getfield 10, 3) := by decide +kernel
theorem dX8_seat_54 : decode cX8_seat 54 = .ok (.invokevirtual 60, 3) := by decide +kernel
theorem dX8_seat_57 : decode cX8_seat 57 = .ok (.aload_n 0, 1) := by decide +kernel
theorem dX8_seat_58 : decode cX8_seat 58 = .ok (.getfield 10, 3) := by decide +kernel
theorem dX8_seat_61 : decode cX8_seat 61 = .ok (.getfield 78, 3) := by decide +kernel
theorem dX8_seat_64 : decode cX8_seat 64 = .ok (.iload_n 1, 1) := by decide +kernel
theorem dX8_seat_65 : decode cX8_seat 65 = .ok (.invokevirtual 88, 3) := by decide +kernel
theorem dX8_seat_68 : decode cX8_seat 68 = .ok (.ireturn, 1) := by decide +kernel
theorem dX8_lend_0 : decode cX8_lend 0 = .ok (.aload_n 0, 1) := by decide +kernel
theorem dX8_lend_1 : decode cX8_lend 1 = .ok (.getfield 10, 3) := by decide +kernel
theorem dX8_lend_4 : decode cX8_lend 4 = .ok (.getfield 78, 3) := by decide +kernel
theorem dX8_lend_7 : decode cX8_lend 7 = .ok (.iload_n 1, 1) := by decide +kernel
theorem dX8_lend_8 : decode cX8_lend 8 = .ok (.invokevirtual 91, 3) := by decide +kernel
theorem dX8_lend_11 : decode cX8_lend 11 = .ok (.ifCond .eq 33, 3) := by decide +kernel
theorem dX8_lend_14 : decode cX8_lend 14 = .ok (.aload_n 0, 1) := by decide +kernel
theorem dX8_lend_15 : decode cX8_lend 15 = .ok (.getfield 10, 3) := by decide +kernel
theorem dX8_lend_18 : decode cX8_lend 18 = .ok (.getfield 78, 3) := by decide +kernel
theorem dX8_lend_21 : decode cX8_lend 21 = .ok (.iload_n 2, 1) := by decide +kernel
theorem dX8_lend_22 : decode cX8_lend 22 = .ok (.invokevirtual 91, 3) := by decide +kernel
theorem dX8_lend_25 : decode cX8_lend 25 = .ok (.ifCond .eq 19, 3) := by decide +kernel
theorem dX8_lend_28 : decode cX8_lend 28 = .ok (.iload_n 1, 1) := by decide +kernel
theorem dX8_lend_29 : decode cX8_lend 29 = .ok (.iload_n 2, 1) := by decide +kernel
theorem dX8_lend_30 : decode cX8_lend 30 = .ok (.if_icmp .eq 14, 3) := by decide +kernel
theorem dX8_lend_33 : decode cX8_lend 33 = .ok (.iload_n 3, 1) := by decide +kernel
theorem dX8_lend_34 : decode cX8_lend 34 = .ok (.iconst 1, 1) := by decide +kernel
theorem dX8_lend_35 : decode cX8_lend 35 = .ok (.sipush 999, 3) := by decide +kernel
theorem dX8_lend_38 : decode cX8_lend 38 = .ok (.invokestatic 47, 3) := by decide +kernel
theorem dX8_lend_41 : decode cX8_lend 41 = .ok (.ifCond .ne 5, 3) := by decide +kernel
theorem dX8_lend_44 : decode cX8_lend 44 = .ok (.iconst (-1), 1) := by decide +kernel
theorem dX8_lend_45 : decode cX8_lend 45 = .ok (.ireturn, 1) := by decide +kernel
theorem dX8_lend_46 : decode cX8_lend 46 = .ok (.aload_n 0, 1) := by decide +kernel
theorem dX8_lend_47 : decode cX8_lend 47 = .ok (.getfield 10, 3) := by decide +kernel
theorem dX8_lend_50 : decode cX8_lend 50 = .ok (.getfield 78, 3) := by decide +kernel
theorem dX8_lend_53 : decode cX8_lend 53 = .ok (.getfield 92, 3) := by decide +kernel
theorem dX8_lend_56 : decode cX8_lend 56 = .ok (.iload_n 1, 1) := by decide +kernel
theorem dX8_lend_57 : decode cX8_lend 57 = .ok (.invokevirtual 68, 3) := by decide +kernel
theorem dX8_lend_60 : decode cX8_lend 60 = .ok (.iload_n 3, 1) := by decide +kernel
theorem dX8_lend_61 : decode cX8_lend 61 = .ok (.if_icmp .ge 6, 3) := by decide +kernel
theorem dX8_lend_64 : decode cX8_lend 64 = .ok (.bipush (-2), 2) := by decide +kernel
theorem dX8_lend_66 : decode cX8_lend 66 = .ok (.ireturn, 1) := by decide +kernel
theorem dX8_lend_67 : decode cX8_lend 67 = .ok (.aload_n 0, 1) := by decide +kernel
theorem dX8_lend_68 : decode cX8_lend 68 = .ok (.getfield 22, 3) := by decide +kernel
theorem dX8_lend_71 : decode cX8_lend 71 = .ok (.aload_n 0, 1) := by decide +kernel
theorem dX8_lend_72 : decode cX8_lend 72 = .ok (.getfield 10, 3) := by decide +kernel
theorem dX8_lend_75 : decode cX8_lend 75 = .ok (.invokevirtual 60, 3) := by decide +kernel
theorem dX8_lend_78 : decode cX8_lend 78 = .ok (.aload_n 0, 1) := by decide +kernel
theorem dX8_lend_79 : decode cX8_lend 79 = .ok (.getfield 10, 3) := by decide +kernel
theorem dX8_lend_82 : decode cX8_lend 82 = .ok (.getfield 78, 3) := by decide +kernel
theorem dX8_lend_85 : decode cX8_lend 85 = .ok (.getfield 92, 3) := by decide +kernel
theorem dX8_lend_88 : decode cX8_lend 88 = .ok (.iload_n 1, 1) := by decide +kernel
theorem dX8_lend_89 : decode cX8_lend 89 = .ok (.iload_n 3, 1) := by decide +kernel
theorem dX8_lend_90 : decode cX8_lend 90 = .ok (.ineg, 1) := by decide +kernel
theorem dX8_lend_91 : decode cX8_lend 91 = .ok (.invokevirtual 95, 3) := by decide +kernel
theorem dX8_lend_94 : decode cX8_lend 94 = .ok (.aload_n 0, 1) := by decide +kernel
theorem dX8_lend_95 : decode cX8_lend 95 = .ok (.getfield 10, 3) := by decide +kernel
theorem dX8_lend_98 : decode cX8_lend 98 = .ok (.getfield 78, 3) := by decide +kernel
theorem dX8_lend_101 : decode cX8_lend 101 = .ok (.getfield 92, 3) := by decide +kernel
theorem dX8_lend_104 : decode cX8_lend 104 = .ok (.iload_n 2, 1) := by decide +kernel
theorem dX8_lend_105 : decode cX8_lend 105 = .ok (.iload_n 3, 1) := by decide +kernel
theorem dX8_lend_106 : decode cX8_lend 106 = .ok (.invokevirtual 95, 3) := by decide +kernel
theorem dX8_lend_109 : decode cX8_lend 109 = .ok (.aload_n 0, 1) := by decide +kernel
theorem dX8_lend_110 : decode cX8_lend 110 = .ok (.getfield 10, 3) := by decide +kernel
theorem dX8_lend_113 : decode cX8_lend 113 = .ok (.getfield 78, 3) := by decide +kernel
theorem dX8_lend_116 : decode cX8_lend 116 = .ok (.getfield 92, 3) := by decide +kernel
theorem dX8_lend_119 : decode cX8_lend 119 = .ok (.iload_n 1, 1) := by decide +kernel
theorem dX8_lend_120 : decode cX8_lend 120 = .ok (.invokevirtual 68, 3) := by decide +kernel
theorem dX8_lend_123 : decode cX8_lend 123 = .ok (.ireturn, 1) := by decide +kernel
theorem dX8_set_0 : decode cX8_set 0 = .ok (.iload_n 1, 1) := by decide +kernel
theorem dX8_set_1 : decode cX8_set 1 = .ok (.ifCond .ne 13, 3) := by decide +kernel
theorem dX8_set_4 : decode cX8_set 4 = .ok (.iload_n 2, 1) := by decide +kernel
theorem dX8_set_5 : decode cX8_set 5 = .ok (.iconst 1, 1) := by decide +kernel
theorem dX8_set_6 : decode cX8_set 6 = .ok (.bipush 12, 2) := by decide +kernel
theorem dX8_set_8 : decode cX8_set 8 = .ok (.invokestatic 47, 3) := by decide +kernel
end
section
theorem dX8_set_11 : decode cX8_set 11 = .ok (.ifCond .ne 5, 3) := by decide +kernel
theorem dX8_set_14 : decode cX8_set 14 = .ok (.iconst (-1), 1) := by decide +kernel
theorem dX8_set_15 : decode cX8_set 15 = .ok (.ireturn, 1) := by decide +kernel
theorem dX8_set_16 : decode cX8_set 16 = .ok (.aload_n 0, 1) := by decide +kernel
theorem dX8_set_17 : decode cX8_set 17 = .ok (.getfield 10, 3) := by decide +kernel
theorem dX8_set_20 : decode cX8_set 20 = .ok (.getfield 51, 3) := by decide +kernel
theorem dX8_set_23 : decode cX8_set 23 = .ok (.getfield 55, 3) := by decide +kernel
theorem dX8_set_26 : decode cX8_set 26 = .ok (.ifCond .eq 6, 3) := by decide +kernel
theorem dX8_set_29 : decode cX8_set 29 = .ok (.bipush (-2), 2) := by decide +kernel
theorem dX8_set_31 : decode cX8_set 31 = .ok (.ireturn, 1) := by decide +kernel
theorem dX8_set_32 : decode cX8_set 32 = .ok (.aload_n 0, 1) := by decide +kernel
theorem dX8_set_33 : decode cX8_set 33 = .ok (.getfield 22, 3) := by decide +kernel
theorem dX8_set_36 : decode cX8_set 36 = .ok (.aload_n 0, 1) := by decide +kernel
theorem dX8_set_37 : decode cX8_set 37 = .ok (.getfield 10, 3) := by decide +kernel
theorem dX8_set_40 : decode cX8_set 40 = .ok (.invokevirtual 60, 3) := by decide +kernel
theorem dX8_set_43 : decode cX8_set 43 = .ok (.aload_n 0, 1) := by decide +kernel
theorem dX8_set_44 : decode cX8_set 44 = .ok (.getfield 10, 3) := by decide +kernel
theorem dX8_set_47 : decode cX8_set 47 = .ok (.getfield 97, 3) := by decide +kernel
theorem dX8_set_50 : decode cX8_set 50 = .ok (.istore_n 3, 1) := by decide +kernel
theorem dX8_set_51 : decode cX8_set 51 = .ok (.aload_n 0, 1) := by decide +kernel
theorem dX8_set_52 : decode cX8_set 52 = .ok (.getfield 10, 3) := by decide +kernel
theorem dX8_set_55 : decode cX8_set 55 = .ok (.iload_n 2, 1) := by decide +kernel
theorem dX8_set_56 : decode cX8_set 56 = .ok (.putfield 97, 3) := by decide +kernel
theorem dX8_set_59 : decode cX8_set 59 = .ok (.iload_n 3, 1) := by decide +kernel
theorem dX8_set_60 : decode cX8_set 60 = .ok (.ireturn, 1) := by decide +kernel
theorem dX8_seed_0 : decode cX8_seed 0 = .ok (.iload_n 1, 1) := by decide +kernel
theorem dX8_seed_1 : decode cX8_seed 1 = .ok (.ifCond .ge 5, 3) := by decide +kernel
theorem dX8_seed_4 : decode cX8_seed 4 = .ok (.iconst (-1), 1) := by decide +kernel
theorem dX8_seed_5 : decode cX8_seed 5 = .ok (.ireturn, 1) := by decide +kernel
theorem dX8_seed_6 : decode cX8_seed 6 = .ok (.aload_n 0, 1) := by decide +kernel
theorem dX8_seed_7 : decode cX8_seed 7 = .ok (.getfield 22, 3) := by decide +kernel
theorem dX8_seed_10 : decode cX8_seed 10 = .ok (.aload_n 0, 1) := by decide +kernel
theorem dX8_seed_11 : decode cX8_seed 11 = .ok (.getfield 10, 3) := by decide +kernel
theorem dX8_seed_14 : decode cX8_seed 14 = .ok (.invokevirtual 60, 3) := by decide +kernel
theorem dX8_seed_17 : decode cX8_seed 17 = .ok (.aload_n 0, 1) := by decide +kernel
theorem dX8_seed_18 : decode cX8_seed 18 = .ok (.getfield 10, 3) := by decide +kernel
theorem dX8_seed_21 : decode cX8_seed 21 = .ok (.getfield 100, 3) := by decide +kernel
theorem dX8_seed_24 : decode cX8_seed 24 = .ok (.istore_n 2, 1) := by decide +kernel
theorem dX8_seed_25 : decode cX8_seed 25 = .ok (.aload_n 0, 1) := by decide +kernel
theorem dX8_seed_26 : decode cX8_seed 26 = .ok (.getfield 10, 3) := by decide +kernel
theorem dX8_seed_29 : decode cX8_seed 29 = .ok (.iload_n 1, 1) := by decide +kernel
theorem dX8_seed_30 : decode cX8_seed 30 = .ok (.putfield 100, 3) := by decide +kernel
theorem dX8_seed_33 : decode cX8_seed 33 = .ok (.iload_n 2, 1) := by decide +kernel
theorem dX8_seed_34 : decode cX8_seed 34 = .ok (.ireturn, 1) := by decide +kernel
theorem dX8_begin_0 : decode cX8_begin 0 = .ok (.iload_n 1, 1) := by decide +kernel
theorem dX8_begin_1 : decode cX8_begin 1 = .ok (.iconst 1, 1) := by decide +kernel
theorem dX8_begin_2 : decode cX8_begin 2 = .ok (.bipush 50, 2) := by decide +kernel
theorem dX8_begin_4 : decode cX8_begin 4 = .ok (.invokestatic 47, 3) := by decide +kernel
theorem dX8_begin_7 : decode cX8_begin 7 = .ok (.ifCond .ne 5, 3) := by decide +kernel
theorem dX8_begin_10 : decode cX8_begin 10 = .ok (.iconst (-1), 1) := by decide +kernel
theorem dX8_begin_11 : decode cX8_begin 11 = .ok (.ireturn, 1) := by decide +kernel
theorem dX8_begin_12 : decode cX8_begin 12 = .ok (.aload_n 0, 1) := by decide +kernel
theorem dX8_begin_13 : decode cX8_begin 13 = .ok (.getfield 10, 3) := by decide +kernel
theorem dX8_begin_16 : decode cX8_begin 16 = .ok (.iload_n 1, 1) := by decide +kernel
theorem dX8_begin_17 : decode cX8_begin 17 = .ok (.invokevirtual 103, 3) := by decide +kernel
theorem dX8_begin_20 : decode cX8_begin 20 = .ok (.ifCond .ne 6, 3) := by decide +kernel
theorem dX8_begin_23 : decode cX8_begin 23 = .ok (.bipush (-2), 2) := by decide +kernel
theorem dX8_begin_25 : decode cX8_begin 25 = .ok (.ireturn, 1) := by decide +kernel
theorem dX8_begin_26 : decode cX8_begin 26 = .ok (.aload_n 0, 1) := by decide +kernel
theorem dX8_begin_27 : decode cX8_begin 27 = .ok (.getfield 22, 3) := by decide +kernel
theorem dX8_begin_30 : decode cX8_begin 30 = .ok (.aload_n 0, 1) := by decide +kernel
theorem dX8_begin_31 : decode cX8_begin 31 = .ok (.getfield 10, 3) := by decide +kernel
theorem dX8_begin_34 : decode cX8_begin 34 = .ok (.invokevirtual 60, 3) := by decide +kernel
theorem dX8_begin_37 : decode cX8_begin 37 = .ok (.aload_n 0, 1) := by decide +kernel
theorem dX8_begin_38 : decode cX8_begin 38 = .ok (.getfield 10, 3) := by decide +kernel
theorem dX8_begin_41 : decode cX8_begin 41 = .ok (.iload_n 1, 1) := by decide +kernel
theorem dX8_begin_42 : decode cX8_begin 42 = .ok (.invokevirtual 106, 3) := by decide +kernel
theorem dX8_begin_45 : decode cX8_begin 45 = .ok (.aload_n 0, 1) := by decide +kernel
theorem dX8_begin_46 : decode cX8_begin 46 = .ok (.getfield 10, 3) := by decide +kernel
theorem dX8_begin_49 : decode cX8_begin 49 = .ok (.getfield 37, 3) := by decide +kernel
theorem dX8_begin_52 : decode cX8_begin 52 = .ok (.getfield 110, 3) := by decide +kernel
theorem dX8_begin_55 : decode cX8_begin 55 = .ok (.aload_n 0, 1) := by decide +kernel
theorem dX8_begin_56 : decode cX8_begin 56 = .ok (.getfield 10, 3) := by decide +kernel
theorem dX8_begin_59 : decode cX8_begin 59 = .ok (.getfield 51, 3) := by decide +kernel
theorem dX8_begin_62 : decode cX8_begin 62 = .ok (.getfield 113, 3) := by decide +kernel
theorem dX8_begin_65 : decode cX8_begin 65 = .ok (.invokevirtual 68, 3) := by decide +kernel
theorem dX8_begin_68 : decode cX8_begin 68 = .ok (.ireturn, 1) := by decide +kernel
theorem dX8_guess_0 : decode cX8_guess 0 = .ok (.iload_n 1, 1) := by decide +kernel
theorem dX8_guess_1 : decode cX8_guess 1 = .ok (.invokestatic 116, 3) := by decide +kernel
theorem dX8_guess_4 : decode cX8_guess 4 = .ok (.ifCond .ne 5, 3) := by decide +kernel
theorem dX8_guess_7 : decode cX8_guess 7 = .ok (.iconst (-1), 1) := by decide +kernel
theorem dX8_guess_8 : decode cX8_guess 8 = .ok (.ireturn, 1) := by decide +kernel
theorem dX8_guess_9 : decode cX8_guess 9 = .ok (.aload_n 0, 1) := by decide +kernel
theorem dX8_guess_10 : decode cX8_guess 10 = .ok (.getfield 10, 3) := by decide +kernel
theorem dX8_guess_13 : decode cX8_guess 13 = .ok (.getfield 51, 3) := by decide +kernel
theorem dX8_guess_16 : decode cX8_guess 16 = .ok (.iload_n 1, 1) := by decide +kernel
theorem dX8_guess_17 : decode cX8_guess 17 = .ok (.invokevirtual 119, 3) := by decide +kernel
theorem dX8_guess_20 : decode cX8_guess 20 = .ok (.ifCond .ne 6, 3) := by decide +kernel
theorem dX8_guess_23 : decode cX8_guess 23 = .ok (.bipush (-2), 2) := by decide +kernel
theorem dX8_guess_25 : decode cX8_guess 25 = .ok (.ireturn, 1) := by decide +kernel
theorem dX8_guess_26 : decode cX8_guess 26 = .ok (.aload_n 0, 1) := by decide +kernel
theorem dX8_guess_27 : decode cX8_guess 27 = .ok (.getfield 22, 3) := by decide +kernel
theorem dX8_guess_30 : decode cX8_guess 30 = .ok (.aload_n 0, 1) := by decide +kernel
theorem dX8_guess_31 : decode cX8_guess 31 = .ok (.getfield 10, 3) := by decide +kernel
theorem dX8_guess_34 : decode cX8_guess 34 = .ok (.invokevirtual 60, 3) := by decide +kernel
theorem dX8_guess_37 : decode cX8_guess 37 = .ok (.aload_n 0, 1) := by decide +kernel
theorem dX8_guess_38 : decode cX8_guess 38 = .ok (.getfield 10, 3) := by decide +kernel
theorem dX8_guess_41 : decode cX8_guess 41 = .ok (.iload_n 1, 1) := by decide +kernel
theorem dX8_guess_42 : decode cX8_guess 42 = .ok (.invokevirtual 122, 3) := by decide +kernel
theorem dX8_guess_45 : decode cX8_guess 45 = .ok (.ireturn, 1) := by decide +kernel
theorem dX8_tell_0 : decode cX8_tell 0 = .ok (.aload_n 0, 1) := by decide +kernel
theorem dX8_tell_1 : decode cX8_tell 1 = .ok (.getfield 10, 3) := by decide +kernel
theorem dX8_tell_4 : decode cX8_tell 4 = .ok (.getfield 37, 3) := by decide +kernel
theorem dX8_tell_7 : decode cX8_tell 7 = .ok (.iload_n 1, 1) := by decide +kernel
theorem dX8_tell_8 : decode cX8_tell 8 = .ok (.invokevirtual 41, 3) := by decide +kernel
theorem dX8_tell_11 : decode cX8_tell 11 = .ok (.ifCond .ne 5, 3) := by decide +kernel
theorem dX8_tell_14 : decode cX8_tell 14 = .ok (.iconst (-1), 1) := by decide +kernel
theorem dX8_tell_15 : decode cX8_tell 15 = .ok (.ireturn, 1) := by decide +kernel
theorem dX8_tell_16 : decode cX8_tell 16 = .ok (.aload_n 0, 1) := by decide +kernel
theorem dX8_tell_17 : decode cX8_tell 17 = .ok (.getfield 10, 3) := by decide +kernel
theorem dX8_tell_20 : decode cX8_tell 20 = .ok (.getfield 51, 3) := by decide +kernel
theorem dX8_tell_23 : decode cX8_tell 23 = .ok (.getfield 55, 3) := by decide +kernel
theorem dX8_tell_26 : decode cX8_tell 26 = .ok (.ifCond .ne 6, 3) := by decide +kernel
theorem dX8_tell_29 : decode cX8_tell 29 = .ok (.bipush (-2), 2) := by decide +kernel
theorem dX8_tell_31 : decode cX8_tell 31 = .ok (.ireturn, 1) := by decide +kernel
theorem dX8_tell_32 : decode cX8_tell 32 = .ok (.aload_n 0, 1) := by decide +kernel
theorem dX8_tell_33 : decode cX8_tell 33 = .ok (.getfield 22, 3) := by decide +kernel
theorem dX8_tell_36 : decode cX8_tell 36 = .ok (.aload_n 0, 1) := by decide +kernel
theorem dX8_tell_37 : decode cX8_tell 37 = .ok (.getfield 10, 3) := by decide +kernel
theorem dX8_tell_40 : decode cX8_tell 40 = .ok (.invokevirtual 60, 3) := by decide +kernel
theorem dX8_tell_43 : decode cX8_tell 43 = .ok (.aload_n 0, 1) := by decide +kernel
theorem dX8_tell_44 : decode cX8_tell 44 = .ok (.getfield 10, 3) := by decide +kernel
theorem dX8_tell_47 : decode cX8_tell 47 = .ok (.iload_n 1, 1) := by decide +kernel
theorem dX8_tell_48 : decode cX8_tell 48 = .ok (.invokevirtual 125, 3) := by decide +kernel
theorem dX8_tell_51 : decode cX8_tell 51 = .ok (.ifCond .eq 7, 3) := by decide +kernel
theorem dX8_tell_54 : decode cX8_tell 54 = .ok (.iconst 1, 1) := by decide +kernel
theorem dX8_tell_55 : decode cX8_tell 55 = .ok (.goto 4, 3) := by decide +kernel
theorem dX8_tell_58 : decode cX8_tell 58 = .ok (.iconst 0, 1) := by decide +kernel
theorem dX8_tell_59 : decode cX8_tell 59 = .ok (.ireturn, 1) := by decide +kernel
theorem dX8_whisper_0 : decode cX8_whisper 0 = .ok (.aload_n 0, 1) := by decide +kernel
theorem dX8_whisper_1 : decode cX8_whisper 1 = .ok (.getfield 10, 3) := by decide +kernel
theorem dX8_whisper_4 : decode cX8_whisper 4 = .ok (.getfield 78, 3) := by decide +kernel
theorem dX8_whisper_7 : decode cX8_whisper 7 = .ok (.iload_n 1, 1) := by decide +kernel
theorem dX8_whisper_8 : decode cX8_whisper 8 = .ok (.invokevirtual 91, 3) := by decide +kernel
theorem dX8_whisper_11 : decode cX8_whisper 11 = .ok (.ifCond .eq 24, 3) := by decide +kernel
theorem dX8_whisper_14 : decode cX8_whisper 14 = .ok (.aload_n 0, 1) := by decide +kernel
theorem dX8_whisper_15 : decode cX8_whisper 15 = .ok (.getfield 10, 3) := by decide +kernel
theorem dX8_whisper_18 : decode cX8_whisper 18 = .ok (.getfield 78, 3) := by decide +kernel
theorem dX8_whisper_21 : decode cX8_whisper 21 = .ok (.iload_n 2, 1) := by decide +kernel
theorem dX8_whisper_22 : decode cX8_whisper 22 = .ok (.invokevirtual 91, 3) := by decide +kernel
theorem dX8_whisper_25 : decode cX8_whisper 25 = .ok (.ifCond .eq 10, 3) := by decide +kernel
theorem dX8_whisper_28 : decode cX8_whisper 28 = .ok (.iload_n 3, 1) := by decide +kernel
theorem dX8_whisper_29 : decode cX8_whisper 29 = .ok (.invokestatic 116, 3) := by decide +kernel
theorem dX8_whisper_32 : decode cX8_whisper 32 = .ok (.ifCond .ne 5, 3) := by decide +kernel
theorem dX8_whisper_35 : decode cX8_whisper 35 = .ok (.iconst (-1), 1) := by decide +kernel
theorem dX8_whisper_36 : decode cX8_whisper 36 = .ok (.ireturn, 1) := by decide +kernel
theorem dX8_whisper_37 : decode cX8_whisper 37 = .ok (.aload_n 0, 1) := by decide +kernel
theorem dX8_whisper_38 : decode cX8_whisper 38 = .ok (.getfield 10, 3) := by decide +kernel
theorem dX8_whisper_41 : decode cX8_whisper 41 = .ok (.getfield 51, 3) := by decide +kernel
theorem dX8_whisper_44 : decode cX8_whisper 44 = .ok (.iload_n 3, 1) := by decide +kernel
theorem dX8_whisper_45 : decode cX8_whisper 45 = .ok (.invokevirtual 119, 3) := by decide +kernel
theorem dX8_whisper_48 : decode cX8_whisper 48 = .ok (.ifCond .eq 13, 3) := by decide +kernel
theorem dX8_whisper_51 : decode cX8_whisper 51 = .ok (.iload_n 1, 1) := by decide +kernel
theorem dX8_whisper_52 : decode cX8_whisper 52 = .ok (.iload_n 2, 1) := by decide +kernel
theorem dX8_whisper_53 : decode cX8_whisper 53 = .ok (.isub, 1) := by decide +kernel
theorem dX8_whisper_54 : decode cX8_whisper 54 = .ok (.invokestatic 128, 3) := by decide +kernel
theorem dX8_whisper_57 : decode cX8_whisper 57 = .ok (.iconst 1, 1) := by decide +kernel
theorem dX8_whisper_58 : decode cX8_whisper 58 = .ok (.if_icmp .eq 6, 3) := by decide +kernel
theorem dX8_whisper_61 : decode cX8_whisper 61 = .ok (.bipush (-2), 2) := by decide +kernel
theorem dX8_whisper_63 : decode cX8_whisper 63 = .ok (.ireturn, 1) := by decide +kernel
theorem dX8_whisper_64 : decode cX8_whisper 64 = .ok (.aload_n 0, 1) := by decide +kernel
theorem dX8_whisper_65 : decode cX8_whisper 65 = .ok (.getfield 22, 3) := by decide +kernel
theorem dX8_whisper_68 : decode cX8_whisper 68 = .ok (.aload_n 0, 1) := by decide +kernel
theorem dX8_whisper_69 : decode cX8_whisper 69 = .ok (.getfield 10, 3) := by decide +kernel
theorem dX8_whisper_72 : decode cX8_whisper 72 = .ok (.invokevirtual 60, 3) := by decide +kernel
theorem dX8_whisper_75 : decode cX8_whisper 75 = .ok (.aload_n 0, 1) := by decide +kernel
theorem dX8_whisper_76 : decode cX8_whisper 76 = .ok (.getfield 10, 3) := by decide +kernel
theorem dX8_whisper_79 : decode cX8_whisper 79 = .ok (.getfield 78, 3) := by decide +kernel
theorem dX8_whisper_82 : decode cX8_whisper 82 = .ok (.getfield 133, 3) := by decide +kernel
theorem dX8_whisper_85 : decode cX8_whisper 85 = .ok (.iload_n 2, 1) := by decide +kernel
theorem dX8_whisper_86 : decode cX8_whisper 86 = .ok (.invokevirtual 68, 3) := by decide +kernel
theorem dX8_whisper_89 : decode cX8_whisper 89 = .ok (.istore 4, 2) := by decide +kernel
theorem dX8_whisper_91 : decode cX8_whisper 91 = .ok (.aload_n 0, 1) := by decide +kernel
theorem dX8_whisper_92 : decode cX8_whisper 92 = .ok (.getfield 10, 3) := by decide +kernel
theorem dX8_whisper_95 : decode cX8_whisper 95 = .ok (.getfield 78, 3) := by decide +kernel
theorem dX8_whisper_98 : decode cX8_whisper 98 = .ok (.getfield 133, 3) := by decide +kernel
theorem dX8_whisper_101 : decode cX8_whisper 101 = .ok (.iload_n 2, 1) := by decide +kernel
theorem dX8_whisper_102 : decode cX8_whisper 102 = .ok (.iload_n 3, 1) := by decide +kernel
theorem dX8_whisper_103 : decode cX8_whisper 103 = .ok (.invokevirtual 74, 3) := by decide +kernel
theorem dX8_whisper_106 : decode cX8_whisper 106 = .ok (.aload_n 0, 1) := by decide +kernel
theorem dX8_whisper_107 : decode cX8_whisper 107 = .ok (.getfield 10, 3) := by decide +kernel
theorem dX8_whisper_110 : decode cX8_whisper 110 = .ok (.getfield 78, 3) := by decide +kernel
theorem dX8_whisper_113 : decode cX8_whisper 113 = .ok (.getfield 136, 3) := by decide +kernel
theorem dX8_whisper_116 : decode cX8_whisper 116 = .ok (.iload_n 2, 1) := by decide +kernel
theorem dX8_whisper_117 : decode cX8_whisper 117 = .ok (.iload_n 1, 1) := by decide +kernel
theorem dX8_whisper_118 : decode cX8_whisper 118 = .ok (.invokevirtual 74, 3) := by decide +kernel
theorem dX8_whisper_121 : decode cX8_whisper 121 = .ok (.iload 4, 2) := by decide +kernel
theorem dX8_whisper_123 : decode cX8_whisper 123 = .ok (.ireturn, 1) := by decide +kernel
theorem dX8_wordOf_0 : decode cX8_wordOf 0 = .ok (.aload_n 0, 1) := by decide +kernel
theorem dX8_wordOf_1 : decode cX8_wordOf 1 = .ok (.getfield 10, 3) := by decide +kernel
theorem dX8_wordOf_4 : decode cX8_wordOf 4 = .ok (.getfield 37, 3) := by decide +kernel
theorem dX8_wordOf_7 : decode cX8_wordOf 7 = .ok (.astore_n 3, 1) := by decide +kernel
theorem dX8_wordOf_8 : decode cX8_wordOf 8 = .ok (.aload_n 3, 1) := by decide +kernel
theorem dX8_wordOf_9 : decode cX8_wordOf 9 = .ok (.iload_n 1, 1) := by decide +kernel
theorem dX8_wordOf_10 : decode cX8_wordOf 10 = .ok (.invokevirtual 41, 3) := by decide +kernel
theorem dX8_wordOf_13 : decode cX8_wordOf 13 = .ok (.ifCond .ne 5, 3) := by decide +kernel
theorem dX8_wordOf_16 : decode cX8_wordOf 16 = .ok (.iconst (-1), 1) := by decide +kernel
theorem dX8_wordOf_17 : decode cX8_wordOf 17 = .ok (.ireturn, 1) := by decide +kernel
theorem dX8_wordOf_18 : decode cX8_wordOf 18 = .ok (.iload_n 2, 1) := by decide +kernel
theorem dX8_wordOf_19 : decode cX8_wordOf 19 = .ok (.tableswitch 72 0 4 #[33, 42, 51, 57, 66], 33) := by decide +kernel
theorem dX8_wordOf_52 : decode cX8_wordOf 52 = .ok (.aload_n 3, 1) := by decide +kernel
theorem dX8_wordOf_53 : decode cX8_wordOf 53 = .ok (.getfield 110, 3) := by decide +kernel
theorem dX8_wordOf_56 : decode cX8_wordOf 56 = .ok (.iload_n 1, 1) := by decide +kernel
theorem dX8_wordOf_57 : decode cX8_wordOf 57 = .ok (.invokevirtual 68, 3) := by decide +kernel
theorem dX8_wordOf_60 : decode cX8_wordOf 60 = .ok (.ireturn, 1) := by decide +kernel
theorem dX8_wordOf_61 : decode cX8_wordOf 61 = .ok (.aload_n 3, 1) := by decide +kernel
theorem dX8_wordOf_62 : decode cX8_wordOf 62 = .ok (.getfield 64, 3) := by decide +kernel
theorem dX8_wordOf_65 : decode cX8_wordOf 65 = .ok (.iload_n 1, 1) := by decide +kernel
theorem dX8_wordOf_66 : decode cX8_wordOf 66 = .ok (.invokevirtual 68, 3) := by decide +kernel
theorem dX8_wordOf_69 : decode cX8_wordOf 69 = .ok (.ireturn, 1) := by decide +kernel
theorem dX8_wordOf_70 : decode cX8_wordOf 70 = .ok (.aload_n 3, 1) := by decide +kernel
theorem dX8_wordOf_71 : decode cX8_wordOf 71 = .ok (.iload_n 1, 1) := by decide +kernel
theorem dX8_wordOf_72 : decode cX8_wordOf 72 = .ok (.invokevirtual 139, 3) := by decide +kernel
theorem dX8_wordOf_75 : decode cX8_wordOf 75 = .ok (.ireturn, 1) := by decide +kernel
theorem dX8_wordOf_76 : decode cX8_wordOf 76 = .ok (.aload_n 3, 1) := by decide +kernel
theorem dX8_wordOf_77 : decode cX8_wordOf 77 = .ok (.getfield 142, 3) := by decide +kernel
theorem dX8_wordOf_80 : decode cX8_wordOf 80 = .ok (.iload_n 1, 1) := by decide +kernel
theorem dX8_wordOf_81 : decode cX8_wordOf 81 = .ok (.invokevirtual 68, 3) := by decide +kernel
theorem dX8_wordOf_84 : decode cX8_wordOf 84 = .ok (.ireturn, 1) := by decide +kernel
theorem dX8_wordOf_85 : decode cX8_wordOf 85 = .ok (.aload_n 0, 1) := by decide +kernel
theorem dX8_wordOf_86 : decode cX8_wordOf 86 = .ok (.iload_n 1, 1) := by decide +kernel
theorem dX8_wordOf_87 : decode cX8_wordOf 87 = .ok (.invokevirtual 145, 3) := by decide +kernel
theorem dX8_wordOf_90 : decode cX8_wordOf 90 = .ok (.ireturn, 1) := by decide +kernel
theorem dX8_wordOf_91 : decode cX8_wordOf 91 = .ok (.aload_n 0, 1) := by decide +kernel
theorem dX8_wordOf_92 : decode cX8_wordOf 92 = .ok (.iload_n 1, 1) := by decide +kernel
theorem dX8_wordOf_93 : decode cX8_wordOf 93 = .ok (.iload_n 2, 1) := by decide +kernel
theorem dX8_wordOf_94 : decode cX8_wordOf 94 = .ok (.invokevirtual 148, 3) := by decide +kernel
theorem dX8_wordOf_97 : decode cX8_wordOf 97 = .ok (.ireturn, 1) := by decide +kernel
theorem dX8_playerOf_0 : decode cX8_playerOf 0 = .ok (.aload_n 0, 1) := by decide +kernel
theorem dX8_playerOf_1 : decode cX8_playerOf 1 = .ok (.getfield 10, 3) := by decide +kernel
theorem dX8_playerOf_4 : decode cX8_playerOf 4 = .ok (.getfield 78, 3) := by decide +kernel
theorem dX8_playerOf_7 : decode cX8_playerOf 7 = .ok (.astore_n 3, 1) := by decide +kernel
theorem dX8_playerOf_8 : decode cX8_playerOf 8 = .ok (.aload_n 3, 1) := by decide +kernel
theorem dX8_playerOf_9 : decode cX8_playerOf 9 = .ok (.iload_n 1, 1) := by decide +kernel
theorem dX8_playerOf_10 : decode cX8_playerOf 10 = .ok (.invokevirtual 91, 3) := by decide +kernel
theorem dX8_playerOf_13 : decode cX8_playerOf 13 = .ok (.ifCond .ne 5, 3) := by decide +kernel
theorem dX8_playerOf_16 : decode cX8_playerOf 16 = .ok (.iconst (-1), 1) := by decide +kernel
theorem dX8_playerOf_17 : decode cX8_playerOf 17 = .ok (.ireturn, 1) := by decide +kernel
theorem dX8_playerOf_18 : decode cX8_playerOf 18 = .ok (.iload_n 2, 1) := by decide +kernel
theorem dX8_playerOf_19 : decode cX8_playerOf 19 = .ok (.tableswitch 117 0 5 #[37, 46, 55, 64, 73, 95], 37) := by decide +kernel
theorem dX8_playerOf_56 : decode cX8_playerOf 56 = .ok (.aload_n 3, 1) := by decide +kernel
theorem dX8_playerOf_57 : decode cX8_playerOf 57 = .ok (.getfield 92, 3) := by decide +kernel
theorem dX8_playerOf_60 : decode cX8_playerOf 60 = .ok (.iload_n 1, 1) := by decide +kernel
theorem dX8_playerOf_61 : decode cX8_playerOf 61 = .ok (.invokevirtual 68, 3) := by decide +kernel
theorem dX8_playerOf_64 : decode cX8_playerOf 64 = .ok (.ireturn, 1) := by decide +kernel
theorem dX8_playerOf_65 : decode cX8_playerOf 65 = .ok (.aload_n 3, 1) := by decide +kernel
theorem dX8_playerOf_66 : decode cX8_playerOf 66 = .ok (.getfield 152, 3) := by decide +kernel
theorem dX8_playerOf_69 : decode cX8_playerOf 69 = .ok (.iload_n 1, 1) := by decide +kernel
theorem dX8_playerOf_70 : decode cX8_playerOf 70 = .ok (.invokevirtual 68, 3) := by decide +kernel
theorem dX8_playerOf_73 : decode cX8_playerOf 73 = .ok (.ireturn, 1) := by decide +kernel
theorem dX8_playerOf_74 : decode cX8_playerOf 74 = .ok (.aload_n 3, 1) := by decide +kernel
theorem dX8_playerOf_75 : decode cX8_playerOf 75 = .ok (.getfield 155, 3) := by decide +kernel
theorem dX8_playerOf_78 : decode cX8_playerOf 78 = .ok (.iload_n 1, 1) := by decide +kernel
theorem dX8_playerOf_79 : decode cX8_playerOf 79 = .ok (.invokevirtual 68, 3) := by decide +kernel
theorem dX8_playerOf_82 : decode cX8_playerOf 82 = .ok (.ireturn, 1) := by decide +kernel
theorem dX8_playerOf_83 : decode cX8_playerOf 83 = .ok (.aload_n 3, 1) := by decide +kernel
theorem dX8_playerOf_84 : decode cX8_playerOf 84 = .ok (.getfield 158, 3) := by decide +kernel
theorem dX8_playerOf_87 : decode cX8_playerOf 87 = .ok (.iload_n 1, 1) := by decide +kernel
theorem dX8_playerOf_88 : decode cX8_playerOf 88 = .ok (.invokevirtual 68, 3) := by decide +kernel
theorem dX8_playerOf_91 : decode cX8_playerOf 91 = .ok (.ireturn, 1) := by decide +kernel
theorem dX8_playerOf_92 : decode cX8_playerOf 92 = .ok (.aload_n 3, 1) := by decide +kernel
theorem dX8_playerOf_93 : decode cX8_playerOf 93 = .ok (.iload_n 1, 1) := by decide +kernel
theorem dX8_playerOf_94 : decode cX8_playerOf 94 = .ok (.invokevirtual 161, 3) := by decide +kernel
theorem dX8_playerOf_97 : decode cX8_playerOf 97 = .ok (.ifCond .eq 14, 3) := by decide +kernel
theorem dX8_playerOf_100 : decode cX8_playerOf 100 = .ok (.aload_n 3, 1) := by decide +kernel
theorem dX8_playerOf_101 : decode cX8_playerOf 101 = .ok (.getfield 133, 3) := by decide +kernel
theorem dX8_playerOf_104 : decode cX8_playerOf 104 = .ok (.iload_n 1, 1) := by decide +kernel
theorem dX8_playerOf_105 : decode cX8_playerOf 105 = .ok (.invokevirtual 68, 3) := by decide +kernel
theorem dX8_playerOf_108 : decode cX8_playerOf 108 = .ok (.goto 5, 3) := by decide +kernel
theorem dX8_playerOf_111 : decode cX8_playerOf 111 = .ok (.bipush (-4), 2) := by decide +kernel
theorem dX8_playerOf_113 : decode cX8_playerOf 113 = .ok (.ireturn, 1) := by decide +kernel
theorem dX8_playerOf_114 : decode cX8_playerOf 114 = .ok (.aload_n 3, 1) := by decide +kernel
theorem dX8_playerOf_115 : decode cX8_playerOf 115 = .ok (.iload_n 1, 1) := by decide +kernel
theorem dX8_playerOf_116 : decode cX8_playerOf 116 = .ok (.invokevirtual 161, 3) := by decide +kernel
theorem dX8_playerOf_119 : decode cX8_playerOf 119 = .ok (.ifCond .eq 14, 3) := by decide +kernel
theorem dX8_playerOf_122 : decode cX8_playerOf 122 = .ok (.aload_n 3, 1) := by decide +kernel
theorem dX8_playerOf_123 : decode cX8_playerOf 123 = .ok (.getfield 136, 3) := by decide +kernel
theorem dX8_playerOf_126 : decode cX8_playerOf 126 = .ok (.iload_n 1, 1) := by decide +kernel
theorem dX8_playerOf_127 : decode cX8_playerOf 127 = .ok (.invokevirtual 68, 3) := by decide +kernel
theorem dX8_playerOf_130 : decode cX8_playerOf 130 = .ok (.goto 5, 3) := by decide +kernel
theorem dX8_playerOf_133 : decode cX8_playerOf 133 = .ok (.bipush (-4), 2) := by decide +kernel
theorem dX8_playerOf_135 : decode cX8_playerOf 135 = .ok (.ireturn, 1) := by decide +kernel
theorem dX8_playerOf_136 : decode cX8_playerOf 136 = .ok (.iconst (-1), 1) := by decide +kernel
theorem dX8_playerOf_137 : decode cX8_playerOf 137 = .ok (.ireturn, 1) := by decide +kernel
theorem dX8_open_0 : decode cX8_open 0 = .ok (.iload_n 1, 1) := by decide +kernel
theorem dX8_open_1 : decode cX8_open 1 = .ok (.ifCond .ge 5, 3) := by decide +kernel
theorem dX8_open_4 : decode cX8_open 4 = .ok (.iconst (-1), 1) := by decide +kernel
theorem dX8_open_5 : decode cX8_open 5 = .ok (.ireturn, 1) := by decide +kernel
theorem dX8_open_6 : decode cX8_open 6 = .ok (.aload_n 0, 1) := by decide +kernel
theorem dX8_open_7 : decode cX8_open 7 = .ok (.getfield 10, 3) := by decide +kernel
theorem dX8_open_10 : decode cX8_open 10 = .ok (.getfield 51, 3) := by decide +kernel
theorem dX8_open_13 : decode cX8_open 13 = .ok (.getfield 55, 3) := by decide +kernel
theorem dX8_open_16 : decode cX8_open 16 = .ok (.ifCond .ne 6, 3) := by decide +kernel
theorem dX8_open_19 : decode cX8_open 19 = .ok (.bipush (-2), 2) := by decide +kernel
theorem dX8_open_21 : decode cX8_open 21 = .ok (.ireturn, 1) := by decide +kernel
theorem dX8_open_22 : decode cX8_open 22 = .ok (.iload_n 1, 1) := by decide +kernel
theorem dX8_open_23 : decode cX8_open 23 = .ok (.aload_n 0, 1) := by decide +kernel
theorem dX8_open_24 : decode cX8_open 24 = .ok (.getfield 10, 3) := by decide +kernel
theorem dX8_open_27 : decode cX8_open 27 = .ok (.getfield 37, 3) := by decide +kernel
theorem dX8_open_30 : decode cX8_open 30 = .ok (.getfield 110, 3) := by decide +kernel
theorem dX8_open_33 : decode cX8_open 33 = .ok (.aload_n 0, 1) := by decide +kernel
theorem dX8_open_34 : decode cX8_open 34 = .ok (.getfield 10, 3) := by decide +kernel
theorem dX8_open_37 : decode cX8_open 37 = .ok (.getfield 51, 3) := by decide +kernel
theorem dX8_open_40 : decode cX8_open 40 = .ok (.getfield 113, 3) := by decide +kernel
theorem dX8_open_43 : decode cX8_open 43 = .ok (.invokevirtual 68, 3) := by decide +kernel
theorem dX8_open_46 : decode cX8_open 46 = .ok (.if_icmp .lt 6, 3) := by decide +kernel
theorem dX8_open_49 : decode cX8_open 49 = .ok (.bipush (-4), 2) := by decide +kernel
theorem dX8_open_51 : decode cX8_open 51 = .ok (.ireturn, 1) := by decide +kernel
theorem dX8_open_52 : decode cX8_open 52 = .ok (.aload_n 0, 1) := by decide +kernel
theorem dX8_open_53 : decode cX8_open 53 = .ok (.getfield 10, 3) := by decide +kernel
theorem dX8_open_56 : decode cX8_open 56 = .ok (.getfield 37, 3) := by decide +kernel
theorem dX8_open_59 : decode cX8_open 59 = .ok (.aload_n 0, 1) := by decide +kernel
theorem dX8_open_60 : decode cX8_open 60 = .ok (.getfield 10, 3) := by decide +kernel
theorem dX8_open_63 : decode cX8_open 63 = .ok (.getfield 51, 3) := by decide +kernel
theorem dX8_open_66 : decode cX8_open 66 = .ok (.getfield 113, 3) := by decide +kernel
theorem dX8_open_69 : decode cX8_open 69 = .ok (.iload_n 1, 1) := by decide +kernel
theorem dX8_open_70 : decode cX8_open 70 = .ok (.invokevirtual 164, 3) := by decide +kernel
theorem dX8_open_73 : decode cX8_open 73 = .ok (.istore_n 2, 1) := by decide +kernel
theorem dX8_open_74 : decode cX8_open 74 = .ok (.aload_n 0, 1) := by decide +kernel
theorem dX8_open_75 : decode cX8_open 75 = .ok (.getfield 10, 3) := by decide +kernel
theorem dX8_open_78 : decode cX8_open 78 = .ok (.getfield 51, 3) := by decide +kernel
theorem dX8_open_81 : decode cX8_open 81 = .ok (.getfield 167, 3) := by decide +kernel
theorem dX8_open_84 : decode cX8_open 84 = .ok (.iload_n 2, 1) := by decide +kernel
theorem dX8_open_85 : decode cX8_open 85 = .ok (.invokestatic 170, 3) := by decide +kernel
theorem dX8_open_88 : decode cX8_open 88 = .ok (.ifCond .eq 7, 3) := by decide +kernel
theorem dX8_open_91 : decode cX8_open 91 = .ok (.iload_n 2, 1) := by decide +kernel
theorem dX8_open_92 : decode cX8_open 92 = .ok (.goto 5, 3) := by decide +kernel
theorem dX8_open_95 : decode cX8_open 95 = .ok (.bipush 26, 2) := by decide +kernel
theorem dX8_open_97 : decode cX8_open 97 = .ok (.ireturn, 1) := by decide +kernel
theorem dX8_round_0 : decode cX8_round 0 = .ok (.iload_n 1, 1) := by decide +kernel
theorem dX8_round_1 : decode cX8_round 1 = .ok (.ifCond .lt 12, 3) := by decide +kernel
theorem dX8_round_4 : decode cX8_round 4 = .ok (.iload_n 2, 1) := by decide +kernel
theorem dX8_round_5 : decode cX8_round 5 = .ok (.iconst 0, 1) := by decide +kernel
theorem dX8_round_6 : decode cX8_round 6 = .ok (.iconst 3, 1) := by decide +kernel
theorem dX8_round_7 : decode cX8_round 7 = .ok (.invokestatic 47, 3) := by decide +kernel
theorem dX8_round_10 : decode cX8_round 10 = .ok (.ifCond .ne 5, 3) := by decide +kernel
theorem dX8_round_13 : decode cX8_round 13 = .ok (.iconst (-1), 1) := by decide +kernel
theorem dX8_round_14 : decode cX8_round 14 = .ok (.ireturn, 1) := by decide +kernel
theorem dX8_round_15 : decode cX8_round 15 = .ok (.iload_n 1, 1) := by decide +kernel
theorem dX8_round_16 : decode cX8_round 16 = .ok (.aload_n 0, 1) := by decide +kernel
theorem dX8_round_17 : decode cX8_round 17 = .ok (.getfield 10, 3) := by decide +kernel
theorem dX8_round_20 : decode cX8_round 20 = .ok (.getfield 174, 3) := by decide +kernel
theorem dX8_round_23 : decode cX8_round 23 = .ok (.getfield 178, 3) := by decide +kernel
theorem dX8_round_26 : decode cX8_round 26 = .ok (.if_icmp .lt 6, 3) := by decide +kernel
theorem dX8_round_29 : decode cX8_round 29 = .ok (.bipush (-4), 2) := by decide +kernel
theorem dX8_round_31 : decode cX8_round 31 = .ok (.ireturn, 1) := by decide +kernel
theorem dX8_round_32 : decode cX8_round 32 = .ok (.iload_n 2, 1) := by decide +kernel
theorem dX8_round_33 : decode cX8_round 33 = .ok (.tableswitch 72 0 2 #[27, 42, 57], 27) := by decide +kernel
theorem dX8_round_60 : decode cX8_round 60 = .ok (.aload_n 0, 1) := by decide +kernel
theorem dX8_round_61 : decode cX8_round 61 = .ok (.getfield 10, 3) := by decide +kernel
theorem dX8_round_64 : decode cX8_round 64 = .ok (.getfield 174, 3) := by decide +kernel
theorem dX8_round_67 : decode cX8_round 67 = .ok (.getfield 181, 3) := by decide +kernel
theorem dX8_round_70 : decode cX8_round 70 = .ok (.iload_n 1, 1) := by decide +kernel
theorem dX8_round_71 : decode cX8_round 71 = .ok (.invokevirtual 68, 3) := by decide +kernel
theorem dX8_round_74 : decode cX8_round 74 = .ok (.ireturn, 1) := by decide +kernel
theorem dX8_round_75 : decode cX8_round 75 = .ok (.aload_n 0, 1) := by decide +kernel
theorem dX8_round_76 : decode cX8_round 76 = .ok (.getfield 10, 3) := by decide +kernel
theorem dX8_round_79 : decode cX8_round 79 = .ok (.getfield 174, 3) := by decide +kernel
theorem dX8_round_82 : decode cX8_round 82 = .ok (.getfield 183, 3) := by decide +kernel
theorem dX8_round_85 : decode cX8_round 85 = .ok (.iload_n 1, 1) := by decide +kernel
theorem dX8_round_86 : decode cX8_round 86 = .ok (.invokevirtual 68, 3) := by decide +kernel
theorem dX8_round_89 : decode cX8_round 89 = .ok (.ireturn, 1) := by decide +kernel
theorem dX8_round_90 : decode cX8_round 90 = .ok (.aload_n 0, 1) := by decide +kernel
theorem dX8_round_91 : decode cX8_round 91 = .ok (.getfield 10, 3) := by decide +kernel
theorem dX8_round_94 : decode cX8_round 94 = .ok (.getfield 174, 3) := by decide +kernel
theorem dX8_round_97 : decode cX8_round 97 = .ok (.getfield 186, 3) := by decide +kernel
theorem dX8_round_100 : decode cX8_round 100 = .ok (.iload_n 1, 1) := by decide +kernel
theorem dX8_round_101 : decode cX8_round 101 = .ok (.invokevirtual 68, 3) := by decide +kernel
theorem dX8_round_104 : decode cX8_round 104 = .ok (.ireturn, 1) := by decide +kernel
theorem dX8_round_105 : decode cX8_round 105 = .ok (.aload_n 0, 1) := by decide +kernel
theorem dX8_round_106 : decode cX8_round 106 = .ok (.getfield 10, 3) := by decide +kernel
theorem dX8_round_109 : decode cX8_round 109 = .ok (.getfield 174, 3) := by decide +kernel
theorem dX8_round_112 : decode cX8_round 112 = .ok (.getfield 187, 3) := by decide +kernel
theorem dX8_round_115 : decode cX8_round 115 = .ok (.iload_n 1, 1) := by decide +kernel
theorem dX8_round_116 : decode cX8_round 116 = .ok (.invokevirtual 68, 3) := by decide +kernel
theorem dX8_round_119 : decode cX8_round 119 = .ok (.ireturn, 1) := by decide +kernel
theorem dX8_count_0 : decode cX8_count 0 = .ok (.iload_n 1, 1) := by decide +kernel
theorem dX8_count_1 : decode cX8_count 1 = .ok (.iconst 0, 1) := by decide +kernel
theorem dX8_count_2 : decode cX8_count 2 = .ok (.bipush 15, 2) := by decide +kernel
theorem dX8_count_4 : decode cX8_count 4 = .ok (.invokestatic 47, 3) := by decide +kernel
theorem dX8_count_7 : decode cX8_count 7 = .ok (.ifCond .ne 5, 3) := by decide +kernel
theorem dX8_count_10 : decode cX8_count 10 = .ok (.iconst (-1), 1) := by decide +kernel
theorem dX8_count_11 : decode cX8_count 11 = .ok (.ireturn, 1) := by decide +kernel
theorem dX8_count_12 : decode cX8_count 12 = .ok (.iload_n 1, 1) := by decide +kernel
theorem dX8_count_13 : decode cX8_count 13 = .ok (.iconst 3, 1) := by decide +kernel
theorem dX8_count_14 : decode cX8_count 14 = .ok (.bipush 7, 2) := by decide +kernel
theorem dX8_count_16 : decode cX8_count 16 = .ok (.invokestatic 47, 3) := by decide +kernel
theorem dX8_count_19 : decode cX8_count 19 = .ok (.ifCond .eq 27, 3) := by decide +kernel
theorem dX8_count_22 : decode cX8_count 22 = .ok (.aload_n 0, 1) := by decide +kernel
theorem dX8_count_23 : decode cX8_count 23 = .ok (.getfield 10, 3) := by decide +kernel
theorem dX8_count_26 : decode cX8_count 26 = .ok (.getfield 51, 3) := by decide +kernel
theorem dX8_count_29 : decode cX8_count 29 = .ok (.getfield 55, 3) := by decide +kernel
theorem dX8_count_32 : decode cX8_count 32 = .ok (.ifCond .eq 11, 3) := by decide +kernel
theorem dX8_count_35 : decode cX8_count 35 = .ok (.aload_n 0, 1) := by decide +kernel
theorem dX8_count_36 : decode cX8_count 36 = .ok (.iload_n 1, 1) := by decide +kernel
theorem dX8_count_37 : decode cX8_count 37 = .ok (.invokevirtual 190, 3) := by decide +kernel
theorem dX8_count_40 : decode cX8_count 40 = .ok (.goto 5, 3) := by decide +kernel
theorem dX8_count_43 : decode cX8_count 43 = .ok (.bipush (-4), 2) := by decide +kernel
theorem dX8_count_45 : decode cX8_count 45 = .ok (.ireturn, 1) := by decide +kernel
theorem dX8_count_46 : decode cX8_count 46 = .ok (.aload_n 0, 1) := by decide +kernel
theorem dX8_count_47 : decode cX8_count 47 = .ok (.iload_n 1, 1) := by decide +kernel
theorem dX8_count_48 : decode cX8_count 48 = .ok (.invokevirtual 193, 3) := by decide +kernel
theorem dX8_count_51 : decode cX8_count 51 = .ok (.ireturn, 1) := by decide +kernel
theorem dX8_fits_0 : decode cX8_fits 0 = .ok (.iload_n 1, 1) := by decide +kernel
theorem dX8_fits_1 : decode cX8_fits 1 = .ok (.iconst 0, 1) := by decide +kernel
theorem dX8_fits_2 : decode cX8_fits 2 = .ok (.iconst 4, 1) := by decide +kernel
theorem dX8_fits_3 : decode cX8_fits 3 = .ok (.invokestatic 47, 3) := by decide +kernel
theorem dX8_fits_6 : decode cX8_fits 6 = .ok (.ifCond .ne 5, 3) := by decide +kernel
theorem dX8_fits_9 : decode cX8_fits 9 = .ok (.iconst (-1), 1) := by decide +kernel
theorem dX8_fits_10 : decode cX8_fits 10 = .ok (.ireturn, 1) := by decide +kernel
theorem dX8_fits_11 : decode cX8_fits 11 = .ok (.aload_n 0, 1) := by decide +kernel
theorem dX8_fits_12 : decode cX8_fits 12 = .ok (.getfield 10, 3) := by decide +kernel
theorem dX8_fits_15 : decode cX8_fits 15 = .ok (.getfield 51, 3) := by decide +kernel
theorem dX8_fits_18 : decode cX8_fits 18 = .ok (.getfield 55, 3) := by decide +kernel
theorem dX8_fits_21 : decode cX8_fits 21 = .ok (.ifCond .ne 6, 3) := by decide +kernel
theorem dX8_fits_24 : decode cX8_fits 24 = .ok (.bipush (-2), 2) := by decide +kernel
theorem dX8_fits_26 : decode cX8_fits 26 = .ok (.ireturn, 1) := by decide +kernel
theorem dX8_fits_27 : decode cX8_fits 27 = .ok (.aload_n 0, 1) := by decide +kernel
theorem dX8_fits_28 : decode cX8_fits 28 = .ok (.getfield 10, 3) := by decide +kernel
theorem dX8_fits_31 : decode cX8_fits 31 = .ok (.invokevirtual 196, 3) := by decide +kernel
theorem dX8_fits_34 : decode cX8_fits 34 = .ok (.istore_n 2, 1) := by decide +kernel
theorem dX8_fits_35 : decode cX8_fits 35 = .ok (.iload_n 1, 1) := by decide +kernel
theorem dX8_fits_36 : decode cX8_fits 36 = .ok (.tableswitch 60 0 3 #[32, 34, 39, 51], 32) := by decide +kernel
theorem dX8_fits_68 : decode cX8_fits 68 = .ok (.iload_n 2, 1) := by decide +kernel
theorem dX8_fits_69 : decode cX8_fits 69 = .ok (.ireturn, 1) := by decide +kernel
theorem dX8_fits_70 : decode cX8_fits 70 = .ok (.iload_n 2, 1) := by decide +kernel
theorem dX8_fits_71 : decode cX8_fits 71 = .ok (.invokestatic 200, 3) := by decide +kernel
theorem dX8_fits_74 : decode cX8_fits 74 = .ok (.ireturn, 1) := by decide +kernel
theorem dX8_fits_75 : decode cX8_fits 75 = .ok (.aload_n 0, 1) := by decide +kernel
theorem dX8_fits_76 : decode cX8_fits 76 = .ok (.getfield 10, 3) := by decide +kernel
theorem dX8_fits_79 : decode cX8_fits 79 = .ok (.getfield 37, 3) := by decide +kernel
theorem dX8_fits_82 : decode cX8_fits 82 = .ok (.iload_n 2, 1) := by decide +kernel
theorem dX8_fits_83 : decode cX8_fits 83 = .ok (.invokevirtual 205, 3) := by decide +kernel
theorem dX8_fits_86 : decode cX8_fits 86 = .ok (.ireturn, 1) := by decide +kernel
theorem dX8_fits_87 : decode cX8_fits 87 = .ok (.aload_n 0, 1) := by decide +kernel
theorem dX8_fits_88 : decode cX8_fits 88 = .ok (.getfield 10, 3) := by decide +kernel
theorem dX8_fits_91 : decode cX8_fits 91 = .ok (.iload_n 2, 1) := by decide +kernel
theorem dX8_fits_92 : decode cX8_fits 92 = .ok (.invokevirtual 208, 3) := by decide +kernel
theorem dX8_fits_95 : decode cX8_fits 95 = .ok (.ireturn, 1) := by decide +kernel
theorem dX8_fits_96 : decode cX8_fits 96 = .ok (.aload_n 0, 1) := by decide +kernel
theorem dX8_fits_97 : decode cX8_fits 97 = .ok (.getfield 10, 3) := by decide +kernel
theorem dX8_fits_100 : decode cX8_fits 100 = .ok (.getfield 37, 3) := by decide +kernel
theorem dX8_fits_103 : decode cX8_fits 103 = .ok (.iload_n 2, 1) := by decide +kernel
theorem dX8_fits_104 : decode cX8_fits 104 = .ok (.aload_n 0, 1) := by decide +kernel
theorem dX8_fits_105 : decode cX8_fits 105 = .ok (.getfield 10, 3) := by decide +kernel
theorem dX8_fits_108 : decode cX8_fits 108 = .ok (.iload_n 2, 1) := by decide +kernel
theorem dX8_fits_109 : decode cX8_fits 109 = .ok (.invokevirtual 208, 3) := by decide +kernel
theorem dX8_fits_112 : decode cX8_fits 112 = .ok (.invokevirtual 211, 3) := by decide +kernel
theorem dX8_fits_115 : decode cX8_fits 115 = .ok (.ireturn, 1) := by decide +kernel
theorem dX8_letterOf_0 : decode cX8_letterOf 0 = .ok (.iload_n 1, 1) := by decide +kernel
theorem dX8_letterOf_1 : decode cX8_letterOf 1 = .ok (.invokestatic 116, 3) := by decide +kernel
theorem dX8_letterOf_4 : decode cX8_letterOf 4 = .ok (.ifCond .eq 12, 3) := by decide +kernel
theorem dX8_letterOf_7 : decode cX8_letterOf 7 = .ok (.iload_n 2, 1) := by decide +kernel
theorem dX8_letterOf_8 : decode cX8_letterOf 8 = .ok (.iconst 0, 1) := by decide +kernel
theorem dX8_letterOf_9 : decode cX8_letterOf 9 = .ok (.iconst 2, 1) := by decide +kernel
theorem dX8_letterOf_10 : decode cX8_letterOf 10 = .ok (.invokestatic 47, 3) := by decide +kernel
theorem dX8_letterOf_13 : decode cX8_letterOf 13 = .ok (.ifCond .ne 5, 3) := by decide +kernel
theorem dX8_letterOf_16 : decode cX8_letterOf 16 = .ok (.iconst (-1), 1) := by decide +kernel
theorem dX8_letterOf_17 : decode cX8_letterOf 17 = .ok (.ireturn, 1) := by decide +kernel
theorem dX8_letterOf_18 : decode cX8_letterOf 18 = .ok (.aload_n 0, 1) := by decide +kernel
theorem dX8_letterOf_19 : decode cX8_letterOf 19 = .ok (.getfield 10, 3) := by decide +kernel
theorem dX8_letterOf_22 : decode cX8_letterOf 22 = .ok (.getfield 51, 3) := by decide +kernel
theorem dX8_letterOf_25 : decode cX8_letterOf 25 = .ok (.iload_n 1, 1) := by decide +kernel
theorem dX8_letterOf_26 : decode cX8_letterOf 26 = .ok (.invokevirtual 119, 3) := by decide +kernel
theorem dX8_letterOf_29 : decode cX8_letterOf 29 = .ok (.ifCond .ne 6, 3) := by decide +kernel
theorem dX8_letterOf_32 : decode cX8_letterOf 32 = .ok (.bipush (-2), 2) := by decide +kernel
theorem dX8_letterOf_34 : decode cX8_letterOf 34 = .ok (.ireturn, 1) := by decide +kernel
theorem dX8_letterOf_35 : decode cX8_letterOf 35 = .ok (.aload_n 0, 1) := by decide +kernel
theorem dX8_letterOf_36 : decode cX8_letterOf 36 = .ok (.getfield 10, 3) := by decide +kernel
theorem dX8_letterOf_39 : decode cX8_letterOf 39 = .ok (.invokevirtual 196, 3) := by decide +kernel
theorem dX8_letterOf_42 : decode cX8_letterOf 42 = .ok (.istore_n 3, 1) := by decide +kernel
theorem dX8_letterOf_43 : decode cX8_letterOf 43 = .ok (.iload_n 2, 1) := by decide +kernel
theorem dX8_letterOf_44 : decode cX8_letterOf 44 = .ok (.lookupswitch 71 #[(0, 28), (1, 41)], 28) := by decide +kernel
theorem dX8_letterOf_72 : decode cX8_letterOf 72 = .ok (.aload_n 0, 1) := by decide +kernel
theorem dX8_letterOf_73 : decode cX8_letterOf 73 = .ok (.getfield 10, 3) := by decide +kernel
theorem dX8_letterOf_76 : decode cX8_letterOf 76 = .ok (.getfield 37, 3) := by decide +kernel
theorem dX8_letterOf_79 : decode cX8_letterOf 79 = .ok (.iload_n 3, 1) := by decide +kernel
theorem dX8_letterOf_80 : decode cX8_letterOf 80 = .ok (.iload_n 1, 1) := by decide +kernel
theorem dX8_letterOf_81 : decode cX8_letterOf 81 = .ok (.invokevirtual 211, 3) := by decide +kernel
theorem dX8_letterOf_84 : decode cX8_letterOf 84 = .ok (.ireturn, 1) := by decide +kernel
theorem dX8_letterOf_85 : decode cX8_letterOf 85 = .ok (.aload_n 0, 1) := by decide +kernel
theorem dX8_letterOf_86 : decode cX8_letterOf 86 = .ok (.getfield 10, 3) := by decide +kernel
theorem dX8_letterOf_89 : decode cX8_letterOf 89 = .ok (.getfield 37, 3) := by decide +kernel
theorem dX8_letterOf_92 : decode cX8_letterOf 92 = .ok (.iload_n 3, 1) := by decide +kernel
theorem dX8_letterOf_93 : decode cX8_letterOf 93 = .ok (.iload_n 1, 1) := by decide +kernel
theorem dX8_letterOf_94 : decode cX8_letterOf 94 = .ok (.invokevirtual 211, 3) := by decide +kernel
theorem dX8_letterOf_97 : decode cX8_letterOf 97 = .ok (.aload_n 0, 1) := by decide +kernel
theorem dX8_letterOf_98 : decode cX8_letterOf 98 = .ok (.getfield 10, 3) := by decide +kernel
theorem dX8_letterOf_101 : decode cX8_letterOf 101 = .ok (.getfield 37, 3) := by decide +kernel
theorem dX8_letterOf_104 : decode cX8_letterOf 104 = .ok (.iload_n 3, 1) := by decide +kernel
theorem dX8_letterOf_105 : decode cX8_letterOf 105 = .ok (.invokevirtual 205, 3) := by decide +kernel
theorem dX8_letterOf_108 : decode cX8_letterOf 108 = .ok (.invokestatic 214, 3) := by decide +kernel
theorem dX8_letterOf_111 : decode cX8_letterOf 111 = .ok (.invokestatic 218, 3) := by decide +kernel
theorem dX8_letterOf_114 : decode cX8_letterOf 114 = .ok (.ireturn, 1) := by decide +kernel
theorem dX8_letterOf_115 : decode cX8_letterOf 115 = .ok (.aload_n 0, 1) := by decide +kernel
theorem dX8_letterOf_116 : decode cX8_letterOf 116 = .ok (.getfield 10, 3) := by decide +kernel
theorem dX8_letterOf_119 : decode cX8_letterOf 119 = .ok (.getfield 37, 3) := by decide +kernel
theorem dX8_letterOf_122 : decode cX8_letterOf 122 = .ok (.iload_n 3, 1) := by decide +kernel
theorem dX8_letterOf_123 : decode cX8_letterOf 123 = .ok (.iload_n 1, 1) := by decide +kernel
theorem dX8_letterOf_124 : decode cX8_letterOf 124 = .ok (.invokevirtual 222, 3) := by decide +kernel
theorem dX8_letterOf_127 : decode cX8_letterOf 127 = .ok (.ireturn, 1) := by decide +kernel
theorem dX8_sharpest_0 : decode cX8_sharpest 0 = .ok (.aload_n 0, 1) := by decide +kernel
theorem dX8_sharpest_1 : decode cX8_sharpest 1 = .ok (.getfield 10, 3) := by decide +kernel
theorem dX8_sharpest_4 : decode cX8_sharpest 4 = .ok (.getfield 51, 3) := by decide +kernel
theorem dX8_sharpest_7 : decode cX8_sharpest 7 = .ok (.getfield 55, 3) := by decide +kernel
theorem dX8_sharpest_10 : decode cX8_sharpest 10 = .ok (.ifCond .eq 20, 3) := by decide +kernel
theorem dX8_sharpest_13 : decode cX8_sharpest 13 = .ok (.aload_n 0, 1) := by decide +kernel
theorem dX8_sharpest_14 : decode cX8_sharpest 14 = .ok (.getfield 10, 3) := by decide +kernel
theorem dX8_sharpest_17 : decode cX8_sharpest 17 = .ok (.aload_n 0, 1) := by decide +kernel
theorem dX8_sharpest_18 : decode cX8_sharpest 18 = .ok (.getfield 10, 3) := by decide +kernel
theorem dX8_sharpest_21 : decode cX8_sharpest 21 = .ok (.invokevirtual 196, 3) := by decide +kernel
theorem dX8_sharpest_24 : decode cX8_sharpest 24 = .ok (.invokevirtual 225, 3) := by decide +kernel
theorem dX8_sharpest_27 : decode cX8_sharpest 27 = .ok (.goto 5, 3) := by decide +kernel
theorem dX8_sharpest_30 : decode cX8_sharpest 30 = .ok (.bipush (-2), 2) := by decide +kernel
theorem dX8_sharpest_32 : decode cX8_sharpest 32 = .ok (.ireturn, 1) := by decide +kernel
theorem dX8_next_0 : decode cX8_next 0 = .ok (.aload_n 0, 1) := by decide +kernel
theorem dX8_next_1 : decode cX8_next 1 = .ok (.getfield 10, 3) := by decide +kernel
theorem dX8_next_4 : decode cX8_next 4 = .ok (.getfield 51, 3) := by decide +kernel
theorem dX8_next_7 : decode cX8_next 7 = .ok (.getfield 55, 3) := by decide +kernel
theorem dX8_next_10 : decode cX8_next 10 = .ok (.ifCond .ne 16, 3) := by decide +kernel
theorem dX8_next_13 : decode cX8_next 13 = .ok (.aload_n 0, 1) := by decide +kernel
theorem dX8_next_14 : decode cX8_next 14 = .ok (.getfield 10, 3) := by decide +kernel
theorem dX8_next_17 : decode cX8_next 17 = .ok (.getfield 37, 3) := by decide +kernel
theorem dX8_next_20 : decode cX8_next 20 = .ok (.getfield 228, 3) := by decide +kernel
theorem dX8_next_23 : decode cX8_next 23 = .ok (.ifCond .ne 6, 3) := by decide +kernel
theorem dX8_next_26 : decode cX8_next 26 = .ok (.bipush (-2), 2) := by decide +kernel
theorem dX8_next_28 : decode cX8_next 28 = .ok (.ireturn, 1) := by decide +kernel
theorem dX8_next_29 : decode cX8_next 29 = .ok (.aload_n 0, 1) := by decide +kernel
theorem dX8_next_30 : decode cX8_next 30 = .ok (.getfield 10, 3) := by decide +kernel
theorem dX8_next_33 : decode cX8_next 33 = .ok (.getfield 37, 3) := by decide +kernel
theorem dX8_next_36 : decode cX8_next 36 = .ok (.aload_n 0, 1) := by decide +kernel
theorem dX8_next_37 : decode cX8_next 37 = .ok (.getfield 10, 3) := by decide +kernel
theorem dX8_next_40 : decode cX8_next 40 = .ok (.getfield 100, 3) := by decide +kernel
theorem dX8_next_43 : decode cX8_next 43 = .ok (.invokestatic 229, 3) := by decide +kernel
theorem dX8_next_46 : decode cX8_next 46 = .ok (.invokevirtual 232, 3) := by decide +kernel
theorem dX8_next_49 : decode cX8_next 49 = .ok (.ireturn, 1) := by decide +kernel
theorem dX8_keep_0 : decode cX8_keep 0 = .ok (.aload_n 0, 1) := by decide +kernel
theorem dX8_keep_1 : decode cX8_keep 1 = .ok (.getfield 16, 3) := by decide +kernel
theorem dX8_keep_4 : decode cX8_keep 4 = .ok (.aload_n 0, 1) := by decide +kernel
theorem dX8_keep_5 : decode cX8_keep 5 = .ok (.getfield 10, 3) := by decide +kernel
theorem dX8_keep_8 : decode cX8_keep 8 = .ok (.invokevirtual 235, 3) := by decide +kernel
theorem dX8_keep_11 : decode cX8_keep 11 = .ok (.aload_n 0, 1) := by decide +kernel
theorem dX8_keep_12 : decode cX8_keep 12 = .ok (.iconst 1, 1) := by decide +kernel
theorem dX8_keep_13 : decode cX8_keep 13 = .ok (.putfield 33, 3) := by decide +kernel
theorem dX8_keep_16 : decode cX8_keep 16 = .ok (.aload_n 0, 1) := by decide +kernel
theorem dX8_keep_17 : decode cX8_keep 17 = .ok (.getfield 10, 3) := by decide +kernel
theorem dX8_keep_20 : decode cX8_keep 20 = .ok (.getfield 78, 3) := by decide +kernel
theorem dX8_keep_23 : decode cX8_keep 23 = .ok (.getfield 82, 3) := by decide +kernel
theorem dX8_keep_26 : decode cX8_keep 26 = .ok (.ireturn, 1) := by decide +kernel
theorem dX8_restore_0 : decode cX8_restore 0 = .ok (.aload_n 0, 1) := by decide +kernel
theorem dX8_restore_1 : decode cX8_restore 1 = .ok (.getfield 33, 3) := by decide +kernel
theorem dX8_restore_4 : decode cX8_restore 4 = .ok (.ifCond .ne 6, 3) := by decide +kernel
theorem dX8_restore_7 : decode cX8_restore 7 = .ok (.bipush (-2), 2) := by decide +kernel
theorem dX8_restore_9 : decode cX8_restore 9 = .ok (.ireturn, 1) := by decide +kernel
theorem dX8_restore_10 : decode cX8_restore 10 = .ok (.aload_n 0, 1) := by decide +kernel
theorem dX8_restore_11 : decode cX8_restore 11 = .ok (.getfield 22, 3) := by decide +kernel
theorem dX8_restore_14 : decode cX8_restore 14 = .ok (.aload_n 0, 1) := by decide +kernel
theorem dX8_restore_15 : decode cX8_restore 15 = .ok (.getfield 10, 3) := by decide +kernel
theorem dX8_restore_18 : decode cX8_restore 18 = .ok (.invokevirtual 60, 3) := by decide +kernel
theorem dX8_restore_21 : decode cX8_restore 21 = .ok (.aload_n 0, 1) := by decide +kernel
theorem dX8_restore_22 : decode cX8_restore 22 = .ok (.getfield 10, 3) := by decide +kernel
theorem dX8_restore_25 : decode cX8_restore 25 = .ok (.aload_n 0, 1) := by decide +kernel
theorem dX8_restore_26 : decode cX8_restore 26 = .ok (.getfield 16, 3) := by decide +kernel
theorem dX8_restore_29 : decode cX8_restore 29 = .ok (.invokevirtual 235, 3) := by decide +kernel
theorem dX8_restore_32 : decode cX8_restore 32 = .ok (.aload_n 0, 1) := by decide +kernel
theorem dX8_restore_33 : decode cX8_restore 33 = .ok (.getfield 10, 3) := by decide +kernel
theorem dX8_restore_36 : decode cX8_restore 36 = .ok (.getfield 78, 3) := by decide +kernel
theorem dX8_restore_39 : decode cX8_restore 39 = .ok (.getfield 82, 3) := by decide +kernel
theorem dX8_restore_42 : decode cX8_restore 42 = .ok (.ireturn, 1) := by decide +kernel
theorem dX8_undo_0 : decode cX8_undo 0 = .ok (.aload_n 0, 1) := by decide +kernel
theorem dX8_undo_1 : decode cX8_undo 1 = .ok (.getfield 22, 3) := by decide +kernel
theorem dX8_undo_4 : decode cX8_undo 4 = .ok (.getfield 238, 3) := by decide +kernel
theorem dX8_undo_7 : decode cX8_undo 7 = .ok (.ifCond .ne 6, 3) := by decide +kernel
theorem dX8_undo_10 : decode cX8_undo 10 = .ok (.bipush (-2), 2) := by decide +kernel
theorem dX8_undo_12 : decode cX8_undo 12 = .ok (.ireturn, 1) := by decide +kernel
theorem dX8_undo_13 : decode cX8_undo 13 = .ok (.aload_n 0, 1) := by decide +kernel
theorem dX8_undo_14 : decode cX8_undo 14 = .ok (.getfield 22, 3) := by decide +kernel
theorem dX8_undo_17 : decode cX8_undo 17 = .ok (.aload_n 0, 1) := by decide +kernel
theorem dX8_undo_18 : decode cX8_undo 18 = .ok (.getfield 10, 3) := by decide +kernel
theorem dX8_undo_21 : decode cX8_undo 21 = .ok (.invokevirtual 239, 3) := by decide +kernel
theorem dX8_undo_24 : decode cX8_undo 24 = .ok (.aload_n 0, 1) := by decide +kernel
theorem dX8_undo_25 : decode cX8_undo 25 = .ok (.getfield 22, 3) := by decide +kernel
theorem dX8_undo_28 : decode cX8_undo 28 = .ok (.getfield 238, 3) := by decide +kernel
theorem dX8_undo_31 : decode cX8_undo 31 = .ok (.ireturn, 1) := by decide +kernel
theorem dX8_type_0 : decode cX8_type 0 = .ok (.iload_n 1, 1) := by decide +kernel
theorem dX8_type_1 : decode cX8_type 1 = .ok (.bipush 32, 2) := by decide +kernel
theorem dX8_type_3 : decode cX8_type 3 = .ok (.bipush 126, 2) := by decide +kernel
theorem dX8_type_5 : decode cX8_type 5 = .ok (.invokestatic 47, 3) := by decide +kernel
theorem dX8_type_8 : decode cX8_type 8 = .ok (.ifCond .ne 5, 3) := by decide +kernel
theorem dX8_type_11 : decode cX8_type 11 = .ok (.iconst (-1), 1) := by decide +kernel
theorem dX8_type_12 : decode cX8_type 12 = .ok (.ireturn, 1) := by decide +kernel
theorem dX8_type_13 : decode cX8_type 13 = .ok (.aload_n 0, 1) := by decide +kernel
theorem dX8_type_14 : decode cX8_type 14 = .ok (.getfield 29, 3) := by decide +kernel
theorem dX8_type_17 : decode cX8_type 17 = .ok (.getfield 242, 3) := by decide +kernel
theorem dX8_type_20 : decode cX8_type 20 = .ok (.bipush 120, 2) := by decide +kernel
theorem dX8_type_22 : decode cX8_type 22 = .ok (.if_icmp .lt 6, 3) := by decide +kernel
theorem dX8_type_25 : decode cX8_type 25 = .ok (.bipush (-3), 2) := by decide +kernel
theorem dX8_type_27 : decode cX8_type 27 = .ok (.ireturn, 1) := by decide +kernel
theorem dX8_type_28 : decode cX8_type 28 = .ok (.aload_n 0, 1) := by decide +kernel
theorem dX8_type_29 : decode cX8_type 29 = .ok (.getfield 29, 3) := by decide +kernel
theorem dX8_type_32 : decode cX8_type 32 = .ok (.iload_n 1, 1) := by decide +kernel
theorem dX8_type_33 : decode cX8_type 33 = .ok (.invokevirtual 244, 3) := by decide +kernel
theorem dX8_type_36 : decode cX8_type 36 = .ok (.aload_n 0, 1) := by decide +kernel
theorem dX8_type_37 : decode cX8_type 37 = .ok (.getfield 29, 3) := by decide +kernel
theorem dX8_type_40 : decode cX8_type 40 = .ok (.getfield 242, 3) := by decide +kernel
theorem dX8_type_43 : decode cX8_type 43 = .ok (.ireturn, 1) := by decide +kernel
theorem dX8_clearText_0 : decode cX8_clearText 0 = .ok (.aload_n 0, 1) := by decide +kernel
theorem dX8_clearText_1 : decode cX8_clearText 1 = .ok (.getfield 29, 3) := by decide +kernel
theorem dX8_clearText_4 : decode cX8_clearText 4 = .ok (.getfield 242, 3) := by decide +kernel
theorem dX8_clearText_7 : decode cX8_clearText 7 = .ok (.istore_n 1, 1) := by decide +kernel
theorem dX8_clearText_8 : decode cX8_clearText 8 = .ok (.aload_n 0, 1) := by decide +kernel
theorem dX8_clearText_9 : decode cX8_clearText 9 = .ok (.getfield 29, 3) := by decide +kernel
theorem dX8_clearText_12 : decode cX8_clearText 12 = .ok (.iconst 0, 1) := by decide +kernel
theorem dX8_clearText_13 : decode cX8_clearText 13 = .ok (.putfield 242, 3) := by decide +kernel
theorem dX8_clearText_16 : decode cX8_clearText 16 = .ok (.iload_n 1, 1) := by decide +kernel
theorem dX8_clearText_17 : decode cX8_clearText 17 = .ok (.ireturn, 1) := by decide +kernel
theorem dX8_fault_0 : decode cX8_fault 0 = .ok (.iload_n 1, 1) := by decide +kernel
theorem dX8_fault_1 : decode cX8_fault 1 = .ok (.iconst 0, 1) := by decide +kernel
theorem dX8_fault_2 : decode cX8_fault 2 = .ok (.iconst 1, 1) := by decide +kernel
theorem dX8_fault_3 : decode cX8_fault 3 = .ok (.invokestatic 47, 3) := by decide +kernel
theorem dX8_fault_6 : decode cX8_fault 6 = .ok (.ifCond .ne 5, 3) := by decide +kernel
theorem dX8_fault_9 : decode cX8_fault 9 = .ok (.iconst (-1), 1) := by decide +kernel
theorem dX8_fault_10 : decode cX8_fault 10 = .ok (.ireturn, 1) := by decide +kernel
theorem dX8_fault_11 : decode cX8_fault 11 = .ok (.aload_n 0, 1) := by decide +kernel
theorem dX8_fault_12 : decode cX8_fault 12 = .ok (.getfield 29, 3) := by decide +kernel
theorem dX8_fault_15 : decode cX8_fault 15 = .ok (.invokevirtual 247, 3) := by decide +kernel
theorem dX8_fault_18 : decode cX8_fault 18 = .ok (.aload_n 0, 1) := by decide +kernel
theorem dX8_fault_19 : decode cX8_fault 19 = .ok (.getfield 29, 3) := by decide +kernel
theorem dX8_fault_22 : decode cX8_fault 22 = .ok (.invokevirtual 250, 3) := by decide +kernel
theorem dX8_fault_25 : decode cX8_fault 25 = .ok (.ifCond .ne 6, 3) := by decide +kernel
theorem dX8_fault_28 : decode cX8_fault 28 = .ok (.bipush (-4), 2) := by decide +kernel
theorem dX8_fault_30 : decode cX8_fault 30 = .ok (.ireturn, 1) := by decide +kernel
theorem dX8_fault_31 : decode cX8_fault 31 = .ok (.iload_n 1, 1) := by decide +kernel
theorem dX8_fault_32 : decode cX8_fault 32 = .ok (.ifCond .ne 13, 3) := by decide +kernel
theorem dX8_fault_35 : decode cX8_fault 35 = .ok (.aload_n 0, 1) := by decide +kernel
theorem dX8_fault_36 : decode cX8_fault 36 = .ok (.getfield 29, 3) := by decide +kernel
theorem dX8_fault_39 : decode cX8_fault 39 = .ok (.getfield 254, 3) := by decide +kernel
theorem dX8_fault_42 : decode cX8_fault 42 = .ok (.goto 10, 3) := by decide +kernel
theorem dX8_fault_45 : decode cX8_fault 45 = .ok (.aload_n 0, 1) := by decide +kernel
theorem dX8_fault_46 : decode cX8_fault 46 = .ok (.getfield 29, 3) := by decide +kernel
theorem dX8_fault_49 : decode cX8_fault 49 = .ok (.getfield 257, 3) := by decide +kernel
theorem dX8_fault_52 : decode cX8_fault 52 = .ok (.ireturn, 1) := by decide +kernel
theorem dX8_read_0 : decode cX8_read 0 = .ok (.aload_n 0, 1) := by decide +kernel
theorem dX8_read_1 : decode cX8_read 1 = .ok (.getfield 10, 3) := by decide +kernel
theorem dX8_read_4 : decode cX8_read 4 = .ok (.getfield 51, 3) := by decide +kernel
theorem dX8_read_7 : decode cX8_read 7 = .ok (.getfield 55, 3) := by decide +kernel
theorem dX8_read_10 : decode cX8_read 10 = .ok (.ifCond .eq 6, 3) := by decide +kernel
theorem dX8_read_13 : decode cX8_read 13 = .ok (.bipush (-2), 2) := by decide +kernel
theorem dX8_read_15 : decode cX8_read 15 = .ok (.ireturn, 1) := by decide +kernel
theorem dX8_read_16 : decode cX8_read 16 = .ok (.aload_n 0, 1) := by decide +kernel
theorem dX8_read_17 : decode cX8_read 17 = .ok (.getfield 29, 3) := by decide +kernel
theorem dX8_read_20 : decode cX8_read 20 = .ok (.invokevirtual 247, 3) := by decide +kernel
theorem dX8_read_23 : decode cX8_read 23 = .ok (.aload_n 0, 1) := by decide +kernel
theorem dX8_read_24 : decode cX8_read 24 = .ok (.getfield 29, 3) := by decide +kernel
theorem dX8_read_27 : decode cX8_read 27 = .ok (.invokevirtual 250, 3) := by decide +kernel
theorem dX8_read_30 : decode cX8_read 30 = .ok (.ifCond .eq 6, 3) := by decide +kernel
theorem dX8_read_33 : decode cX8_read 33 = .ok (.bipush (-2), 2) := by decide +kernel
theorem dX8_read_35 : decode cX8_read 35 = .ok (.ireturn, 1) := by decide +kernel
theorem dX8_read_36 : decode cX8_read 36 = .ok (.aload_n 0, 1) := by decide +kernel
theorem dX8_read_37 : decode cX8_read 37 = .ok (.getfield 22, 3) := by decide +kernel
theorem dX8_read_40 : decode cX8_read 40 = .ok (.aload_n 0, 1) := by decide +kernel
theorem dX8_read_41 : decode cX8_read 41 = .ok (.getfield 10, 3) := by decide +kernel
theorem dX8_read_44 : decode cX8_read 44 = .ok (.invokevirtual 60, 3) := by decide +kernel
theorem dX8_read_47 : decode cX8_read 47 = .ok (.aload_n 0, 1) := by decide +kernel
theorem dX8_read_48 : decode cX8_read 48 = .ok (.getfield 10, 3) := by decide +kernel
theorem dX8_read_51 : decode cX8_read 51 = .ok (.getfield 37, 3) := by decide +kernel
theorem dX8_read_54 : decode cX8_read 54 = .ok (.aload_n 0, 1) := by decide +kernel
theorem dX8_read_55 : decode cX8_read 55 = .ok (.getfield 29, 3) := by decide +kernel
theorem dX8_read_58 : decode cX8_read 58 = .ok (.getfield 260, 3) := by decide +kernel
theorem dX8_read_61 : decode cX8_read 61 = .ok (.invokevirtual 263, 3) := by decide +kernel
theorem dX8_read_64 : decode cX8_read 64 = .ok (.aload_n 0, 1) := by decide +kernel
theorem dX8_read_65 : decode cX8_read 65 = .ok (.getfield 10, 3) := by decide +kernel
theorem dX8_read_68 : decode cX8_read 68 = .ok (.getfield 37, 3) := by decide +kernel
theorem dX8_read_71 : decode cX8_read 71 = .ok (.getfield 228, 3) := by decide +kernel
theorem dX8_read_74 : decode cX8_read 74 = .ok (.ireturn, 1) := by decide +kernel
theorem dX8_fitOf_0 : decode cX8_fitOf 0 = .ok (.aload_n 0, 1) := by decide +kernel
theorem dX8_fitOf_1 : decode cX8_fitOf 1 = .ok (.getfield 10, 3) := by decide +kernel
theorem dX8_fitOf_4 : decode cX8_fitOf 4 = .ok (.getfield 51, 3) := by decide +kernel
theorem dX8_fitOf_7 : decode cX8_fitOf 7 = .ok (.getfield 55, 3) := by decide +kernel
theorem dX8_fitOf_10 : decode cX8_fitOf 10 = .ok (.ifCond .ne 6, 3) := by decide +kernel
theorem dX8_fitOf_13 : decode cX8_fitOf 13 = .ok (.bipush (-4), 2) := by decide +kernel
theorem dX8_fitOf_15 : decode cX8_fitOf 15 = .ok (.ireturn, 1) := by decide +kernel
theorem dX8_fitOf_16 : decode cX8_fitOf 16 = .ok (.aload_n 0, 1) := by decide +kernel
theorem dX8_fitOf_17 : decode cX8_fitOf 17 = .ok (.getfield 10, 3) := by decide +kernel
theorem dX8_fitOf_20 : decode cX8_fitOf 20 = .ok (.invokevirtual 196, 3) := by decide +kernel
theorem dX8_fitOf_23 : decode cX8_fitOf 23 = .ok (.iload_n 1, 1) := by decide +kernel
theorem dX8_fitOf_24 : decode cX8_fitOf 24 = .ok (.invokestatic 170, 3) := by decide +kernel
theorem dX8_fitOf_27 : decode cX8_fitOf 27 = .ok (.ifCond .eq 7, 3) := by decide +kernel
theorem dX8_fitOf_30 : decode cX8_fitOf 30 = .ok (.iconst 1, 1) := by decide +kernel
theorem dX8_fitOf_31 : decode cX8_fitOf 31 = .ok (.goto 4, 3) := by decide +kernel
theorem dX8_fitOf_34 : decode cX8_fitOf 34 = .ok (.iconst 0, 1) := by decide +kernel
theorem dX8_fitOf_35 : decode cX8_fitOf 35 = .ok (.ireturn, 1) := by decide +kernel
theorem dX8_letterAtCode_0 : decode cX8_letterAtCode 0 = .ok (.iload_n 2, 1) := by decide +kernel
theorem dX8_letterAtCode_1 : decode cX8_letterAtCode 1 = .ok (.bipush 10, 2) := by decide +kernel
theorem dX8_letterAtCode_3 : decode cX8_letterAtCode 3 = .ok (.bipush 10, 2) := by decide +kernel
theorem dX8_letterAtCode_5 : decode cX8_letterAtCode 5 = .ok (.aload_n 0, 1) := by decide +kernel
theorem dX8_letterAtCode_6 : decode cX8_letterAtCode 6 = .ok (.getfield 10, 3) := by decide +kernel
theorem dX8_letterAtCode_9 : decode cX8_letterAtCode 9 = .ok (.getfield 37, 3) := by decide +kernel
theorem dX8_letterAtCode_12 : decode cX8_letterAtCode 12 = .ok (.getfield 110, 3) := by decide +kernel
theorem dX8_letterAtCode_15 : decode cX8_letterAtCode 15 = .ok (.iload_n 1, 1) := by decide +kernel
theorem dX8_letterAtCode_16 : decode cX8_letterAtCode 16 = .ok (.invokevirtual 68, 3) := by decide +kernel
theorem dX8_letterAtCode_19 : decode cX8_letterAtCode 19 = .ok (.iadd, 1) := by decide +kernel
theorem dX8_letterAtCode_20 : decode cX8_letterAtCode 20 = .ok (.iconst 1, 1) := by decide +kernel
theorem dX8_letterAtCode_21 : decode cX8_letterAtCode 21 = .ok (.isub, 1) := by decide +kernel
theorem dX8_letterAtCode_22 : decode cX8_letterAtCode 22 = .ok (.invokestatic 47, 3) := by decide +kernel
theorem dX8_letterAtCode_25 : decode cX8_letterAtCode 25 = .ok (.ifCond .ne 5, 3) := by decide +kernel
theorem dX8_letterAtCode_28 : decode cX8_letterAtCode 28 = .ok (.iconst (-1), 1) := by decide +kernel
theorem dX8_letterAtCode_29 : decode cX8_letterAtCode 29 = .ok (.ireturn, 1) := by decide +kernel
theorem dX8_letterAtCode_30 : decode cX8_letterAtCode 30 = .ok (.aload_n 0, 1) := by decide +kernel
theorem dX8_letterAtCode_31 : decode cX8_letterAtCode 31 = .ok (.getfield 10, 3) := by decide +kernel
theorem dX8_letterAtCode_34 : decode cX8_letterAtCode 34 = .ok (.getfield 37, 3) := by decide +kernel
theorem dX8_letterAtCode_37 : decode cX8_letterAtCode 37 = .ok (.iload_n 1, 1) := by decide +kernel
theorem dX8_letterAtCode_38 : decode cX8_letterAtCode 38 = .ok (.iload_n 2, 1) := by decide +kernel
theorem dX8_letterAtCode_39 : decode cX8_letterAtCode 39 = .ok (.bipush 10, 2) := by decide +kernel
theorem dX8_letterAtCode_41 : decode cX8_letterAtCode 41 = .ok (.isub, 1) := by decide +kernel
theorem dX8_letterAtCode_42 : decode cX8_letterAtCode 42 = .ok (.invokevirtual 164, 3) := by decide +kernel
theorem dX8_letterAtCode_45 : decode cX8_letterAtCode 45 = .ok (.ireturn, 1) := by decide +kernel
theorem dX8_countOfRound_0 : decode cX8_countOfRound 0 = .ok (.iload_n 1, 1) := by decide +kernel
theorem dX8_countOfRound_1 : decode cX8_countOfRound 1 = .ok (.tableswitch 75 3 6 #[31, 42, 53, 64], 31) := by decide +kernel
theorem dX8_countOfRound_32 : decode cX8_countOfRound 32 = .ok (.aload_n 0, 1) := by decide +kernel
theorem dX8_countOfRound_33 : decode cX8_countOfRound 33 = .ok (.getfield 10, 3) := by decide +kernel
theorem dX8_countOfRound_36 : decode cX8_countOfRound 36 = .ok (.getfield 51, 3) := by decide +kernel
theorem dX8_countOfRound_39 : decode cX8_countOfRound 39 = .ok (.getfield 266, 3) := by decide +kernel
theorem dX8_countOfRound_42 : decode cX8_countOfRound 42 = .ok (.ireturn, 1) := by decide +kernel
theorem dX8_countOfRound_43 : decode cX8_countOfRound 43 = .ok (.aload_n 0, 1) := by decide +kernel
theorem dX8_countOfRound_44 : decode cX8_countOfRound 44 = .ok (.getfield 10, 3) := by decide +kernel
theorem dX8_countOfRound_47 : decode cX8_countOfRound 47 = .ok (.getfield 51, 3) := by decide +kernel
theorem dX8_countOfRound_50 : decode cX8_countOfRound 50 = .ok (.getfield 269, 3) := by decide +kernel
theorem dX8_countOfRound_53 : decode cX8_countOfRound 53 = .ok (.ireturn, 1) := by decide +kernel
theorem dX8_countOfRound_54 : decode cX8_countOfRound 54 = .ok (.aload_n 0, 1) := by decide +kernel
theorem dX8_countOfRound_55 : decode cX8_countOfRound 55 = .ok (.getfield 10, 3) := by decide +kernel
theorem dX8_countOfRound_58 : decode cX8_countOfRound 58 = .ok (.getfield 51, 3) := by decide +kernel
theorem dX8_countOfRound_61 : decode cX8_countOfRound 61 = .ok (.getfield 272, 3) := by decide +kernel
theorem dX8_countOfRound_64 : decode cX8_countOfRound 64 = .ok (.ireturn, 1) := by decide +kernel
theorem dX8_countOfRound_65 : decode cX8_countOfRound 65 = .ok (.aload_n 0, 1) := by decide +kernel
theorem dX8_countOfRound_66 : decode cX8_countOfRound 66 = .ok (.getfield 10, 3) := by decide +kernel
theorem dX8_countOfRound_69 : decode cX8_countOfRound 69 = .ok (.getfield 51, 3) := by decide +kernel
theorem dX8_countOfRound_72 : decode cX8_countOfRound 72 = .ok (.getfield 167, 3) := by decide +kernel
theorem dX8_countOfRound_75 : decode cX8_countOfRound 75 = .ok (.ireturn, 1) := by decide +kernel
theorem dX8_countOfRound_76 : decode cX8_countOfRound 76 = .ok (.aload_n 0, 1) := by decide +kernel
theorem dX8_countOfRound_77 : decode cX8_countOfRound 77 = .ok (.getfield 10, 3) := by decide +kernel
theorem dX8_countOfRound_80 : decode cX8_countOfRound 80 = .ok (.invokevirtual 274, 3) := by decide +kernel
theorem dX8_countOfRound_83 : decode cX8_countOfRound 83 = .ok (.ireturn, 1) := by decide +kernel
theorem dX8_countOfHall_0 : decode cX8_countOfHall 0 = .ok (.iload_n 1, 1) := by decide +kernel
theorem dX8_countOfHall_1 : decode cX8_countOfHall 1 = .ok (.tableswitch 180 0 14 #[75, 86, 97, 180, 180, 180, 180, 180, 116, 124, 132, 140, 151, 159, 167], 75) := by decide +kernel
theorem dX8_countOfHall_76 : decode cX8_countOfHall 76 = .ok (.aload_n 0, 1) := by decide +kernel
theorem dX8_countOfHall_77 : decode cX8_countOfHall 77 = .ok (.getfield 10, 3) := by decide +kernel
theorem dX8_countOfHall_80 : decode cX8_countOfHall 80 = .ok (.getfield 37, 3) := by decide +kernel
theorem dX8_countOfHall_83 : decode cX8_countOfHall 83 = .ok (.getfield 228, 3) := by decide +kernel
theorem dX8_countOfHall_86 : decode cX8_countOfHall 86 = .ok (.ireturn, 1) := by decide +kernel
theorem dX8_countOfHall_87 : decode cX8_countOfHall 87 = .ok (.aload_n 0, 1) := by decide +kernel
theorem dX8_countOfHall_88 : decode cX8_countOfHall 88 = .ok (.getfield 10, 3) := by decide +kernel
theorem dX8_countOfHall_91 : decode cX8_countOfHall 91 = .ok (.getfield 78, 3) := by decide +kernel
theorem dX8_countOfHall_94 : decode cX8_countOfHall 94 = .ok (.getfield 82, 3) := by decide +kernel
theorem dX8_countOfHall_97 : decode cX8_countOfHall 97 = .ok (.ireturn, 1) := by decide +kernel
theorem dX8_countOfHall_98 : decode cX8_countOfHall 98 = .ok (.aload_n 0, 1) := by decide +kernel
theorem dX8_countOfHall_99 : decode cX8_countOfHall 99 = .ok (.getfield 10, 3) := by decide +kernel
theorem dX8_countOfHall_102 : decode cX8_countOfHall 102 = .ok (.getfield 51, 3) := by decide +kernel
theorem dX8_countOfHall_105 : decode cX8_countOfHall 105 = .ok (.getfield 55, 3) := by decide +kernel
theorem dX8_countOfHall_108 : decode cX8_countOfHall 108 = .ok (.ifCond .eq 7, 3) := by decide +kernel
theorem dX8_countOfHall_111 : decode cX8_countOfHall 111 = .ok (.iconst 1, 1) := by decide +kernel
theorem dX8_countOfHall_112 : decode cX8_countOfHall 112 = .ok (.goto 4, 3) := by decide +kernel
theorem dX8_countOfHall_115 : decode cX8_countOfHall 115 = .ok (.iconst 0, 1) := by decide +kernel
theorem dX8_countOfHall_116 : decode cX8_countOfHall 116 = .ok (.ireturn, 1) := by decide +kernel
theorem dX8_countOfHall_117 : decode cX8_countOfHall 117 = .ok (.aload_n 0, 1) := by decide +kernel
theorem dX8_countOfHall_118 : decode cX8_countOfHall 118 = .ok (.getfield 10, 3) := by decide +kernel
theorem dX8_countOfHall_121 : decode cX8_countOfHall 121 = .ok (.getfield 277, 3) := by decide +kernel
theorem dX8_countOfHall_124 : decode cX8_countOfHall 124 = .ok (.ireturn, 1) := by decide +kernel
theorem dX8_countOfHall_125 : decode cX8_countOfHall 125 = .ok (.aload_n 0, 1) := by decide +kernel
theorem dX8_countOfHall_126 : decode cX8_countOfHall 126 = .ok (.getfield 10, 3) := by decide +kernel
theorem dX8_countOfHall_129 : decode cX8_countOfHall 129 = .ok (.getfield 280, 3) := by decide +kernel
theorem dX8_countOfHall_132 : decode cX8_countOfHall 132 = .ok (.ireturn, 1) := by decide +kernel
theorem dX8_countOfHall_133 : decode cX8_countOfHall 133 = .ok (.aload_n 0, 1) := by decide +kernel
theorem dX8_countOfHall_134 : decode cX8_countOfHall 134 = .ok (.getfield 10, 3) := by decide +kernel
theorem dX8_countOfHall_137 : decode cX8_countOfHall 137 = .ok (.getfield 100, 3) := by decide +kernel
theorem dX8_countOfHall_140 : decode cX8_countOfHall 140 = .ok (.ireturn, 1) := by decide +kernel
theorem dX8_countOfHall_141 : decode cX8_countOfHall 141 = .ok (.aload_n 0, 1) := by decide +kernel
theorem dX8_countOfHall_142 : decode cX8_countOfHall 142 = .ok (.getfield 10, 3) := by decide +kernel
theorem dX8_countOfHall_145 : decode cX8_countOfHall 145 = .ok (.getfield 37, 3) := by decide +kernel
theorem dX8_countOfHall_148 : decode cX8_countOfHall 148 = .ok (.invokevirtual 283, 3) := by decide +kernel
theorem dX8_countOfHall_151 : decode cX8_countOfHall 151 = .ok (.ireturn, 1) := by decide +kernel
theorem dX8_countOfHall_152 : decode cX8_countOfHall 152 = .ok (.aload_n 0, 1) := by decide +kernel
theorem dX8_countOfHall_153 : decode cX8_countOfHall 153 = .ok (.getfield 22, 3) := by decide +kernel
theorem dX8_countOfHall_156 : decode cX8_countOfHall 156 = .ok (.getfield 238, 3) := by decide +kernel
theorem dX8_countOfHall_159 : decode cX8_countOfHall 159 = .ok (.ireturn, 1) := by decide +kernel
theorem dX8_countOfHall_160 : decode cX8_countOfHall 160 = .ok (.aload_n 0, 1) := by decide +kernel
theorem dX8_countOfHall_161 : decode cX8_countOfHall 161 = .ok (.getfield 29, 3) := by decide +kernel
theorem dX8_countOfHall_164 : decode cX8_countOfHall 164 = .ok (.getfield 242, 3) := by decide +kernel
theorem dX8_countOfHall_167 : decode cX8_countOfHall 167 = .ok (.ireturn, 1) := by decide +kernel
theorem dX8_countOfHall_168 : decode cX8_countOfHall 168 = .ok (.aload_n 0, 1) := by decide +kernel
theorem dX8_countOfHall_169 : decode cX8_countOfHall 169 = .ok (.getfield 33, 3) := by decide +kernel
theorem dX8_countOfHall_172 : decode cX8_countOfHall 172 = .ok (.ifCond .eq 7, 3) := by decide +kernel
theorem dX8_countOfHall_175 : decode cX8_countOfHall 175 = .ok (.iconst 1, 1) := by decide +kernel
theorem dX8_countOfHall_176 : decode cX8_countOfHall 176 = .ok (.goto 4, 3) := by decide +kernel
theorem dX8_countOfHall_179 : decode cX8_countOfHall 179 = .ok (.iconst 0, 1) := by decide +kernel
theorem dX8_countOfHall_180 : decode cX8_countOfHall 180 = .ok (.ireturn, 1) := by decide +kernel
theorem dX8_countOfHall_181 : decode cX8_countOfHall 181 = .ok (.aload_n 0, 1) := by decide +kernel
theorem dX8_countOfHall_182 : decode cX8_countOfHall 182 = .ok (.getfield 10, 3) := by decide +kernel
theorem dX8_countOfHall_185 : decode cX8_countOfHall 185 = .ok (.getfield 97, 3) := by decide +kernel
theorem dX8_countOfHall_188 : decode cX8_countOfHall 188 = .ok (.ireturn, 1) := by decide +kernel
theorem dX8_isBetween_0 : decode cX8_isBetween 0 = .ok (.iload_n 0, 1) := by decide +kernel
theorem dX8_isBetween_1 : decode cX8_isBetween 1 = .ok (.iload_n 1, 1) := by decide +kernel
theorem dX8_isBetween_2 : decode cX8_isBetween 2 = .ok (.if_icmp .lt 12, 3) := by decide +kernel
theorem dX8_isBetween_5 : decode cX8_isBetween 5 = .ok (.iload_n 0, 1) := by decide +kernel
theorem dX8_isBetween_6 : decode cX8_isBetween 6 = .ok (.iload_n 2, 1) := by decide +kernel
theorem dX8_isBetween_7 : decode cX8_isBetween 7 = .ok (.if_icmp .gt 7, 3) := by decide +kernel
theorem dX8_isBetween_10 : decode cX8_isBetween 10 = .ok (.iconst 1, 1) := by decide +kernel
theorem dX8_isBetween_11 : decode cX8_isBetween 11 = .ok (.goto 4, 3) := by decide +kernel
theorem dX8_isBetween_14 : decode cX8_isBetween 14 = .ok (.iconst 0, 1) := by decide +kernel
theorem dX8_isBetween_15 : decode cX8_isBetween 15 = .ok (.ireturn, 1) := by decide +kernel
theorem dX8_isLetter_0 : decode cX8_isLetter 0 = .ok (.iload_n 0, 1) := by decide +kernel
theorem dX8_isLetter_1 : decode cX8_isLetter 1 = .ok (.iconst 0, 1) := by decide +kernel
theorem dX8_isLetter_2 : decode cX8_isLetter 2 = .ok (.bipush 25, 2) := by decide +kernel
theorem dX8_isLetter_4 : decode cX8_isLetter 4 = .ok (.invokestatic 47, 3) := by decide +kernel
theorem dX8_isLetter_7 : decode cX8_isLetter 7 = .ok (.ireturn, 1) := by decide +kernel
theorem dX8_holds_0 : decode cX8_holds 0 = .ok (.iload_n 0, 1) := by decide +kernel
theorem dX8_holds_1 : decode cX8_holds 1 = .ok (.iconst 1, 1) := by decide +kernel
theorem dX8_holds_2 : decode cX8_holds 2 = .ok (.iload_n 1, 1) := by decide +kernel
theorem dX8_holds_3 : decode cX8_holds 3 = .ok (.ishl, 1) := by decide +kernel
theorem dX8_holds_4 : decode cX8_holds 4 = .ok (.iand, 1) := by decide +kernel
theorem dX8_holds_5 : decode cX8_holds 5 = .ok (.ifCond .eq 7, 3) := by decide +kernel
theorem dX8_holds_8 : decode cX8_holds 8 = .ok (.iconst 1, 1) := by decide +kernel
theorem dX8_holds_9 : decode cX8_holds 9 = .ok (.goto 4, 3) := by decide +kernel
theorem dX8_holds_12 : decode cX8_holds 12 = .ok (.iconst 0, 1) := by decide +kernel
theorem dX8_holds_13 : decode cX8_holds 13 = .ok (.ireturn, 1) := by decide +kernel
theorem dX8_numberBehind_0 : decode cX8_numberBehind 0 = .ok (.iload_n 0, 1) := by decide +kernel
theorem dX8_numberBehind_1 : decode cX8_numberBehind 1 = .ok (.i2l, 1) := by decide +kernel
theorem dX8_numberBehind_2 : decode cX8_numberBehind 2 = .ok (.ldc2_w 286, 3) := by decide +kernel
theorem dX8_numberBehind_5 : decode cX8_numberBehind 5 = .ok (.lmul, 1) := by decide +kernel
theorem dX8_numberBehind_6 : decode cX8_numberBehind 6 = .ok (.ldc2_w 288, 3) := by decide +kernel
theorem dX8_numberBehind_9 : decode cX8_numberBehind 9 = .ok (.ladd, 1) := by decide +kernel
theorem dX8_numberBehind_10 : decode cX8_numberBehind 10 = .ok (.ldc2_w 290, 3) := by decide +kernel
theorem dX8_numberBehind_13 : decode cX8_numberBehind 13 = .ok (.lrem, 1) := by decide +kernel
theorem dX8_numberBehind_14 : decode cX8_numberBehind 14 = .ok (.l2i, 1) := by decide +kernel
theorem dX8_numberBehind_15 : decode cX8_numberBehind 15 = .ok (.ireturn, 1) := by decide +kernel
theorem dX8_chanceOf_0 : decode cX8_chanceOf 0 = .ok (.iload_n 1, 1) := by decide +kernel
theorem dX8_chanceOf_1 : decode cX8_chanceOf 1 = .ok (.ifCond .le 11, 3) := by decide +kernel
theorem dX8_chanceOf_4 : decode cX8_chanceOf 4 = .ok (.iload_n 0, 1) := by decide +kernel
theorem dX8_chanceOf_5 : decode cX8_chanceOf 5 = .ok (.i2f, 1) := by decide +kernel
theorem dX8_chanceOf_6 : decode cX8_chanceOf 6 = .ok (.iload_n 1, 1) := by decide +kernel
theorem dX8_chanceOf_7 : decode cX8_chanceOf 7 = .ok (.i2f, 1) := by decide +kernel
theorem dX8_chanceOf_8 : decode cX8_chanceOf 8 = .ok (.fdiv, 1) := by decide +kernel
theorem dX8_chanceOf_9 : decode cX8_chanceOf 9 = .ok (.goto 4, 3) := by decide +kernel
theorem dX8_chanceOf_12 : decode cX8_chanceOf 12 = .ok (.fconst 0, 1) := by decide +kernel
theorem dX8_chanceOf_13 : decode cX8_chanceOf 13 = .ok (.freturn, 1) := by decide +kernel
theorem dX8_bitsOf_0 : decode cX8_bitsOf 0 = .ok (.fload_n 0, 1) := by decide +kernel
theorem dX8_bitsOf_1 : decode cX8_bitsOf 1 = .ok (.fconst 0, 1) := by decide +kernel
theorem dX8_bitsOf_2 : decode cX8_bitsOf 2 = .ok (.fcmp .l, 1) := by decide +kernel
theorem dX8_bitsOf_3 : decode cX8_bitsOf 3 = .ok (.ifCond .gt 5, 3) := by decide +kernel
theorem dX8_bitsOf_6 : decode cX8_bitsOf 6 = .ok (.iconst 0, 1) := by decide +kernel
theorem dX8_bitsOf_7 : decode cX8_bitsOf 7 = .ok (.ireturn, 1) := by decide +kernel
theorem dX8_bitsOf_8 : decode cX8_bitsOf 8 = .ok (.fload_n 0, 1) := by decide +kernel
theorem dX8_bitsOf_9 : decode cX8_bitsOf 9 = .ok (.fstore_n 1, 1) := by decide +kernel
theorem dX8_bitsOf_10 : decode cX8_bitsOf 10 = .ok (.bipush 127, 2) := by decide +kernel
theorem dX8_bitsOf_12 : decode cX8_bitsOf 12 = .ok (.istore_n 2, 1) := by decide +kernel
theorem dX8_bitsOf_13 : decode cX8_bitsOf 13 = .ok (.iconst 0, 1) := by decide +kernel
theorem dX8_bitsOf_14 : decode cX8_bitsOf 14 = .ok (.istore_n 3, 1) := by decide +kernel
theorem dX8_bitsOf_15 : decode cX8_bitsOf 15 = .ok (.iload_n 3, 1) := by decide +kernel
theorem dX8_bitsOf_16 : decode cX8_bitsOf 16 = .ok (.bipush 126, 2) := by decide +kernel
theorem dX8_bitsOf_18 : decode cX8_bitsOf 18 = .ok (.if_icmp .ge 22, 3) := by decide +kernel
theorem dX8_bitsOf_21 : decode cX8_bitsOf 21 = .ok (.fload_n 1, 1) := by decide +kernel
theorem dX8_bitsOf_22 : decode cX8_bitsOf 22 = .ok (.fconst 1, 1) := by decide +kernel
theorem dX8_bitsOf_23 : decode cX8_bitsOf 23 = .ok (.fcmp .g, 1) := by decide +kernel
theorem dX8_bitsOf_24 : decode cX8_bitsOf 24 = .ok (.ifCond .ge 16, 3) := by decide +kernel
theorem dX8_bitsOf_27 : decode cX8_bitsOf 27 = .ok (.fload_n 1, 1) := by decide +kernel
theorem dX8_bitsOf_28 : decode cX8_bitsOf 28 = .ok (.fconst 2, 1) := by decide +kernel
theorem dX8_bitsOf_29 : decode cX8_bitsOf 29 = .ok (.fmul, 1) := by decide +kernel
theorem dX8_bitsOf_30 : decode cX8_bitsOf 30 = .ok (.fstore_n 1, 1) := by decide +kernel
theorem dX8_bitsOf_31 : decode cX8_bitsOf 31 = .ok (.iinc 2 (-1), 3) := by decide +kernel
theorem dX8_bitsOf_34 : decode cX8_bitsOf 34 = .ok (.iinc 3 1, 3) := by decide +kernel
theorem dX8_bitsOf_37 : decode cX8_bitsOf 37 = .ok (.goto (-22), 3) := by decide +kernel
theorem dX8_bitsOf_40 : decode cX8_bitsOf 40 = .ok (.iload_n 2, 1) := by decide +kernel
theorem dX8_bitsOf_41 : decode cX8_bitsOf 41 = .ok (.bipush 23, 2) := by decide +kernel
theorem dX8_bitsOf_43 : decode cX8_bitsOf 43 = .ok (.ishl, 1) := by decide +kernel
theorem dX8_bitsOf_44 : decode cX8_bitsOf 44 = .ok (.fload_n 1, 1) := by decide +kernel
theorem dX8_bitsOf_45 : decode cX8_bitsOf 45 = .ok (.fconst 1, 1) := by decide +kernel
theorem dX8_bitsOf_46 : decode cX8_bitsOf 46 = .ok (.fsub, 1) := by decide +kernel
theorem dX8_bitsOf_47 : decode cX8_bitsOf 47 = .ok (.ldc_w 292, 3) := by decide +kernel
theorem dX8_bitsOf_50 : decode cX8_bitsOf 50 = .ok (.fmul, 1) := by decide +kernel
theorem dX8_bitsOf_51 : decode cX8_bitsOf 51 = .ok (.f2i, 1) := by decide +kernel
theorem dX8_bitsOf_52 : decode cX8_bitsOf 52 = .ok (.iadd, 1) := by decide +kernel
theorem dX8_bitsOf_53 : decode cX8_bitsOf 53 = .ok (.ireturn, 1) := by decide +kernel
theorem dX9_init_0 : decode cX9_init 0 = .ok (.aload_n 0, 1) := by decide +kernel
theorem dX9_init_1 : decode cX9_init 1 = .ok (.invokespecial 1, 3) := by decide +kernel
theorem dX9_init_4 : decode cX9_init 4 = .ok (.aload_n 0, 1) := by decide +kernel
theorem dX9_init_5 : decode cX9_init 5 = .ok (.sipush 246, 3) := by decide +kernel
theorem dX9_init_8 : decode cX9_init 8 = .ok (.newarray .int, 2) := by decide +kernel
theorem dX9_init_10 : decode cX9_init 10 = .ok (.putfield 7, 3) := by decide +kernel
theorem dX9_init_13 : decode cX9_init 13 = .ok (.aload_n 0, 1) := by decide +kernel
theorem dX9_init_14 : decode cX9_init 14 = .ok (.sipush 984, 3) := by decide +kernel
theorem dX9_init_17 : decode cX9_init 17 = .ok (.newarray .int, 2) := by decide +kernel
theorem dX9_init_19 : decode cX9_init 19 = .ok (.putfield 13, 3) := by decide +kernel
theorem dX9_init_22 : decode cX9_init 22 = .ok (.aload_n 0, 1) := by decide +kernel
theorem dX9_init_23 : decode cX9_init 23 = .ok (.sipush 246, 3) := by decide +kernel
theorem dX9_init_26 : decode cX9_init 26 = .ok (.newarray .int, 2) := by decide +kernel
theorem dX9_init_28 : decode cX9_init 28 = .ok (.putfield 16, 3) := by decide +kernel
theorem dX9_init_31 : decode cX9_init 31 = .ok (.aload_n 0, 1) := by decide +kernel
theorem dX9_init_32 : decode cX9_init 32 = .ok (.bipush 120, 2) := by decide +kernel
theorem dX9_init_34 : decode cX9_init 34 = .ok (.newarray .int, 2) := by decide +kernel
theorem dX9_init_36 : decode cX9_init 36 = .ok (.putfield 19, 3) := by decide +kernel
theorem dX9_init_39 : decode cX9_init 39 = .ok (.aload_n 0, 1) := by decide +kernel
theorem dX9_init_40 : decode cX9_init 40 = .ok (.sipush 160, 3) := by decide +kernel
theorem dX9_init_43 : decode cX9_init 43 = .ok (.newarray .int, 2) := by decide +kernel
theorem dX9_init_45 : decode cX9_init 45 = .ok (.putfield 22, 3) := by decide +kernel
theorem dX9_init_48 : decode cX9_init 48 = .ok (.aload_n 0, 1) := by decide +kernel
theorem dX9_init_49 : decode cX9_init 49 = .ok (.getfield 7, 3) := by decide +kernel
theorem dX9_init_52 : decode cX9_init 52 = .ok (.bipush 10, 2) := by decide +kernel
theorem dX9_init_54 : decode cX9_init 54 = .ok (.iconst 1, 1) := by decide +kernel
theorem dX9_init_55 : decode cX9_init 55 = .ok (.iastore, 1) := by decide +kernel
theorem dX9_init_56 : decode cX9_init 56 = .ok (.aload_n 0, 1) := by decide +kernel
theorem dX9_init_57 : decode cX9_init 57 = .ok (.getfield 7, 3) := by decide +kernel
theorem dX9_init_60 : decode cX9_init 60 = .ok (.bipush 11, 2) := by decide +kernel
theorem dX9_init_62 : decode cX9_init 62 = .ok (.bipush 7, 2) := by decide +kernel
theorem dX9_init_64 : decode cX9_init 64 = .ok (.iastore, 1) := by decide +kernel
theorem dX9_init_65 : decode cX9_init 65 = .ok (.aload_n 0, 1) := by decide +kernel
theorem dX9_init_66 : decode cX9_init 66 = .ok (.getfield 7, 3) := by decide +kernel
theorem dX9_init_69 : decode cX9_init 69 = .ok (.bipush 12, 2) := by decide +kernel
theorem dX9_init_71 : decode cX9_init 71 = .ok (.iconst (-1), 1) := by decide +kernel
theorem dX9_init_72 : decode cX9_init 72 = .ok (.iastore, 1) := by decide +kernel
theorem dX9_init_73 : decode cX9_init 73 = .ok (.return_, 1) := by decide +kernel
theorem dX9_in_0 : decode cX9_in 0 = .ok (.iload_n 0, 1) := by decide +kernel
theorem dX9_in_1 : decode cX9_in 1 = .ok (.iload_n 1, 1) := by decide +kernel
theorem dX9_in_2 : decode cX9_in 2 = .ok (.if_icmp .lt 12, 3) := by decide +kernel
theorem dX9_in_5 : decode cX9_in 5 = .ok (.iload_n 0, 1) := by decide +kernel
theorem dX9_in_6 : decode cX9_in 6 = .ok (.iload_n 2, 1) := by decide +kernel
theorem dX9_in_7 : decode cX9_in 7 = .ok (.if_icmp .gt 7, 3) := by decide +kernel
theorem dX9_in_10 : decode cX9_in 10 = .ok (.iconst 1, 1) := by decide +kernel
theorem dX9_in_11 : decode cX9_in 11 = .ok (.goto 4, 3) := by decide +kernel
theorem dX9_in_14 : decode cX9_in 14 = .ok (.iconst 0, 1) := by decide +kernel
theorem dX9_in_15 : decode cX9_in 15 = .ok (.ireturn, 1) := by decide +kernel
theorem dX9_copies_0 : decode cX9_copies 0 = .ok (.iconst 0, 1) := by decide +kernel
theorem dX9_copies_1 : decode cX9_copies 1 = .ok (.istore_n 2, 1) := by decide +kernel
theorem dX9_copies_2 : decode cX9_copies 2 = .ok (.iload_n 2, 1) := by decide +kernel
theorem dX9_copies_3 : decode cX9_copies 3 = .ok (.sipush 246, 3) := by decide +kernel
theorem dX9_copies_6 : decode cX9_copies 6 = .ok (.if_icmp .ge 15, 3) := by decide +kernel
theorem dX9_copies_9 : decode cX9_copies 9 = .ok (.aload_n 1, 1) := by decide +kernel
theorem dX9_copies_10 : decode cX9_copies 10 = .ok (.iload_n 2, 1) := by decide +kernel
theorem dX9_copies_11 : decode cX9_copies 11 = .ok (.aload_n 0, 1) := by decide +kernel
theorem dX9_copies_12 : decode cX9_copies 12 = .ok (.iload_n 2, 1) := by decide +kernel
theorem dX9_copies_13 : decode cX9_copies 13 = .ok (.iaload, 1) := by decide +kernel
theorem dX9_copies_14 : decode cX9_copies 14 = .ok (.iastore, 1) := by decide +kernel
theorem dX9_copies_15 : decode cX9_copies 15 = .ok (.iinc 2 1, 3) := by decide +kernel
theorem dX9_copies_18 : decode cX9_copies 18 = .ok (.goto (-16), 3) := by decide +kernel
theorem dX9_copies_21 : decode cX9_copies 21 = .ok (.return_, 1) := by decide +kernel
theorem dX9_changes_0 : decode cX9_changes 0 = .ok (.aload_n 0, 1) := by decide +kernel
theorem dX9_changes_1 : decode cX9_changes 1 = .ok (.getfield 25, 3) := by decide +kernel
theorem dX9_changes_4 : decode cX9_changes 4 = .ok (.iconst 4, 1) := by decide +kernel
theorem dX9_changes_5 : decode cX9_changes 5 = .ok (.if_icmp .ne 44, 3) := by decide +kernel
theorem dX9_changes_8 : decode cX9_changes 8 = .ok (.iconst 0, 1) := by decide +kernel
theorem dX9_changes_9 : decode cX9_changes 9 = .ok (.istore_n 1, 1) := by decide +kernel
theorem dX9_changes_10 : decode cX9_changes 10 = .ok (.iload_n 1, 1) := by decide +kernel
theorem dX9_changes_11 : decode cX9_changes 11 = .ok (.sipush 738, 3) := by decide +kernel
theorem dX9_changes_14 : decode cX9_changes 14 = .ok (.if_icmp .ge 25, 3) := by decide +kernel
theorem dX9_changes_17 : decode cX9_changes 17 = .ok (.aload_n 0, 1) := by decide +kernel
theorem dX9_changes_18 : decode cX9_changes 18 = .ok (.getfield 13, 3) := by decide +kernel
theorem dX9_changes_21 : decode cX9_changes 21 = .ok (.iload_n 1, 1) := by decide +kernel
theorem dX9_changes_22 : decode cX9_changes 22 = .ok (.aload_n 0, 1) := by decide +kernel
theorem dX9_changes_23 : decode cX9_changes 23 = .ok (.getfield 13, 3) := by decide +kernel
theorem dX9_changes_26 : decode cX9_changes 26 = .ok (.iload_n 1, 1) := by decide +kernel
theorem dX9_changes_27 : decode cX9_changes 27 = .ok (.sipush 246, 3) := by decide +kernel
theorem dX9_changes_30 : decode cX9_changes 30 = .ok (.iadd, 1) := by decide +kernel
theorem dX9_changes_31 : decode cX9_changes 31 = .ok (.iaload, 1) := by decide +kernel
theorem dX9_changes_32 : decode cX9_changes 32 = .ok (.iastore, 1) := by decide +kernel
theorem dX9_changes_33 : decode cX9_changes 33 = .ok (.iinc 1 1, 3) := by decide +kernel
theorem dX9_changes_36 : decode cX9_changes 36 = .ok (.goto (-26), 3) := by decide +kernel
theorem dX9_changes_39 : decode cX9_changes 39 = .ok (.aload_n 0, 1) := by decide +kernel
theorem dX9_changes_40 : decode cX9_changes 40 = .ok (.dup, 1) := by decide +kernel
theorem dX9_changes_41 : decode cX9_changes 41 = .ok (.getfield 25, 3) := by decide +kernel
theorem dX9_changes_44 : decode cX9_changes 44 = .ok (.iconst 1, 1) := by decide +kernel
theorem dX9_changes_45 : decode cX9_changes 45 = .ok (.isub, 1) := by decide +kernel
theorem dX9_changes_46 : decode cX9_changes 46 = .ok (.putfield 25, 3) := by decide +kernel
theorem dX9_changes_49 : decode cX9_changes 49 = .ok (.iconst 0, 1) := by decide +kernel
theorem dX9_changes_50 : decode cX9_changes 50 = .ok (.istore_n 1, 1) := by decide +kernel
theorem dX9_changes_51 : decode cX9_changes 51 = .ok (.iload_n 1, 1) := by decide +kernel
theorem dX9_changes_52 : decode cX9_changes 52 = .ok (.sipush 246, 3) := by decide +kernel
theorem dX9_changes_55 : decode cX9_changes 55 = .ok (.if_icmp .ge 30, 3) := by decide +kernel
theorem dX9_changes_58 : decode cX9_changes 58 = .ok (.aload_n 0, 1) := by decide +kernel
theorem dX9_changes_59 : decode cX9_changes 59 = .ok (.getfield 13, 3) := by decide +kernel
theorem dX9_changes_62 : decode cX9_changes 62 = .ok (.sipush 246, 3) := by decide +kernel
theorem dX9_changes_65 : decode cX9_changes 65 = .ok (.aload_n 0, 1) := by decide +kernel
theorem dX9_changes_66 : decode cX9_changes 66 = .ok (.getfield 25, 3) := by decide +kernel
theorem dX9_changes_69 : decode cX9_changes 69 = .ok (.imul, 1) := by decide +kernel
theorem dX9_changes_70 : decode cX9_changes 70 = .ok (.iload_n 1, 1) := by decide +kernel
theorem dX9_changes_71 : decode cX9_changes 71 = .ok (.iadd, 1) := by decide +kernel
theorem dX9_changes_72 : decode cX9_changes 72 = .ok (.aload_n 0, 1) := by decide +kernel
theorem dX9_changes_73 : decode cX9_changes 73 = .ok (.getfield 7, 3) := by decide +kernel
theorem dX9_changes_76 : decode cX9_changes 76 = .ok (.iload_n 1, 1) := by decide +kernel
theorem dX9_changes_77 : decode cX9_changes 77 = .ok (.iaload, 1) := by decide +kernel
theorem dX9_changes_78 : decode cX9_changes 78 = .ok (.iastore, 1) := by decide +kernel
theorem dX9_changes_79 : decode cX9_changes 79 = .ok (.iinc 1 1, 3) := by decide +kernel
theorem dX9_changes_82 : decode cX9_changes 82 = .ok (.goto (-31), 3) := by decide +kernel
theorem dX9_changes_85 : decode cX9_changes 85 = .ok (.aload_n 0, 1) := by decide +kernel
theorem dX9_changes_86 : decode cX9_changes 86 = .ok (.dup, 1) := by decide +kernel
theorem dX9_changes_87 : decode cX9_changes 87 = .ok (.getfield 25, 3) := by decide +kernel
theorem dX9_changes_90 : decode cX9_changes 90 = .ok (.iconst 1, 1) := by decide +kernel
theorem dX9_changes_91 : decode cX9_changes 91 = .ok (.iadd, 1) := by decide +kernel
theorem dX9_changes_92 : decode cX9_changes 92 = .ok (.putfield 25, 3) := by decide +kernel
theorem dX9_changes_95 : decode cX9_changes 95 = .ok (.return_, 1) := by decide +kernel
theorem dX9_runs_0 : decode cX9_runs 0 = .ok (.aload_n 0, 1) := by decide +kernel
theorem dX9_runs_1 : decode cX9_runs 1 = .ok (.getfield 7, 3) := by decide +kernel
theorem dX9_runs_4 : decode cX9_runs 4 = .ok (.iconst 2, 1) := by decide +kernel
theorem dX9_runs_5 : decode cX9_runs 5 = .ok (.iaload, 1) := by decide +kernel
theorem dX9_runs_6 : decode cX9_runs 6 = .ok (.iconst 1, 1) := by decide +kernel
theorem dX9_runs_7 : decode cX9_runs 7 = .ok (.if_icmp .ne 7, 3) := by decide +kernel
theorem dX9_runs_10 : decode cX9_runs 10 = .ok (.iconst 1, 1) := by decide +kernel
theorem dX9_runs_11 : decode cX9_runs 11 = .ok (.goto 4, 3) := by decide +kernel
theorem dX9_runs_14 : decode cX9_runs 14 = .ok (.iconst 0, 1) := by decide +kernel
theorem dX9_runs_15 : decode cX9_runs 15 = .ok (.ireturn, 1) := by decide +kernel
theorem dX9_isWord_0 : decode cX9_isWord 0 = .ok (.iload_n 1, 1) := by decide +kernel
theorem dX9_isWord_1 : decode cX9_isWord 1 = .ok (.ifCond .lt 17, 3) := by decide +kernel
theorem dX9_isWord_4 : decode cX9_isWord 4 = .ok (.iload_n 1, 1) := by decide +kernel
theorem dX9_isWord_5 : decode cX9_isWord 5 = .ok (.aload_n 0, 1) := by decide +kernel
theorem dX9_isWord_6 : decode cX9_isWord 6 = .ok (.getfield 7, 3) := by decide +kernel
theorem dX9_isWord_9 : decode cX9_isWord 9 = .ok (.iconst 0, 1) := by decide +kernel
theorem dX9_isWord_10 : decode cX9_isWord 10 = .ok (.iaload, 1) := by decide +kernel
theorem dX9_isWord_11 : decode cX9_isWord 11 = .ok (.if_icmp .ge 7, 3) := by decide +kernel
theorem dX9_isWord_14 : decode cX9_isWord 14 = .ok (.iconst 1, 1) := by decide +kernel
theorem dX9_isWord_15 : decode cX9_isWord 15 = .ok (.goto 4, 3) := by decide +kernel
theorem dX9_isWord_18 : decode cX9_isWord 18 = .ok (.iconst 0, 1) := by decide +kernel
theorem dX9_isWord_19 : decode cX9_isWord 19 = .ok (.ireturn, 1) := by decide +kernel
theorem dX9_isPlayer_0 : decode cX9_isPlayer 0 = .ok (.iload_n 1, 1) := by decide +kernel
theorem dX9_isPlayer_1 : decode cX9_isPlayer 1 = .ok (.ifCond .lt 17, 3) := by decide +kernel
theorem dX9_isPlayer_4 : decode cX9_isPlayer 4 = .ok (.iload_n 1, 1) := by decide +kernel
theorem dX9_isPlayer_5 : decode cX9_isPlayer 5 = .ok (.aload_n 0, 1) := by decide +kernel
theorem dX9_isPlayer_6 : decode cX9_isPlayer 6 = .ok (.getfield 7, 3) := by decide +kernel
theorem dX9_isPlayer_9 : decode cX9_isPlayer 9 = .ok (.iconst 1, 1) := by decide +kernel
theorem dX9_isPlayer_10 : decode cX9_isPlayer 10 = .ok (.iaload, 1) := by decide +kernel
theorem dX9_isPlayer_11 : decode cX9_isPlayer 11 = .ok (.if_icmp .ge 7, 3) := by decide +kernel
theorem dX9_isPlayer_14 : decode cX9_isPlayer 14 = .ok (.iconst 1, 1) := by decide +kernel
theorem dX9_isPlayer_15 : decode cX9_isPlayer 15 = .ok (.goto 4, 3) := by decide +kernel
theorem dX9_isPlayer_18 : decode cX9_isPlayer 18 = .ok (.iconst 0, 1) := by decide +kernel
theorem dX9_isPlayer_19 : decode cX9_isPlayer 19 = .ok (.ireturn, 1) := by decide +kernel
theorem dX9_of_0 : decode cX9_of 0 = .ok (.aload_n 0, 1) := by decide +kernel
theorem dX9_of_1 : decode cX9_of 1 = .ok (.getfield 7, 3) := by decide +kernel
theorem dX9_of_4 : decode cX9_of 4 = .ok (.bipush 16, 2) := by decide +kernel
theorem dX9_of_6 : decode cX9_of 6 = .ok (.bipush 11, 2) := by decide +kernel
theorem dX9_of_8 : decode cX9_of 8 = .ok (.iload_n 1, 1) := by decide +kernel
theorem dX9_of_9 : decode cX9_of 9 = .ok (.imul, 1) := by decide +kernel
theorem dX9_of_10 : decode cX9_of 10 = .ok (.iadd, 1) := by decide +kernel
theorem dX9_of_11 : decode cX9_of 11 = .ok (.iload_n 2, 1) := by decide +kernel
theorem dX9_of_12 : decode cX9_of 12 = .ok (.iadd, 1) := by decide +kernel
theorem dX9_of_13 : decode cX9_of 13 = .ok (.iaload, 1) := by decide +kernel
theorem dX9_of_14 : decode cX9_of 14 = .ok (.ireturn, 1) := by decide +kernel
theorem dX9_letterAt_0 : decode cX9_letterAt 0 = .ok (.aload_n 0, 1) := by decide +kernel
theorem dX9_letterAt_1 : decode cX9_letterAt 1 = .ok (.iload_n 1, 1) := by decide +kernel
theorem dX9_letterAt_2 : decode cX9_letterAt 2 = .ok (.iconst 3, 1) := by decide +kernel
theorem dX9_letterAt_3 : decode cX9_letterAt 3 = .ok (.iload_n 2, 1) := by decide +kernel
theorem dX9_letterAt_4 : decode cX9_letterAt 4 = .ok (.iadd, 1) := by decide +kernel
theorem dX9_letterAt_5 : decode cX9_letterAt 5 = .ok (.invokevirtual 29, 3) := by decide +kernel
theorem dX9_letterAt_8 : decode cX9_letterAt 8 = .ok (.ireturn, 1) := by decide +kernel
theorem dX9_at_0 : decode cX9_at 0 = .ok (.sipush 192, 3) := by decide +kernel
theorem dX9_at_3 : decode cX9_at 3 = .ok (.bipush 6, 2) := by decide +kernel
theorem dX9_at_5 : decode cX9_at 5 = .ok (.iload_n 0, 1) := by decide +kernel
theorem dX9_at_6 : decode cX9_at 6 = .ok (.imul, 1) := by decide +kernel
theorem dX9_at_7 : decode cX9_at 7 = .ok (.iadd, 1) := by decide +kernel
theorem dX9_at_8 : decode cX9_at 8 = .ok (.iload_n 1, 1) := by decide +kernel
theorem dX9_at_9 : decode cX9_at 9 = .ok (.iadd, 1) := by decide +kernel
theorem dX9_at_10 : decode cX9_at 10 = .ok (.ireturn, 1) := by decide +kernel
theorem dX9_places_0 : decode cX9_places 0 = .ok (.iconst 0, 1) := by decide +kernel
theorem dX9_places_1 : decode cX9_places 1 = .ok (.istore_n 3, 1) := by decide +kernel
theorem dX9_places_2 : decode cX9_places 2 = .ok (.iconst 0, 1) := by decide +kernel
theorem dX9_places_3 : decode cX9_places 3 = .ok (.istore 4, 2) := by decide +kernel
theorem dX9_places_5 : decode cX9_places 5 = .ok (.iload 4, 2) := by decide +kernel
theorem dX9_places_7 : decode cX9_places 7 = .ok (.aload_n 0, 1) := by decide +kernel
theorem dX9_places_8 : decode cX9_places 8 = .ok (.iload_n 1, 1) := by decide +kernel
theorem dX9_places_9 : decode cX9_places 9 = .ok (.iconst 0, 1) := by decide +kernel
theorem dX9_places_10 : decode cX9_places 10 = .ok (.invokevirtual 29, 3) := by decide +kernel
theorem dX9_places_13 : decode cX9_places 13 = .ok (.if_icmp .ge 31, 3) := by decide +kernel
theorem dX9_places_16 : decode cX9_places 16 = .ok (.iload_n 3, 1) := by decide +kernel
theorem dX9_places_17 : decode cX9_places 17 = .ok (.aload_n 0, 1) := by decide +kernel
theorem dX9_places_18 : decode cX9_places 18 = .ok (.iload_n 1, 1) := by decide +kernel
theorem dX9_places_19 : decode cX9_places 19 = .ok (.iload 4, 2) := by decide +kernel
theorem dX9_places_21 : decode cX9_places 21 = .ok (.invokevirtual 33, 3) := by decide +kernel
theorem dX9_places_24 : decode cX9_places 24 = .ok (.iload_n 2, 1) := by decide +kernel
theorem dX9_places_25 : decode cX9_places 25 = .ok (.if_icmp .ne 10, 3) := by decide +kernel
theorem dX9_places_28 : decode cX9_places 28 = .ok (.iconst 1, 1) := by decide +kernel
theorem dX9_places_29 : decode cX9_places 29 = .ok (.iload 4, 2) := by decide +kernel
theorem dX9_places_31 : decode cX9_places 31 = .ok (.ishl, 1) := by decide +kernel
theorem dX9_places_32 : decode cX9_places 32 = .ok (.goto 4, 3) := by decide +kernel
theorem dX9_places_35 : decode cX9_places 35 = .ok (.iconst 0, 1) := by decide +kernel
theorem dX9_places_36 : decode cX9_places 36 = .ok (.ior, 1) := by decide +kernel
theorem dX9_places_37 : decode cX9_places 37 = .ok (.istore_n 3, 1) := by decide +kernel
theorem dX9_places_38 : decode cX9_places 38 = .ok (.iinc 4 1, 3) := by decide +kernel
theorem dX9_places_41 : decode cX9_places 41 = .ok (.goto (-36), 3) := by decide +kernel
theorem dX9_places_44 : decode cX9_places 44 = .ok (.iload_n 3, 1) := by decide +kernel
theorem dX9_places_45 : decode cX9_places 45 = .ok (.ireturn, 1) := by decide +kernel
theorem dX9_ones_0 : decode cX9_ones 0 = .ok (.iconst 0, 1) := by decide +kernel
theorem dX9_ones_1 : decode cX9_ones 1 = .ok (.istore_n 1, 1) := by decide +kernel
theorem dX9_ones_2 : decode cX9_ones 2 = .ok (.iload_n 0, 1) := by decide +kernel
theorem dX9_ones_3 : decode cX9_ones 3 = .ok (.istore_n 2, 1) := by decide +kernel
theorem dX9_ones_4 : decode cX9_ones 4 = .ok (.iload_n 2, 1) := by decide +kernel
theorem dX9_ones_5 : decode cX9_ones 5 = .ok (.ifCond .eq 15, 3) := by decide +kernel
theorem dX9_ones_8 : decode cX9_ones 8 = .ok (.iinc 1 1, 3) := by decide +kernel
theorem dX9_ones_11 : decode cX9_ones 11 = .ok (.iload_n 2, 1) := by decide +kernel
theorem dX9_ones_12 : decode cX9_ones 12 = .ok (.iload_n 2, 1) := by decide +kernel
theorem dX9_ones_13 : decode cX9_ones 13 = .ok (.iconst 1, 1) := by decide +kernel
theorem dX9_ones_14 : decode cX9_ones 14 = .ok (.isub, 1) := by decide +kernel
theorem dX9_ones_15 : decode cX9_ones 15 = .ok (.iand, 1) := by decide +kernel
theorem dX9_ones_16 : decode cX9_ones 16 = .ok (.istore_n 2, 1) := by decide +kernel
theorem dX9_ones_17 : decode cX9_ones 17 = .ok (.goto (-13), 3) := by decide +kernel
theorem dX9_ones_20 : decode cX9_ones 20 = .ok (.iload_n 1, 1) := by decide +kernel
theorem dX9_ones_21 : decode cX9_ones 21 = .ok (.ireturn, 1) := by decide +kernel
theorem dX9_word_0 : decode cX9_word 0 = .ok (.aload_n 0, 1) := by decide +kernel
theorem dX9_word_1 : decode cX9_word 1 = .ok (.iload_n 1, 1) := by decide +kernel
theorem dX9_word_2 : decode cX9_word 2 = .ok (.invokevirtual 36, 3) := by decide +kernel
theorem dX9_word_5 : decode cX9_word 5 = .ok (.ifCond .eq 13, 3) := by decide +kernel
theorem dX9_word_8 : decode cX9_word 8 = .ok (.iload_n 2, 1) := by decide +kernel
theorem dX9_word_9 : decode cX9_word 9 = .ok (.iconst 1, 1) := by decide +kernel
theorem dX9_word_10 : decode cX9_word 10 = .ok (.bipush 99, 2) := by decide +kernel
theorem dX9_word_12 : decode cX9_word 12 = .ok (.invokestatic 40, 3) := by decide +kernel
theorem dX9_word_15 : decode cX9_word 15 = .ok (.ifCond .ne 5, 3) := by decide +kernel
theorem dX9_word_18 : decode cX9_word 18 = .ok (.iconst (-1), 1) := by decide +kernel
theorem dX9_word_19 : decode cX9_word 19 = .ok (.ireturn, 1) := by decide +kernel
theorem dX9_word_20 : decode cX9_word 20 = .ok (.aload_n 0, 1) := by decide +kernel
theorem dX9_word_21 : decode cX9_word 21 = .ok (.invokevirtual 44, 3) := by decide +kernel
theorem dX9_word_24 : decode cX9_word 24 = .ok (.ifCond .eq 6, 3) := by decide +kernel
theorem dX9_word_27 : decode cX9_word 27 = .ok (.bipush (-2), 2) := by decide +kernel
theorem dX9_word_29 : decode cX9_word 29 = .ok (.ireturn, 1) := by decide +kernel
theorem dX9_word_30 : decode cX9_word 30 = .ok (.aload_n 0, 1) := by decide +kernel
theorem dX9_word_31 : decode cX9_word 31 = .ok (.invokevirtual 48, 3) := by decide +kernel
theorem dX9_word_34 : decode cX9_word 34 = .ok (.aload_n 0, 1) := by decide +kernel
theorem dX9_word_35 : decode cX9_word 35 = .ok (.iload_n 1, 1) := by decide +kernel
theorem dX9_word_36 : decode cX9_word 36 = .ok (.iconst 1, 1) := by decide +kernel
theorem dX9_word_37 : decode cX9_word 37 = .ok (.invokevirtual 29, 3) := by decide +kernel
theorem dX9_word_40 : decode cX9_word 40 = .ok (.istore_n 3, 1) := by decide +kernel
theorem dX9_word_41 : decode cX9_word 41 = .ok (.aload_n 0, 1) := by decide +kernel
theorem dX9_word_42 : decode cX9_word 42 = .ok (.getfield 7, 3) := by decide +kernel
theorem dX9_word_45 : decode cX9_word 45 = .ok (.bipush 16, 2) := by decide +kernel
theorem dX9_word_47 : decode cX9_word 47 = .ok (.bipush 11, 2) := by decide +kernel
theorem dX9_word_49 : decode cX9_word 49 = .ok (.iload_n 1, 1) := by decide +kernel
theorem dX9_word_50 : decode cX9_word 50 = .ok (.imul, 1) := by decide +kernel
theorem dX9_word_51 : decode cX9_word 51 = .ok (.iadd, 1) := by decide +kernel
theorem dX9_word_52 : decode cX9_word 52 = .ok (.iconst 1, 1) := by decide +kernel
theorem dX9_word_53 : decode cX9_word 53 = .ok (.iadd, 1) := by decide +kernel
theorem dX9_word_54 : decode cX9_word 54 = .ok (.iload_n 2, 1) := by decide +kernel
theorem dX9_word_55 : decode cX9_word 55 = .ok (.iastore, 1) := by decide +kernel
theorem dX9_word_56 : decode cX9_word 56 = .ok (.iload_n 3, 1) := by decide +kernel
theorem dX9_word_57 : decode cX9_word 57 = .ok (.ireturn, 1) := by decide +kernel
theorem dX9_seat_0 : decode cX9_seat 0 = .ok (.iload_n 1, 1) := by decide +kernel
theorem dX9_seat_1 : decode cX9_seat 1 = .ok (.iconst 0, 1) := by decide +kernel
theorem dX9_seat_2 : decode cX9_seat 2 = .ok (.sipush 999, 3) := by decide +kernel
theorem dX9_seat_5 : decode cX9_seat 5 = .ok (.invokestatic 40, 3) := by decide +kernel
theorem dX9_seat_8 : decode cX9_seat 8 = .ok (.ifCond .ne 5, 3) := by decide +kernel
theorem dX9_seat_11 : decode cX9_seat 11 = .ok (.iconst (-1), 1) := by decide +kernel
theorem dX9_seat_12 : decode cX9_seat 12 = .ok (.ireturn, 1) := by decide +kernel
theorem dX9_seat_13 : decode cX9_seat 13 = .ok (.aload_n 0, 1) := by decide +kernel
theorem dX9_seat_14 : decode cX9_seat 14 = .ok (.invokevirtual 44, 3) := by decide +kernel
theorem dX9_seat_17 : decode cX9_seat 17 = .ok (.ifCond .eq 6, 3) := by decide +kernel
theorem dX9_seat_20 : decode cX9_seat 20 = .ok (.bipush (-2), 2) := by decide +kernel
theorem dX9_seat_22 : decode cX9_seat 22 = .ok (.ireturn, 1) := by decide +kernel
theorem dX9_seat_23 : decode cX9_seat 23 = .ok (.aload_n 0, 1) := by decide +kernel
theorem dX9_seat_24 : decode cX9_seat 24 = .ok (.getfield 7, 3) := by decide +kernel
theorem dX9_seat_27 : decode cX9_seat 27 = .ok (.iconst 1, 1) := by decide +kernel
theorem dX9_seat_28 : decode cX9_seat 28 = .ok (.iaload, 1) := by decide +kernel
theorem dX9_seat_29 : decode cX9_seat 29 = .ok (.istore_n 2, 1) := by decide +kernel
theorem dX9_seat_30 : decode cX9_seat 30 = .ok (.iload_n 2, 1) := by decide +kernel
theorem dX9_seat_31 : decode cX9_seat 31 = .ok (.iconst 5, 1) := by decide +kernel
theorem dX9_seat_32 : decode cX9_seat 32 = .ok (.if_icmp .ne 6, 3) := by decide +kernel
theorem dX9_seat_35 : decode cX9_seat 35 = .ok (.bipush (-3), 2) := by decide +kernel
theorem dX9_seat_37 : decode cX9_seat 37 = .ok (.ireturn, 1) := by decide +kernel
theorem dX9_seat_38 : decode cX9_seat 38 = .ok (.aload_n 0, 1) := by decide +kernel
theorem dX9_seat_39 : decode cX9_seat 39 = .ok (.invokevirtual 48, 3) := by decide +kernel
theorem dX9_seat_42 : decode cX9_seat 42 = .ok (.aload_n 0, 1) := by decide +kernel
theorem dX9_seat_43 : decode cX9_seat 43 = .ok (.getfield 7, 3) := by decide +kernel
theorem dX9_seat_46 : decode cX9_seat 46 = .ok (.iload_n 2, 1) := by decide +kernel
theorem dX9_seat_47 : decode cX9_seat 47 = .ok (.iconst 0, 1) := by decide +kernel
theorem dX9_seat_48 : decode cX9_seat 48 = .ok (.invokestatic 51, 3) := by decide +kernel
theorem dX9_seat_51 : decode cX9_seat 51 = .ok (.iload_n 1, 1) := by decide +kernel
theorem dX9_seat_52 : decode cX9_seat 52 = .ok (.iastore, 1) := by decide +kernel
theorem dX9_seat_53 : decode cX9_seat 53 = .ok (.aload_n 0, 1) := by decide +kernel
theorem dX9_seat_54 : decode cX9_seat 54 = .ok (.getfield 7, 3) := by decide +kernel
theorem dX9_seat_57 : decode cX9_seat 57 = .ok (.iload_n 2, 1) := by decide +kernel
theorem dX9_seat_58 : decode cX9_seat 58 = .ok (.iconst 4, 1) := by decide +kernel
theorem dX9_seat_59 : decode cX9_seat 59 = .ok (.invokestatic 51, 3) := by decide +kernel
theorem dX9_seat_62 : decode cX9_seat 62 = .ok (.bipush 26, 2) := by decide +kernel
theorem dX9_seat_64 : decode cX9_seat 64 = .ok (.iastore, 1) := by decide +kernel
theorem dX9_seat_65 : decode cX9_seat 65 = .ok (.aload_n 0, 1) := by decide +kernel
theorem dX9_seat_66 : decode cX9_seat 66 = .ok (.getfield 7, 3) := by decide +kernel
theorem dX9_seat_69 : decode cX9_seat 69 = .ok (.iconst 1, 1) := by decide +kernel
theorem dX9_seat_70 : decode cX9_seat 70 = .ok (.dup2, 1) := by decide +kernel
theorem dX9_seat_71 : decode cX9_seat 71 = .ok (.iaload, 1) := by decide +kernel
theorem dX9_seat_72 : decode cX9_seat 72 = .ok (.iconst 1, 1) := by decide +kernel
theorem dX9_seat_73 : decode cX9_seat 73 = .ok (.iadd, 1) := by decide +kernel
theorem dX9_seat_74 : decode cX9_seat 74 = .ok (.iastore, 1) := by decide +kernel
theorem dX9_seat_75 : decode cX9_seat 75 = .ok (.iload_n 2, 1) := by decide +kernel
theorem dX9_seat_76 : decode cX9_seat 76 = .ok (.ireturn, 1) := by decide +kernel
theorem dX9_lend_0 : decode cX9_lend 0 = .ok (.aload_n 0, 1) := by decide +kernel
theorem dX9_lend_1 : decode cX9_lend 1 = .ok (.iload_n 1, 1) := by decide +kernel
theorem dX9_lend_2 : decode cX9_lend 2 = .ok (.invokevirtual 54, 3) := by decide +kernel
theorem dX9_lend_5 : decode cX9_lend 5 = .ok (.ifCond .eq 27, 3) := by decide +kernel
theorem dX9_lend_8 : decode cX9_lend 8 = .ok (.aload_n 0, 1) := by decide +kernel
theorem dX9_lend_9 : decode cX9_lend 9 = .ok (.iload_n 2, 1) := by decide +kernel
theorem dX9_lend_10 : decode cX9_lend 10 = .ok (.invokevirtual 54, 3) := by decide +kernel
theorem dX9_lend_13 : decode cX9_lend 13 = .ok (.ifCond .eq 19, 3) := by decide +kernel
theorem dX9_lend_16 : decode cX9_lend 16 = .ok (.iload_n 1, 1) := by decide +kernel
theorem dX9_lend_17 : decode cX9_lend 17 = .ok (.iload_n 2, 1) := by decide +kernel
theorem dX9_lend_18 : decode cX9_lend 18 = .ok (.if_icmp .eq 14, 3) := by decide +kernel
theorem dX9_lend_21 : decode cX9_lend 21 = .ok (.iload_n 3, 1) := by decide +kernel
theorem dX9_lend_22 : decode cX9_lend 22 = .ok (.iconst 1, 1) := by decide +kernel
theorem dX9_lend_23 : decode cX9_lend 23 = .ok (.sipush 999, 3) := by decide +kernel
theorem dX9_lend_26 : decode cX9_lend 26 = .ok (.invokestatic 40, 3) := by decide +kernel
theorem dX9_lend_29 : decode cX9_lend 29 = .ok (.ifCond .ne 5, 3) := by decide +kernel
theorem dX9_lend_32 : decode cX9_lend 32 = .ok (.iconst (-1), 1) := by decide +kernel
theorem dX9_lend_33 : decode cX9_lend 33 = .ok (.ireturn, 1) := by decide +kernel
theorem dX9_lend_34 : decode cX9_lend 34 = .ok (.aload_n 0, 1) := by decide +kernel
theorem dX9_lend_35 : decode cX9_lend 35 = .ok (.getfield 7, 3) := by decide +kernel
theorem dX9_lend_38 : decode cX9_lend 38 = .ok (.iload_n 1, 1) := by decide +kernel
theorem dX9_lend_39 : decode cX9_lend 39 = .ok (.iconst 0, 1) := by decide +kernel
theorem dX9_lend_40 : decode cX9_lend 40 = .ok (.invokestatic 51, 3) := by decide +kernel
theorem dX9_lend_43 : decode cX9_lend 43 = .ok (.iaload, 1) := by decide +kernel
theorem dX9_lend_44 : decode cX9_lend 44 = .ok (.iload_n 3, 1) := by decide +kernel
theorem dX9_lend_45 : decode cX9_lend 45 = .ok (.if_icmp .ge 6, 3) := by decide +kernel
theorem dX9_lend_48 : decode cX9_lend 48 = .ok (.bipush (-2), 2) := by decide +kernel
theorem dX9_lend_50 : decode cX9_lend 50 = .ok (.ireturn, 1) := by decide +kernel
theorem dX9_lend_51 : decode cX9_lend 51 = .ok (.aload_n 0, 1) := by decide +kernel
theorem dX9_lend_52 : decode cX9_lend 52 = .ok (.invokevirtual 48, 3) := by decide +kernel
theorem dX9_lend_55 : decode cX9_lend 55 = .ok (.aload_n 0, 1) := by decide +kernel
theorem dX9_lend_56 : decode cX9_lend 56 = .ok (.getfield 7, 3) := by decide +kernel
theorem dX9_lend_59 : decode cX9_lend 59 = .ok (.iload_n 1, 1) := by decide +kernel
theorem dX9_lend_60 : decode cX9_lend 60 = .ok (.iconst 0, 1) := by decide +kernel
theorem dX9_lend_61 : decode cX9_lend 61 = .ok (.invokestatic 51, 3) := by decide +kernel
theorem dX9_lend_64 : decode cX9_lend 64 = .ok (.dup2, 1) := by decide +kernel
theorem dX9_lend_65 : decode cX9_lend 65 = .ok (.iaload, 1) := by decide +kernel
theorem dX9_lend_66 : decode cX9_lend 66 = .ok (.iload_n 3, 1) := by decide +kernel
theorem dX9_lend_67 : decode cX9_lend 67 = .ok (.isub, 1) := by decide +kernel
theorem dX9_lend_68 : decode cX9_lend 68 = .ok (.iastore, 1) := by decide +kernel
theorem dX9_lend_69 : decode cX9_lend 69 = .ok (.aload_n 0, 1) := by decide +kernel
theorem dX9_lend_70 : decode cX9_lend 70 = .ok (.getfield 7, 3) := by decide +kernel
theorem dX9_lend_73 : decode cX9_lend 73 = .ok (.iload_n 2, 1) := by decide +kernel
theorem dX9_lend_74 : decode cX9_lend 74 = .ok (.iconst 0, 1) := by decide +kernel
theorem dX9_lend_75 : decode cX9_lend 75 = .ok (.invokestatic 51, 3) := by decide +kernel
theorem dX9_lend_78 : decode cX9_lend 78 = .ok (.dup2, 1) := by decide +kernel
theorem dX9_lend_79 : decode cX9_lend 79 = .ok (.iaload, 1) := by decide +kernel
theorem dX9_lend_80 : decode cX9_lend 80 = .ok (.iload_n 3, 1) := by decide +kernel
theorem dX9_lend_81 : decode cX9_lend 81 = .ok (.iadd, 1) := by decide +kernel
theorem dX9_lend_82 : decode cX9_lend 82 = .ok (.iastore, 1) := by decide +kernel
theorem dX9_lend_83 : decode cX9_lend 83 = .ok (.aload_n 0, 1) := by decide +kernel
theorem dX9_lend_84 : decode cX9_lend 84 = .ok (.getfield 7, 3) := by decide +kernel
theorem dX9_lend_87 : decode cX9_lend 87 = .ok (.iload_n 1, 1) := by decide +kernel
theorem dX9_lend_88 : decode cX9_lend 88 = .ok (.iconst 0, 1) := by decide +kernel
theorem dX9_lend_89 : decode cX9_lend 89 = .ok (.invokestatic 51, 3) := by decide +kernel
theorem dX9_lend_92 : decode cX9_lend 92 = .ok (.iaload, 1) := by decide +kernel
theorem dX9_lend_93 : decode cX9_lend 93 = .ok (.ireturn, 1) := by decide +kernel
theorem dX9_set_0 : decode cX9_set 0 = .ok (.iload_n 1, 1) := by decide +kernel
theorem dX9_set_1 : decode cX9_set 1 = .ok (.ifCond .ne 13, 3) := by decide +kernel
theorem dX9_set_4 : decode cX9_set 4 = .ok (.iload_n 2, 1) := by decide +kernel
theorem dX9_set_5 : decode cX9_set 5 = .ok (.iconst 1, 1) := by decide +kernel
theorem dX9_set_6 : decode cX9_set 6 = .ok (.bipush 12, 2) := by decide +kernel
theorem dX9_set_8 : decode cX9_set 8 = .ok (.invokestatic 40, 3) := by decide +kernel
theorem dX9_set_11 : decode cX9_set 11 = .ok (.ifCond .ne 5, 3) := by decide +kernel
theorem dX9_set_14 : decode cX9_set 14 = .ok (.iconst (-1), 1) := by decide +kernel
theorem dX9_set_15 : decode cX9_set 15 = .ok (.ireturn, 1) := by decide +kernel
theorem dX9_set_16 : decode cX9_set 16 = .ok (.aload_n 0, 1) := by decide +kernel
theorem dX9_set_17 : decode cX9_set 17 = .ok (.invokevirtual 44, 3) := by decide +kernel
theorem dX9_set_20 : decode cX9_set 20 = .ok (.ifCond .eq 6, 3) := by decide +kernel
theorem dX9_set_23 : decode cX9_set 23 = .ok (.bipush (-2), 2) := by decide +kernel
theorem dX9_set_25 : decode cX9_set 25 = .ok (.ireturn, 1) := by decide +kernel
theorem dX9_set_26 : decode cX9_set 26 = .ok (.aload_n 0, 1) := by decide +kernel
theorem dX9_set_27 : decode cX9_set 27 = .ok (.invokevirtual 48, 3) := by decide +kernel
theorem dX9_set_30 : decode cX9_set 30 = .ok (.aload_n 0, 1) := by decide +kernel
theorem dX9_set_31 : decode cX9_set 31 = .ok (.getfield 7, 3) := by decide +kernel
theorem dX9_set_34 : decode cX9_set 34 = .ok (.bipush 11, 2) := by decide +kernel
theorem dX9_set_36 : decode cX9_set 36 = .ok (.iaload, 1) := by decide +kernel
theorem dX9_set_37 : decode cX9_set 37 = .ok (.istore_n 3, 1) := by decide +kernel
theorem dX9_set_38 : decode cX9_set 38 = .ok (.aload_n 0, 1) := by decide +kernel
theorem dX9_set_39 : decode cX9_set 39 = .ok (.getfield 7, 3) := by decide +kernel
theorem dX9_set_42 : decode cX9_set 42 = .ok (.bipush 11, 2) := by decide +kernel
theorem dX9_set_44 : decode cX9_set 44 = .ok (.iload_n 2, 1) := by decide +kernel
theorem dX9_set_45 : decode cX9_set 45 = .ok (.iastore, 1) := by decide +kernel
theorem dX9_set_46 : decode cX9_set 46 = .ok (.iload_n 3, 1) := by decide +kernel
theorem dX9_set_47 : decode cX9_set 47 = .ok (.ireturn, 1) := by decide +kernel
theorem dX9_seed_0 : decode cX9_seed 0 = .ok (.iload_n 1, 1) := by decide +kernel
theorem dX9_seed_1 : decode cX9_seed 1 = .ok (.ifCond .ge 5, 3) := by decide +kernel
theorem dX9_seed_4 : decode cX9_seed 4 = .ok (.iconst (-1), 1) := by decide +kernel
theorem dX9_seed_5 : decode cX9_seed 5 = .ok (.ireturn, 1) := by decide +kernel
theorem dX9_seed_6 : decode cX9_seed 6 = .ok (.aload_n 0, 1) := by decide +kernel
theorem dX9_seed_7 : decode cX9_seed 7 = .ok (.invokevirtual 48, 3) := by decide +kernel
theorem dX9_seed_10 : decode cX9_seed 10 = .ok (.aload_n 0, 1) := by decide +kernel
theorem dX9_seed_11 : decode cX9_seed 11 = .ok (.getfield 7, 3) := by decide +kernel
theorem dX9_seed_14 : decode cX9_seed 14 = .ok (.bipush 10, 2) := by decide +kernel
theorem dX9_seed_16 : decode cX9_seed 16 = .ok (.iaload, 1) := by decide +kernel
theorem dX9_seed_17 : decode cX9_seed 17 = .ok (.istore_n 2, 1) := by decide +kernel
theorem dX9_seed_18 : decode cX9_seed 18 = .ok (.aload_n 0, 1) := by decide +kernel
theorem dX9_seed_19 : decode cX9_seed 19 = .ok (.getfield 7, 3) := by decide +kernel
theorem dX9_seed_22 : decode cX9_seed 22 = .ok (.bipush 10, 2) := by decide +kernel
theorem dX9_seed_24 : decode cX9_seed 24 = .ok (.iload_n 1, 1) := by decide +kernel
theorem dX9_seed_25 : decode cX9_seed 25 = .ok (.iastore, 1) := by decide +kernel
theorem dX9_seed_26 : decode cX9_seed 26 = .ok (.iload_n 2, 1) := by decide +kernel
theorem dX9_seed_27 : decode cX9_seed 27 = .ok (.ireturn, 1) := by decide +kernel
theorem dX9_weights_0 : decode cX9_weights 0 = .ok (.iconst 0, 1) := by decide +kernel
theorem dX9_weights_1 : decode cX9_weights 1 = .ok (.istore_n 1, 1) := by decide +kernel
theorem dX9_weights_2 : decode cX9_weights 2 = .ok (.iconst 0, 1) := by decide +kernel
theorem dX9_weights_3 : decode cX9_weights 3 = .ok (.istore_n 2, 1) := by decide +kernel
theorem dX9_weights_4 : decode cX9_weights 4 = .ok (.iload_n 2, 1) := by decide +kernel
theorem dX9_weights_5 : decode cX9_weights 5 = .ok (.aload_n 0, 1) := by decide +kernel
theorem dX9_weights_6 : decode cX9_weights 6 = .ok (.getfield 7, 3) := by decide +kernel
theorem dX9_weights_9 : decode cX9_weights 9 = .ok (.iconst 0, 1) := by decide +kernel
theorem dX9_weights_10 : decode cX9_weights 10 = .ok (.iaload, 1) := by decide +kernel
theorem dX9_weights_11 : decode cX9_weights 11 = .ok (.if_icmp .ge 18, 3) := by decide +kernel
theorem dX9_weights_14 : decode cX9_weights 14 = .ok (.iload_n 1, 1) := by decide +kernel
theorem dX9_weights_15 : decode cX9_weights 15 = .ok (.aload_n 0, 1) := by decide +kernel
theorem dX9_weights_16 : decode cX9_weights 16 = .ok (.iload_n 2, 1) := by decide +kernel
theorem dX9_weights_17 : decode cX9_weights 17 = .ok (.iconst 1, 1) := by decide +kernel
theorem dX9_weights_18 : decode cX9_weights 18 = .ok (.invokevirtual 29, 3) := by decide +kernel
theorem dX9_weights_21 : decode cX9_weights 21 = .ok (.iadd, 1) := by decide +kernel
theorem dX9_weights_22 : decode cX9_weights 22 = .ok (.istore_n 1, 1) := by decide +kernel
theorem dX9_weights_23 : decode cX9_weights 23 = .ok (.iinc 2 1, 3) := by decide +kernel
theorem dX9_weights_26 : decode cX9_weights 26 = .ok (.goto (-22), 3) := by decide +kernel
theorem dX9_weights_29 : decode cX9_weights 29 = .ok (.iload_n 1, 1) := by decide +kernel
theorem dX9_weights_30 : decode cX9_weights 30 = .ok (.ireturn, 1) := by decide +kernel
theorem dX9_drawn_0 : decode cX9_drawn 0 = .ok (.aload_n 0, 1) := by decide +kernel
theorem dX9_drawn_1 : decode cX9_drawn 1 = .ok (.getfield 7, 3) := by decide +kernel
theorem dX9_drawn_4 : decode cX9_drawn 4 = .ok (.bipush 10, 2) := by decide +kernel
theorem dX9_drawn_6 : decode cX9_drawn 6 = .ok (.iaload, 1) := by decide +kernel
theorem dX9_drawn_7 : decode cX9_drawn 7 = .ok (.i2l, 1) := by decide +kernel
theorem dX9_drawn_8 : decode cX9_drawn 8 = .ok (.ldc2_w 57, 3) := by decide +kernel
theorem dX9_drawn_11 : decode cX9_drawn 11 = .ok (.lmul, 1) := by decide +kernel
theorem dX9_drawn_12 : decode cX9_drawn 12 = .ok (.ldc2_w 59, 3) := by decide +kernel
theorem dX9_drawn_15 : decode cX9_drawn 15 = .ok (.ladd, 1) := by decide +kernel
theorem dX9_drawn_16 : decode cX9_drawn 16 = .ok (.ldc2_w 61, 3) := by decide +kernel
theorem dX9_drawn_19 : decode cX9_drawn 19 = .ok (.lrem, 1) := by decide +kernel
theorem dX9_drawn_20 : decode cX9_drawn 20 = .ok (.l2i, 1) := by decide +kernel
theorem dX9_drawn_21 : decode cX9_drawn 21 = .ok (.ireturn, 1) := by decide +kernel
theorem dX9_wordBy_0 : decode cX9_wordBy 0 = .ok (.iload_n 1, 1) := by decide +kernel
theorem dX9_wordBy_1 : decode cX9_wordBy 1 = .ok (.ldc 63, 2) := by decide +kernel
theorem dX9_wordBy_3 : decode cX9_wordBy 3 = .ok (.idiv, 1) := by decide +kernel
theorem dX9_wordBy_4 : decode cX9_wordBy 4 = .ok (.aload_n 0, 1) := by decide +kernel
theorem dX9_wordBy_5 : decode cX9_wordBy 5 = .ok (.invokevirtual 64, 3) := by decide +kernel
theorem dX9_wordBy_8 : decode cX9_wordBy 8 = .ok (.irem, 1) := by decide +kernel
theorem dX9_wordBy_9 : decode cX9_wordBy 9 = .ok (.istore_n 2, 1) := by decide +kernel
theorem dX9_wordBy_10 : decode cX9_wordBy 10 = .ok (.iconst 0, 1) := by decide +kernel
theorem dX9_wordBy_11 : decode cX9_wordBy 11 = .ok (.istore_n 3, 1) := by decide +kernel
theorem dX9_wordBy_12 : decode cX9_wordBy 12 = .ok (.iload_n 2, 1) := by decide +kernel
theorem dX9_wordBy_13 : decode cX9_wordBy 13 = .ok (.aload_n 0, 1) := by decide +kernel
theorem dX9_wordBy_14 : decode cX9_wordBy 14 = .ok (.iload_n 3, 1) := by decide +kernel
theorem dX9_wordBy_15 : decode cX9_wordBy 15 = .ok (.iconst 1, 1) := by decide +kernel
theorem dX9_wordBy_16 : decode cX9_wordBy 16 = .ok (.invokevirtual 29, 3) := by decide +kernel
theorem dX9_wordBy_19 : decode cX9_wordBy 19 = .ok (.if_icmp .lt 18, 3) := by decide +kernel
theorem dX9_wordBy_22 : decode cX9_wordBy 22 = .ok (.iload_n 2, 1) := by decide +kernel
theorem dX9_wordBy_23 : decode cX9_wordBy 23 = .ok (.aload_n 0, 1) := by decide +kernel
theorem dX9_wordBy_24 : decode cX9_wordBy 24 = .ok (.iload_n 3, 1) := by decide +kernel
theorem dX9_wordBy_25 : decode cX9_wordBy 25 = .ok (.iconst 1, 1) := by decide +kernel
theorem dX9_wordBy_26 : decode cX9_wordBy 26 = .ok (.invokevirtual 29, 3) := by decide +kernel
theorem dX9_wordBy_29 : decode cX9_wordBy 29 = .ok (.isub, 1) := by decide +kernel
theorem dX9_wordBy_30 : decode cX9_wordBy 30 = .ok (.istore_n 2, 1) := by decide +kernel
theorem dX9_wordBy_31 : decode cX9_wordBy 31 = .ok (.iinc 3 1, 3) := by decide +kernel
theorem dX9_wordBy_34 : decode cX9_wordBy 34 = .ok (.goto (-22), 3) := by decide +kernel
theorem dX9_wordBy_37 : decode cX9_wordBy 37 = .ok (.iload_n 3, 1) := by decide +kernel
theorem dX9_wordBy_38 : decode cX9_wordBy 38 = .ok (.ireturn, 1) := by decide +kernel
theorem dX9_canPay_0 : decode cX9_canPay 0 = .ok (.iconst 1, 1) := by decide +kernel
theorem dX9_canPay_1 : decode cX9_canPay 1 = .ok (.istore_n 2, 1) := by decide +kernel
theorem dX9_canPay_2 : decode cX9_canPay 2 = .ok (.iconst 0, 1) := by decide +kernel
theorem dX9_canPay_3 : decode cX9_canPay 3 = .ok (.istore_n 3, 1) := by decide +kernel
theorem dX9_canPay_4 : decode cX9_canPay 4 = .ok (.iload_n 3, 1) := by decide +kernel
theorem dX9_canPay_5 : decode cX9_canPay 5 = .ok (.aload_n 0, 1) := by decide +kernel
theorem dX9_canPay_6 : decode cX9_canPay 6 = .ok (.getfield 7, 3) := by decide +kernel
theorem dX9_canPay_9 : decode cX9_canPay 9 = .ok (.iconst 1, 1) := by decide +kernel
theorem dX9_canPay_10 : decode cX9_canPay 10 = .ok (.iaload, 1) := by decide +kernel
theorem dX9_canPay_11 : decode cX9_canPay 11 = .ok (.if_icmp .ge 33, 3) := by decide +kernel
theorem dX9_canPay_14 : decode cX9_canPay 14 = .ok (.iload_n 2, 1) := by decide +kernel
theorem dX9_canPay_15 : decode cX9_canPay 15 = .ok (.ifCond .eq 21, 3) := by decide +kernel
theorem dX9_canPay_18 : decode cX9_canPay 18 = .ok (.aload_n 0, 1) := by decide +kernel
theorem dX9_canPay_19 : decode cX9_canPay 19 = .ok (.getfield 7, 3) := by decide +kernel
theorem dX9_canPay_22 : decode cX9_canPay 22 = .ok (.iload_n 3, 1) := by decide +kernel
theorem dX9_canPay_23 : decode cX9_canPay 23 = .ok (.iconst 0, 1) := by decide +kernel
theorem dX9_canPay_24 : decode cX9_canPay 24 = .ok (.invokestatic 51, 3) := by decide +kernel
theorem dX9_canPay_27 : decode cX9_canPay 27 = .ok (.iaload, 1) := by decide +kernel
theorem dX9_canPay_28 : decode cX9_canPay 28 = .ok (.iload_n 1, 1) := by decide +kernel
theorem dX9_canPay_29 : decode cX9_canPay 29 = .ok (.if_icmp .lt 7, 3) := by decide +kernel
theorem dX9_canPay_32 : decode cX9_canPay 32 = .ok (.iconst 1, 1) := by decide +kernel
theorem dX9_canPay_33 : decode cX9_canPay 33 = .ok (.goto 4, 3) := by decide +kernel
theorem dX9_canPay_36 : decode cX9_canPay 36 = .ok (.iconst 0, 1) := by decide +kernel
theorem dX9_canPay_37 : decode cX9_canPay 37 = .ok (.istore_n 2, 1) := by decide +kernel
theorem dX9_canPay_38 : decode cX9_canPay 38 = .ok (.iinc 3 1, 3) := by decide +kernel
theorem dX9_canPay_41 : decode cX9_canPay 41 = .ok (.goto (-37), 3) := by decide +kernel
theorem dX9_canPay_44 : decode cX9_canPay 44 = .ok (.iload_n 2, 1) := by decide +kernel
theorem dX9_canPay_45 : decode cX9_canPay 45 = .ok (.ireturn, 1) := by decide +kernel
theorem dX9_begin_0 : decode cX9_begin 0 = .ok (.iload_n 1, 1) := by decide +kernel
theorem dX9_begin_1 : decode cX9_begin 1 = .ok (.iconst 1, 1) := by decide +kernel
theorem dX9_begin_2 : decode cX9_begin 2 = .ok (.bipush 50, 2) := by decide +kernel
theorem dX9_begin_4 : decode cX9_begin 4 = .ok (.invokestatic 40, 3) := by decide +kernel
theorem dX9_begin_7 : decode cX9_begin 7 = .ok (.ifCond .ne 5, 3) := by decide +kernel
theorem dX9_begin_10 : decode cX9_begin 10 = .ok (.iconst (-1), 1) := by decide +kernel
theorem dX9_begin_11 : decode cX9_begin 11 = .ok (.ireturn, 1) := by decide +kernel
theorem dX9_begin_12 : decode cX9_begin 12 = .ok (.aload_n 0, 1) := by decide +kernel
theorem dX9_begin_13 : decode cX9_begin 13 = .ok (.invokevirtual 44, 3) := by decide +kernel
theorem dX9_begin_16 : decode cX9_begin 16 = .ok (.ifCond .ne 29, 3) := by decide +kernel
theorem dX9_begin_19 : decode cX9_begin 19 = .ok (.aload_n 0, 1) := by decide +kernel
theorem dX9_begin_20 : decode cX9_begin 20 = .ok (.getfield 7, 3) := by decide +kernel
theorem dX9_begin_23 : decode cX9_begin 23 = .ok (.iconst 0, 1) := by decide +kernel
theorem dX9_begin_24 : decode cX9_begin 24 = .ok (.iaload, 1) := by decide +kernel
theorem dX9_begin_25 : decode cX9_begin 25 = .ok (.ifCond .eq 20, 3) := by decide +kernel
theorem dX9_begin_28 : decode cX9_begin 28 = .ok (.aload_n 0, 1) := by decide +kernel
theorem dX9_begin_29 : decode cX9_begin 29 = .ok (.getfield 7, 3) := by decide +kernel
theorem dX9_begin_32 : decode cX9_begin 32 = .ok (.iconst 1, 1) := by decide +kernel
theorem dX9_begin_33 : decode cX9_begin 33 = .ok (.iaload, 1) := by decide +kernel
theorem dX9_begin_34 : decode cX9_begin 34 = .ok (.ifCond .eq 11, 3) := by decide +kernel
theorem dX9_begin_37 : decode cX9_begin 37 = .ok (.aload_n 0, 1) := by decide +kernel
theorem dX9_begin_38 : decode cX9_begin 38 = .ok (.iload_n 1, 1) := by decide +kernel
theorem dX9_begin_39 : decode cX9_begin 39 = .ok (.invokevirtual 68, 3) := by decide +kernel
theorem dX9_begin_42 : decode cX9_begin 42 = .ok (.ifCond .ne 6, 3) := by decide +kernel
theorem dX9_begin_45 : decode cX9_begin 45 = .ok (.bipush (-2), 2) := by decide +kernel
theorem dX9_begin_47 : decode cX9_begin 47 = .ok (.ireturn, 1) := by decide +kernel
theorem dX9_begin_48 : decode cX9_begin 48 = .ok (.aload_n 0, 1) := by decide +kernel
theorem dX9_begin_49 : decode cX9_begin 49 = .ok (.invokevirtual 48, 3) := by decide +kernel
theorem dX9_begin_52 : decode cX9_begin 52 = .ok (.aload_n 0, 1) := by decide +kernel
theorem dX9_begin_53 : decode cX9_begin 53 = .ok (.getfield 7, 3) := by decide +kernel
theorem dX9_begin_56 : decode cX9_begin 56 = .ok (.bipush 10, 2) := by decide +kernel
theorem dX9_begin_58 : decode cX9_begin 58 = .ok (.aload_n 0, 1) := by decide +kernel
theorem dX9_begin_59 : decode cX9_begin 59 = .ok (.invokevirtual 71, 3) := by decide +kernel
theorem dX9_begin_62 : decode cX9_begin 62 = .ok (.iastore, 1) := by decide +kernel
theorem dX9_begin_63 : decode cX9_begin 63 = .ok (.aload_n 0, 1) := by decide +kernel
theorem dX9_begin_64 : decode cX9_begin 64 = .ok (.getfield 7, 3) := by decide +kernel
theorem dX9_begin_67 : decode cX9_begin 67 = .ok (.bipush 13, 2) := by decide +kernel
theorem dX9_begin_69 : decode cX9_begin 69 = .ok (.aload_n 0, 1) := by decide +kernel
theorem dX9_begin_70 : decode cX9_begin 70 = .ok (.aload_n 0, 1) := by decide +kernel
theorem dX9_begin_71 : decode cX9_begin 71 = .ok (.getfield 7, 3) := by decide +kernel
theorem dX9_begin_74 : decode cX9_begin 74 = .ok (.bipush 10, 2) := by decide +kernel
theorem dX9_begin_76 : decode cX9_begin 76 = .ok (.iaload, 1) := by decide +kernel
theorem dX9_begin_77 : decode cX9_begin 77 = .ok (.invokevirtual 74, 3) := by decide +kernel
theorem dX9_begin_80 : decode cX9_begin 80 = .ok (.iastore, 1) := by decide +kernel
theorem dX9_begin_81 : decode cX9_begin 81 = .ok (.aload_n 0, 1) := by decide +kernel
theorem dX9_begin_82 : decode cX9_begin 82 = .ok (.getfield 7, 3) := by decide +kernel
theorem dX9_begin_85 : decode cX9_begin 85 = .ok (.bipush 16, 2) := by decide +kernel
theorem dX9_begin_87 : decode cX9_begin 87 = .ok (.bipush 11, 2) := by decide +kernel
theorem dX9_begin_89 : decode cX9_begin 89 = .ok (.aload_n 0, 1) := by decide +kernel
theorem dX9_begin_90 : decode cX9_begin 90 = .ok (.getfield 7, 3) := by decide +kernel
theorem dX9_begin_93 : decode cX9_begin 93 = .ok (.bipush 13, 2) := by decide +kernel
theorem dX9_begin_95 : decode cX9_begin 95 = .ok (.iaload, 1) := by decide +kernel
theorem dX9_begin_96 : decode cX9_begin 96 = .ok (.imul, 1) := by decide +kernel
theorem dX9_begin_97 : decode cX9_begin 97 = .ok (.iadd, 1) := by decide +kernel
theorem dX9_begin_98 : decode cX9_begin 98 = .ok (.iconst 2, 1) := by decide +kernel
theorem dX9_begin_99 : decode cX9_begin 99 = .ok (.iadd, 1) := by decide +kernel
theorem dX9_begin_100 : decode cX9_begin 100 = .ok (.dup2, 1) := by decide +kernel
theorem dX9_begin_101 : decode cX9_begin 101 = .ok (.iaload, 1) := by decide +kernel
theorem dX9_begin_102 : decode cX9_begin 102 = .ok (.iconst 1, 1) := by decide +kernel
theorem dX9_begin_103 : decode cX9_begin 103 = .ok (.iadd, 1) := by decide +kernel
theorem dX9_begin_104 : decode cX9_begin 104 = .ok (.iastore, 1) := by decide +kernel
theorem dX9_begin_105 : decode cX9_begin 105 = .ok (.aload_n 0, 1) := by decide +kernel
theorem dX9_begin_106 : decode cX9_begin 106 = .ok (.getfield 7, 3) := by decide +kernel
theorem dX9_begin_109 : decode cX9_begin 109 = .ok (.bipush 12, 2) := by decide +kernel
theorem dX9_begin_111 : decode cX9_begin 111 = .ok (.aload_n 0, 1) := by decide +kernel
theorem dX9_begin_112 : decode cX9_begin 112 = .ok (.getfield 7, 3) := by decide +kernel
theorem dX9_begin_115 : decode cX9_begin 115 = .ok (.bipush 12, 2) := by decide +kernel
theorem dX9_begin_117 : decode cX9_begin 117 = .ok (.iaload, 1) := by decide +kernel
theorem dX9_begin_118 : decode cX9_begin 118 = .ok (.iconst 1, 1) := by decide +kernel
theorem dX9_begin_119 : decode cX9_begin 119 = .ok (.iadd, 1) := by decide +kernel
theorem dX9_begin_120 : decode cX9_begin 120 = .ok (.aload_n 0, 1) := by decide +kernel
theorem dX9_begin_121 : decode cX9_begin 121 = .ok (.getfield 7, 3) := by decide +kernel
theorem dX9_begin_124 : decode cX9_begin 124 = .ok (.iconst 1, 1) := by decide +kernel
theorem dX9_begin_125 : decode cX9_begin 125 = .ok (.iaload, 1) := by decide +kernel
theorem dX9_begin_126 : decode cX9_begin 126 = .ok (.irem, 1) := by decide +kernel
theorem dX9_begin_127 : decode cX9_begin 127 = .ok (.iastore, 1) := by decide +kernel
theorem dX9_begin_128 : decode cX9_begin 128 = .ok (.aload_n 0, 1) := by decide +kernel
theorem dX9_begin_129 : decode cX9_begin 129 = .ok (.getfield 7, 3) := by decide +kernel
theorem dX9_begin_132 : decode cX9_begin 132 = .ok (.iconst 3, 1) := by decide +kernel
theorem dX9_begin_133 : decode cX9_begin 133 = .ok (.aload_n 0, 1) := by decide +kernel
theorem dX9_begin_134 : decode cX9_begin 134 = .ok (.getfield 7, 3) := by decide +kernel
theorem dX9_begin_137 : decode cX9_begin 137 = .ok (.bipush 12, 2) := by decide +kernel
theorem dX9_begin_139 : decode cX9_begin 139 = .ok (.iaload, 1) := by decide +kernel
theorem dX9_begin_140 : decode cX9_begin 140 = .ok (.iastore, 1) := by decide +kernel
theorem dX9_begin_141 : decode cX9_begin 141 = .ok (.aload_n 0, 1) := by decide +kernel
theorem dX9_begin_142 : decode cX9_begin 142 = .ok (.getfield 7, 3) := by decide +kernel
theorem dX9_begin_145 : decode cX9_begin 145 = .ok (.iconst 4, 1) := by decide +kernel
theorem dX9_begin_146 : decode cX9_begin 146 = .ok (.iload_n 1, 1) := by decide +kernel
theorem dX9_begin_147 : decode cX9_begin 147 = .ok (.aload_n 0, 1) := by decide +kernel
theorem dX9_begin_148 : decode cX9_begin 148 = .ok (.getfield 7, 3) := by decide +kernel
theorem dX9_begin_151 : decode cX9_begin 151 = .ok (.iconst 1, 1) := by decide +kernel
theorem dX9_begin_152 : decode cX9_begin 152 = .ok (.iaload, 1) := by decide +kernel
theorem dX9_begin_153 : decode cX9_begin 153 = .ok (.imul, 1) := by decide +kernel
theorem dX9_begin_154 : decode cX9_begin 154 = .ok (.iastore, 1) := by decide +kernel
theorem dX9_begin_155 : decode cX9_begin 155 = .ok (.aload_n 0, 1) := by decide +kernel
theorem dX9_begin_156 : decode cX9_begin 156 = .ok (.getfield 7, 3) := by decide +kernel
theorem dX9_begin_159 : decode cX9_begin 159 = .ok (.bipush 14, 2) := by decide +kernel
theorem dX9_begin_161 : decode cX9_begin 161 = .ok (.iload_n 1, 1) := by decide +kernel
theorem dX9_begin_162 : decode cX9_begin 162 = .ok (.iastore, 1) := by decide +kernel
theorem dX9_begin_163 : decode cX9_begin 163 = .ok (.aload_n 0, 1) := by decide +kernel
theorem dX9_begin_164 : decode cX9_begin 164 = .ok (.getfield 7, 3) := by decide +kernel
theorem dX9_begin_167 : decode cX9_begin 167 = .ok (.iconst 5, 1) := by decide +kernel
theorem dX9_begin_168 : decode cX9_begin 168 = .ok (.iconst 0, 1) := by decide +kernel
theorem dX9_begin_169 : decode cX9_begin 169 = .ok (.iastore, 1) := by decide +kernel
theorem dX9_begin_170 : decode cX9_begin 170 = .ok (.aload_n 0, 1) := by decide +kernel
theorem dX9_begin_171 : decode cX9_begin 171 = .ok (.getfield 7, 3) := by decide +kernel
theorem dX9_begin_174 : decode cX9_begin 174 = .ok (.bipush 6, 2) := by decide +kernel
theorem dX9_begin_176 : decode cX9_begin 176 = .ok (.iconst 0, 1) := by decide +kernel
theorem dX9_begin_177 : decode cX9_begin 177 = .ok (.iastore, 1) := by decide +kernel
theorem dX9_begin_178 : decode cX9_begin 178 = .ok (.aload_n 0, 1) := by decide +kernel
theorem dX9_begin_179 : decode cX9_begin 179 = .ok (.getfield 7, 3) := by decide +kernel
theorem dX9_begin_182 : decode cX9_begin 182 = .ok (.bipush 7, 2) := by decide +kernel
theorem dX9_begin_184 : decode cX9_begin 184 = .ok (.iconst 0, 1) := by decide +kernel
theorem dX9_begin_185 : decode cX9_begin 185 = .ok (.iastore, 1) := by decide +kernel
theorem dX9_begin_186 : decode cX9_begin 186 = .ok (.aload_n 0, 1) := by decide +kernel
theorem dX9_begin_187 : decode cX9_begin 187 = .ok (.getfield 7, 3) := by decide +kernel
theorem dX9_begin_190 : decode cX9_begin 190 = .ok (.iconst 2, 1) := by decide +kernel
theorem dX9_begin_191 : decode cX9_begin 191 = .ok (.iconst 1, 1) := by decide +kernel
theorem dX9_begin_192 : decode cX9_begin 192 = .ok (.iastore, 1) := by decide +kernel
theorem dX9_begin_193 : decode cX9_begin 193 = .ok (.aload_n 0, 1) := by decide +kernel
theorem dX9_begin_194 : decode cX9_begin 194 = .ok (.getfield 7, 3) := by decide +kernel
theorem dX9_begin_197 : decode cX9_begin 197 = .ok (.bipush 8, 2) := by decide +kernel
theorem dX9_begin_199 : decode cX9_begin 199 = .ok (.dup2, 1) := by decide +kernel
theorem dX9_begin_200 : decode cX9_begin 200 = .ok (.iaload, 1) := by decide +kernel
theorem dX9_begin_201 : decode cX9_begin 201 = .ok (.iconst 1, 1) := by decide +kernel
theorem dX9_begin_202 : decode cX9_begin 202 = .ok (.iadd, 1) := by decide +kernel
theorem dX9_begin_203 : decode cX9_begin 203 = .ok (.iastore, 1) := by decide +kernel
theorem dX9_begin_204 : decode cX9_begin 204 = .ok (.iconst 0, 1) := by decide +kernel
theorem dX9_begin_205 : decode cX9_begin 205 = .ok (.istore_n 2, 1) := by decide +kernel
theorem dX9_begin_206 : decode cX9_begin 206 = .ok (.iload_n 2, 1) := by decide +kernel
theorem dX9_begin_207 : decode cX9_begin 207 = .ok (.aload_n 0, 1) := by decide +kernel
theorem dX9_begin_208 : decode cX9_begin 208 = .ok (.getfield 7, 3) := by decide +kernel
theorem dX9_begin_211 : decode cX9_begin 211 = .ok (.iconst 1, 1) := by decide +kernel
theorem dX9_begin_212 : decode cX9_begin 212 = .ok (.iaload, 1) := by decide +kernel
theorem dX9_begin_213 : decode cX9_begin 213 = .ok (.if_icmp .ge 35, 3) := by decide +kernel
theorem dX9_begin_216 : decode cX9_begin 216 = .ok (.aload_n 0, 1) := by decide +kernel
theorem dX9_begin_217 : decode cX9_begin 217 = .ok (.getfield 7, 3) := by decide +kernel
theorem dX9_begin_220 : decode cX9_begin 220 = .ok (.iload_n 2, 1) := by decide +kernel
theorem dX9_begin_221 : decode cX9_begin 221 = .ok (.iconst 0, 1) := by decide +kernel
theorem dX9_begin_222 : decode cX9_begin 222 = .ok (.invokestatic 51, 3) := by decide +kernel
theorem dX9_begin_225 : decode cX9_begin 225 = .ok (.dup2, 1) := by decide +kernel
theorem dX9_begin_226 : decode cX9_begin 226 = .ok (.iaload, 1) := by decide +kernel
theorem dX9_begin_227 : decode cX9_begin 227 = .ok (.iload_n 1, 1) := by decide +kernel
theorem dX9_begin_228 : decode cX9_begin 228 = .ok (.isub, 1) := by decide +kernel
theorem dX9_begin_229 : decode cX9_begin 229 = .ok (.iastore, 1) := by decide +kernel
theorem dX9_begin_230 : decode cX9_begin 230 = .ok (.aload_n 0, 1) := by decide +kernel
theorem dX9_begin_231 : decode cX9_begin 231 = .ok (.getfield 7, 3) := by decide +kernel
theorem dX9_begin_234 : decode cX9_begin 234 = .ok (.iload_n 2, 1) := by decide +kernel
theorem dX9_begin_235 : decode cX9_begin 235 = .ok (.iconst 4, 1) := by decide +kernel
theorem dX9_begin_236 : decode cX9_begin 236 = .ok (.invokestatic 51, 3) := by decide +kernel
theorem dX9_begin_239 : decode cX9_begin 239 = .ok (.bipush 26, 2) := by decide +kernel
theorem dX9_begin_241 : decode cX9_begin 241 = .ok (.iastore, 1) := by decide +kernel
theorem dX9_begin_242 : decode cX9_begin 242 = .ok (.iinc 2 1, 3) := by decide +kernel
theorem dX9_begin_245 : decode cX9_begin 245 = .ok (.goto (-39), 3) := by decide +kernel
theorem dX9_begin_248 : decode cX9_begin 248 = .ok (.aload_n 0, 1) := by decide +kernel
theorem dX9_begin_249 : decode cX9_begin 249 = .ok (.aload_n 0, 1) := by decide +kernel
theorem dX9_begin_250 : decode cX9_begin 250 = .ok (.getfield 7, 3) := by decide +kernel
theorem dX9_begin_253 : decode cX9_begin 253 = .ok (.bipush 13, 2) := by decide +kernel
theorem dX9_begin_255 : decode cX9_begin 255 = .ok (.iaload, 1) := by decide +kernel
theorem dX9_begin_256 : decode cX9_begin 256 = .ok (.iconst 0, 1) := by decide +kernel
theorem dX9_begin_257 : decode cX9_begin 257 = .ok (.invokevirtual 29, 3) := by decide +kernel
theorem dX9_begin_260 : decode cX9_begin 260 = .ok (.ireturn, 1) := by decide +kernel
theorem dX9_ends_0 : decode cX9_ends 0 = .ok (.iload_n 1, 1) := by decide +kernel
theorem dX9_ends_1 : decode cX9_ends 1 = .ok (.iconst 5, 1) := by decide +kernel
theorem dX9_ends_2 : decode cX9_ends 2 = .ok (.if_icmp .ne 22, 3) := by decide +kernel
theorem dX9_ends_5 : decode cX9_ends 5 = .ok (.aload_n 0, 1) := by decide +kernel
theorem dX9_ends_6 : decode cX9_ends 6 = .ok (.getfield 7, 3) := by decide +kernel
theorem dX9_ends_9 : decode cX9_ends 9 = .ok (.bipush 9, 2) := by decide +kernel
theorem dX9_ends_11 : decode cX9_ends 11 = .ok (.dup2, 1) := by decide +kernel
theorem dX9_ends_12 : decode cX9_ends 12 = .ok (.iaload, 1) := by decide +kernel
theorem dX9_ends_13 : decode cX9_ends 13 = .ok (.aload_n 0, 1) := by decide +kernel
theorem dX9_ends_14 : decode cX9_ends 14 = .ok (.getfield 7, 3) := by decide +kernel
theorem dX9_ends_17 : decode cX9_ends 17 = .ok (.iconst 4, 1) := by decide +kernel
theorem dX9_ends_18 : decode cX9_ends 18 = .ok (.iaload, 1) := by decide +kernel
theorem dX9_ends_19 : decode cX9_ends 19 = .ok (.iadd, 1) := by decide +kernel
theorem dX9_ends_20 : decode cX9_ends 20 = .ok (.iastore, 1) := by decide +kernel
theorem dX9_ends_21 : decode cX9_ends 21 = .ok (.goto 36, 3) := by decide +kernel
theorem dX9_ends_24 : decode cX9_ends 24 = .ok (.aload_n 0, 1) := by decide +kernel
theorem dX9_ends_25 : decode cX9_ends 25 = .ok (.getfield 7, 3) := by decide +kernel
theorem dX9_ends_28 : decode cX9_ends 28 = .ok (.iload_n 1, 1) := by decide +kernel
theorem dX9_ends_29 : decode cX9_ends 29 = .ok (.iconst 0, 1) := by decide +kernel
theorem dX9_ends_30 : decode cX9_ends 30 = .ok (.invokestatic 51, 3) := by decide +kernel
theorem dX9_ends_33 : decode cX9_ends 33 = .ok (.dup2, 1) := by decide +kernel
theorem dX9_ends_34 : decode cX9_ends 34 = .ok (.iaload, 1) := by decide +kernel
theorem dX9_ends_35 : decode cX9_ends 35 = .ok (.aload_n 0, 1) := by decide +kernel
theorem dX9_ends_36 : decode cX9_ends 36 = .ok (.getfield 7, 3) := by decide +kernel
theorem dX9_ends_39 : decode cX9_ends 39 = .ok (.iconst 4, 1) := by decide +kernel
theorem dX9_ends_40 : decode cX9_ends 40 = .ok (.iaload, 1) := by decide +kernel
theorem dX9_ends_41 : decode cX9_ends 41 = .ok (.iadd, 1) := by decide +kernel
theorem dX9_ends_42 : decode cX9_ends 42 = .ok (.iastore, 1) := by decide +kernel
theorem dX9_ends_43 : decode cX9_ends 43 = .ok (.aload_n 0, 1) := by decide +kernel
theorem dX9_ends_44 : decode cX9_ends 44 = .ok (.getfield 7, 3) := by decide +kernel
theorem dX9_ends_47 : decode cX9_ends 47 = .ok (.iload_n 1, 1) := by decide +kernel
theorem dX9_ends_48 : decode cX9_ends 48 = .ok (.iconst 1, 1) := by decide +kernel
theorem dX9_ends_49 : decode cX9_ends 49 = .ok (.invokestatic 51, 3) := by decide +kernel
theorem dX9_ends_52 : decode cX9_ends 52 = .ok (.dup2, 1) := by decide +kernel
theorem dX9_ends_53 : decode cX9_ends 53 = .ok (.iaload, 1) := by decide +kernel
theorem dX9_ends_54 : decode cX9_ends 54 = .ok (.iconst 1, 1) := by decide +kernel
theorem dX9_ends_55 : decode cX9_ends 55 = .ok (.iadd, 1) := by decide +kernel
theorem dX9_ends_56 : decode cX9_ends 56 = .ok (.iastore, 1) := by decide +kernel
theorem dX9_ends_57 : decode cX9_ends 57 = .ok (.aload_n 0, 1) := by decide +kernel
theorem dX9_ends_58 : decode cX9_ends 58 = .ok (.getfield 7, 3) := by decide +kernel
theorem dX9_ends_61 : decode cX9_ends 61 = .ok (.iconst 2, 1) := by decide +kernel
theorem dX9_ends_62 : decode cX9_ends 62 = .ok (.iconst 0, 1) := by decide +kernel
theorem dX9_ends_63 : decode cX9_ends 63 = .ok (.iastore, 1) := by decide +kernel
theorem dX9_ends_64 : decode cX9_ends 64 = .ok (.iconst 0, 1) := by decide +kernel
theorem dX9_ends_65 : decode cX9_ends 65 = .ok (.istore_n 2, 1) := by decide +kernel
theorem dX9_ends_66 : decode cX9_ends 66 = .ok (.iload_n 2, 1) := by decide +kernel
theorem dX9_ends_67 : decode cX9_ends 67 = .ok (.aload_n 0, 1) := by decide +kernel
theorem dX9_ends_68 : decode cX9_ends 68 = .ok (.getfield 7, 3) := by decide +kernel
theorem dX9_ends_71 : decode cX9_ends 71 = .ok (.iconst 1, 1) := by decide +kernel
theorem dX9_ends_72 : decode cX9_ends 72 = .ok (.iaload, 1) := by decide +kernel
theorem dX9_ends_73 : decode cX9_ends 73 = .ok (.if_icmp .ge 21, 3) := by decide +kernel
theorem dX9_ends_76 : decode cX9_ends 76 = .ok (.aload_n 0, 1) := by decide +kernel
theorem dX9_ends_77 : decode cX9_ends 77 = .ok (.getfield 7, 3) := by decide +kernel
theorem dX9_ends_80 : decode cX9_ends 80 = .ok (.iload_n 2, 1) := by decide +kernel
theorem dX9_ends_81 : decode cX9_ends 81 = .ok (.iconst 4, 1) := by decide +kernel
theorem dX9_ends_82 : decode cX9_ends 82 = .ok (.invokestatic 51, 3) := by decide +kernel
theorem dX9_ends_85 : decode cX9_ends 85 = .ok (.bipush 26, 2) := by decide +kernel
theorem dX9_ends_87 : decode cX9_ends 87 = .ok (.iastore, 1) := by decide +kernel
theorem dX9_ends_88 : decode cX9_ends 88 = .ok (.iinc 2 1, 3) := by decide +kernel
theorem dX9_ends_91 : decode cX9_ends 91 = .ok (.goto (-25), 3) := by decide +kernel
theorem dX9_ends_94 : decode cX9_ends 94 = .ok (.sipush 245, 3) := by decide +kernel
theorem dX9_ends_97 : decode cX9_ends 97 = .ok (.istore_n 2, 1) := by decide +kernel
theorem dX9_ends_98 : decode cX9_ends 98 = .ok (.iload_n 2, 1) := by decide +kernel
theorem dX9_ends_99 : decode cX9_ends 99 = .ok (.sipush 226, 3) := by decide +kernel
theorem dX9_ends_102 : decode cX9_ends 102 = .ok (.if_icmp .lt 23, 3) := by decide +kernel
theorem dX9_ends_105 : decode cX9_ends 105 = .ok (.aload_n 0, 1) := by decide +kernel
theorem dX9_ends_106 : decode cX9_ends 106 = .ok (.getfield 7, 3) := by decide +kernel
theorem dX9_ends_109 : decode cX9_ends 109 = .ok (.iload_n 2, 1) := by decide +kernel
theorem dX9_ends_110 : decode cX9_ends 110 = .ok (.aload_n 0, 1) := by decide +kernel
theorem dX9_ends_111 : decode cX9_ends 111 = .ok (.getfield 7, 3) := by decide +kernel
theorem dX9_ends_114 : decode cX9_ends 114 = .ok (.iload_n 2, 1) := by decide +kernel
theorem dX9_ends_115 : decode cX9_ends 115 = .ok (.iconst 4, 1) := by decide +kernel
theorem dX9_ends_116 : decode cX9_ends 116 = .ok (.isub, 1) := by decide +kernel
theorem dX9_ends_117 : decode cX9_ends 117 = .ok (.iaload, 1) := by decide +kernel
theorem dX9_ends_118 : decode cX9_ends 118 = .ok (.iastore, 1) := by decide +kernel
theorem dX9_ends_119 : decode cX9_ends 119 = .ok (.iinc 2 (-1), 3) := by decide +kernel
theorem dX9_ends_122 : decode cX9_ends 122 = .ok (.goto (-24), 3) := by decide +kernel
theorem dX9_ends_125 : decode cX9_ends 125 = .ok (.aload_n 0, 1) := by decide +kernel
theorem dX9_ends_126 : decode cX9_ends 126 = .ok (.getfield 7, 3) := by decide +kernel
theorem dX9_ends_129 : decode cX9_ends 129 = .ok (.sipush 222, 3) := by decide +kernel
theorem dX9_ends_132 : decode cX9_ends 132 = .ok (.aload_n 0, 1) := by decide +kernel
theorem dX9_ends_133 : decode cX9_ends 133 = .ok (.getfield 7, 3) := by decide +kernel
theorem dX9_ends_136 : decode cX9_ends 136 = .ok (.bipush 13, 2) := by decide +kernel
theorem dX9_ends_138 : decode cX9_ends 138 = .ok (.iaload, 1) := by decide +kernel
theorem dX9_ends_139 : decode cX9_ends 139 = .ok (.iastore, 1) := by decide +kernel
theorem dX9_ends_140 : decode cX9_ends 140 = .ok (.aload_n 0, 1) := by decide +kernel
theorem dX9_ends_141 : decode cX9_ends 141 = .ok (.getfield 7, 3) := by decide +kernel
theorem dX9_ends_144 : decode cX9_ends 144 = .ok (.sipush 223, 3) := by decide +kernel
theorem dX9_ends_147 : decode cX9_ends 147 = .ok (.iload_n 1, 1) := by decide +kernel
theorem dX9_ends_148 : decode cX9_ends 148 = .ok (.iastore, 1) := by decide +kernel
theorem dX9_ends_149 : decode cX9_ends 149 = .ok (.aload_n 0, 1) := by decide +kernel
theorem dX9_ends_150 : decode cX9_ends 150 = .ok (.getfield 7, 3) := by decide +kernel
theorem dX9_ends_153 : decode cX9_ends 153 = .ok (.sipush 224, 3) := by decide +kernel
theorem dX9_ends_156 : decode cX9_ends 156 = .ok (.aload_n 0, 1) := by decide +kernel
theorem dX9_ends_157 : decode cX9_ends 157 = .ok (.getfield 7, 3) := by decide +kernel
theorem dX9_ends_160 : decode cX9_ends 160 = .ok (.iconst 5, 1) := by decide +kernel
theorem dX9_ends_161 : decode cX9_ends 161 = .ok (.iaload, 1) := by decide +kernel
theorem dX9_ends_162 : decode cX9_ends 162 = .ok (.iastore, 1) := by decide +kernel
theorem dX9_ends_163 : decode cX9_ends 163 = .ok (.aload_n 0, 1) := by decide +kernel
theorem dX9_ends_164 : decode cX9_ends 164 = .ok (.getfield 7, 3) := by decide +kernel
theorem dX9_ends_167 : decode cX9_ends 167 = .ok (.sipush 225, 3) := by decide +kernel
theorem dX9_ends_170 : decode cX9_ends 170 = .ok (.aload_n 0, 1) := by decide +kernel
theorem dX9_ends_171 : decode cX9_ends 171 = .ok (.getfield 7, 3) := by decide +kernel
theorem dX9_ends_174 : decode cX9_ends 174 = .ok (.bipush 14, 2) := by decide +kernel
theorem dX9_ends_176 : decode cX9_ends 176 = .ok (.iaload, 1) := by decide +kernel
theorem dX9_ends_177 : decode cX9_ends 177 = .ok (.iastore, 1) := by decide +kernel
theorem dX9_ends_178 : decode cX9_ends 178 = .ok (.aload_n 0, 1) := by decide +kernel
theorem dX9_ends_179 : decode cX9_ends 179 = .ok (.getfield 7, 3) := by decide +kernel
theorem dX9_ends_182 : decode cX9_ends 182 = .ok (.bipush 15, 2) := by decide +kernel
theorem dX9_ends_184 : decode cX9_ends 184 = .ok (.aload_n 0, 1) := by decide +kernel
theorem dX9_ends_185 : decode cX9_ends 185 = .ok (.getfield 7, 3) := by decide +kernel
theorem dX9_ends_188 : decode cX9_ends 188 = .ok (.bipush 15, 2) := by decide +kernel
theorem dX9_ends_190 : decode cX9_ends 190 = .ok (.iaload, 1) := by decide +kernel
theorem dX9_ends_191 : decode cX9_ends 191 = .ok (.bipush 6, 2) := by decide +kernel
theorem dX9_ends_193 : decode cX9_ends 193 = .ok (.if_icmp .ge 15, 3) := by decide +kernel
theorem dX9_ends_196 : decode cX9_ends 196 = .ok (.aload_n 0, 1) := by decide +kernel
theorem dX9_ends_197 : decode cX9_ends 197 = .ok (.getfield 7, 3) := by decide +kernel
theorem dX9_ends_200 : decode cX9_ends 200 = .ok (.bipush 15, 2) := by decide +kernel
theorem dX9_ends_202 : decode cX9_ends 202 = .ok (.iaload, 1) := by decide +kernel
theorem dX9_ends_203 : decode cX9_ends 203 = .ok (.iconst 1, 1) := by decide +kernel
theorem dX9_ends_204 : decode cX9_ends 204 = .ok (.iadd, 1) := by decide +kernel
theorem dX9_ends_205 : decode cX9_ends 205 = .ok (.goto 5, 3) := by decide +kernel
theorem dX9_ends_208 : decode cX9_ends 208 = .ok (.bipush 6, 2) := by decide +kernel
theorem dX9_ends_210 : decode cX9_ends 210 = .ok (.iastore, 1) := by decide +kernel
theorem dX9_ends_211 : decode cX9_ends 211 = .ok (.return_, 1) := by decide +kernel
theorem dX9_misses_0 : decode cX9_misses 0 = .ok (.aload_n 0, 1) := by decide +kernel
theorem dX9_misses_1 : decode cX9_misses 1 = .ok (.getfield 7, 3) := by decide +kernel
theorem dX9_misses_4 : decode cX9_misses 4 = .ok (.iconst 5, 1) := by decide +kernel
theorem dX9_misses_5 : decode cX9_misses 5 = .ok (.dup2, 1) := by decide +kernel
theorem dX9_misses_6 : decode cX9_misses 6 = .ok (.iaload, 1) := by decide +kernel
theorem dX9_misses_7 : decode cX9_misses 7 = .ok (.iconst 1, 1) := by decide +kernel
theorem dX9_misses_8 : decode cX9_misses 8 = .ok (.iadd, 1) := by decide +kernel
theorem dX9_misses_9 : decode cX9_misses 9 = .ok (.iastore, 1) := by decide +kernel
theorem dX9_misses_10 : decode cX9_misses 10 = .ok (.aload_n 0, 1) := by decide +kernel
theorem dX9_misses_11 : decode cX9_misses 11 = .ok (.getfield 7, 3) := by decide +kernel
theorem dX9_misses_14 : decode cX9_misses 14 = .ok (.aload_n 0, 1) := by decide +kernel
theorem dX9_misses_15 : decode cX9_misses 15 = .ok (.getfield 7, 3) := by decide +kernel
theorem dX9_misses_18 : decode cX9_misses 18 = .ok (.iconst 3, 1) := by decide +kernel
theorem dX9_misses_19 : decode cX9_misses 19 = .ok (.iaload, 1) := by decide +kernel
theorem dX9_misses_20 : decode cX9_misses 20 = .ok (.iconst 3, 1) := by decide +kernel
theorem dX9_misses_21 : decode cX9_misses 21 = .ok (.invokestatic 51, 3) := by decide +kernel
theorem dX9_misses_24 : decode cX9_misses 24 = .ok (.dup2, 1) := by decide +kernel
theorem dX9_misses_25 : decode cX9_misses 25 = .ok (.iaload, 1) := by decide +kernel
theorem dX9_misses_26 : decode cX9_misses 26 = .ok (.iconst 1, 1) := by decide +kernel
theorem dX9_misses_27 : decode cX9_misses 27 = .ok (.iadd, 1) := by decide +kernel
theorem dX9_misses_28 : decode cX9_misses 28 = .ok (.iastore, 1) := by decide +kernel
theorem dX9_misses_29 : decode cX9_misses 29 = .ok (.aload_n 0, 1) := by decide +kernel
theorem dX9_misses_30 : decode cX9_misses 30 = .ok (.getfield 7, 3) := by decide +kernel
theorem dX9_misses_33 : decode cX9_misses 33 = .ok (.iconst 3, 1) := by decide +kernel
theorem dX9_misses_34 : decode cX9_misses 34 = .ok (.aload_n 0, 1) := by decide +kernel
theorem dX9_misses_35 : decode cX9_misses 35 = .ok (.getfield 7, 3) := by decide +kernel
theorem dX9_misses_38 : decode cX9_misses 38 = .ok (.iconst 3, 1) := by decide +kernel
theorem dX9_misses_39 : decode cX9_misses 39 = .ok (.iaload, 1) := by decide +kernel
theorem dX9_misses_40 : decode cX9_misses 40 = .ok (.iconst 1, 1) := by decide +kernel
theorem dX9_misses_41 : decode cX9_misses 41 = .ok (.iadd, 1) := by decide +kernel
theorem dX9_misses_42 : decode cX9_misses 42 = .ok (.aload_n 0, 1) := by decide +kernel
theorem dX9_misses_43 : decode cX9_misses 43 = .ok (.getfield 7, 3) := by decide +kernel
theorem dX9_misses_46 : decode cX9_misses 46 = .ok (.iconst 1, 1) := by decide +kernel
theorem dX9_misses_47 : decode cX9_misses 47 = .ok (.iaload, 1) := by decide +kernel
theorem dX9_misses_48 : decode cX9_misses 48 = .ok (.irem, 1) := by decide +kernel
theorem dX9_misses_49 : decode cX9_misses 49 = .ok (.iastore, 1) := by decide +kernel
theorem dX9_misses_50 : decode cX9_misses 50 = .ok (.aload_n 0, 1) := by decide +kernel
theorem dX9_misses_51 : decode cX9_misses 51 = .ok (.getfield 7, 3) := by decide +kernel
theorem dX9_misses_54 : decode cX9_misses 54 = .ok (.iconst 5, 1) := by decide +kernel
theorem dX9_misses_55 : decode cX9_misses 55 = .ok (.iaload, 1) := by decide +kernel
theorem dX9_misses_56 : decode cX9_misses 56 = .ok (.aload_n 0, 1) := by decide +kernel
theorem dX9_misses_57 : decode cX9_misses 57 = .ok (.getfield 7, 3) := by decide +kernel
theorem dX9_misses_60 : decode cX9_misses 60 = .ok (.bipush 11, 2) := by decide +kernel
theorem dX9_misses_62 : decode cX9_misses 62 = .ok (.iaload, 1) := by decide +kernel
theorem dX9_misses_63 : decode cX9_misses 63 = .ok (.if_icmp .ne 8, 3) := by decide +kernel
theorem dX9_misses_66 : decode cX9_misses 66 = .ok (.aload_n 0, 1) := by decide +kernel
theorem dX9_misses_67 : decode cX9_misses 67 = .ok (.iconst 5, 1) := by decide +kernel
theorem dX9_misses_68 : decode cX9_misses 68 = .ok (.invokevirtual 78, 3) := by decide +kernel
theorem dX9_misses_71 : decode cX9_misses 71 = .ok (.return_, 1) := by decide +kernel
theorem dX9_hits_0 : decode cX9_hits 0 = .ok (.aload_n 0, 1) := by decide +kernel
theorem dX9_hits_1 : decode cX9_hits 1 = .ok (.getfield 7, 3) := by decide +kernel
theorem dX9_hits_4 : decode cX9_hits 4 = .ok (.iconst 3, 1) := by decide +kernel
theorem dX9_hits_5 : decode cX9_hits 5 = .ok (.iaload, 1) := by decide +kernel
theorem dX9_hits_6 : decode cX9_hits 6 = .ok (.istore 4, 2) := by decide +kernel
theorem dX9_hits_8 : decode cX9_hits 8 = .ok (.iload_n 1, 1) := by decide +kernel
theorem dX9_hits_9 : decode cX9_hits 9 = .ok (.invokestatic 82, 3) := by decide +kernel
theorem dX9_hits_12 : decode cX9_hits 12 = .ok (.aload_n 0, 1) := by decide +kernel
theorem dX9_hits_13 : decode cX9_hits 13 = .ok (.getfield 7, 3) := by decide +kernel
theorem dX9_hits_16 : decode cX9_hits 16 = .ok (.iconst 4, 1) := by decide +kernel
theorem dX9_hits_17 : decode cX9_hits 17 = .ok (.iaload, 1) := by decide +kernel
theorem dX9_hits_18 : decode cX9_hits 18 = .ok (.if_icmp .ge 10, 3) := by decide +kernel
theorem dX9_hits_21 : decode cX9_hits 21 = .ok (.iload_n 1, 1) := by decide +kernel
theorem dX9_hits_22 : decode cX9_hits 22 = .ok (.invokestatic 82, 3) := by decide +kernel
theorem dX9_hits_25 : decode cX9_hits 25 = .ok (.goto 9, 3) := by decide +kernel
theorem dX9_hits_28 : decode cX9_hits 28 = .ok (.aload_n 0, 1) := by decide +kernel
theorem dX9_hits_29 : decode cX9_hits 29 = .ok (.getfield 7, 3) := by decide +kernel
theorem dX9_hits_32 : decode cX9_hits 32 = .ok (.iconst 4, 1) := by decide +kernel
theorem dX9_hits_33 : decode cX9_hits 33 = .ok (.iaload, 1) := by decide +kernel
theorem dX9_hits_34 : decode cX9_hits 34 = .ok (.istore 5, 2) := by decide +kernel
theorem dX9_hits_36 : decode cX9_hits 36 = .ok (.iload_n 2, 1) := by decide +kernel
theorem dX9_hits_37 : decode cX9_hits 37 = .ok (.ifCond .eq 10, 3) := by decide +kernel
theorem dX9_hits_40 : decode cX9_hits 40 = .ok (.iload 5, 2) := by decide +kernel
theorem dX9_hits_42 : decode cX9_hits 42 = .ok (.iconst 2, 1) := by decide +kernel
theorem dX9_hits_43 : decode cX9_hits 43 = .ok (.idiv, 1) := by decide +kernel
theorem dX9_hits_44 : decode cX9_hits 44 = .ok (.goto 4, 3) := by decide +kernel
theorem dX9_hits_47 : decode cX9_hits 47 = .ok (.iconst 0, 1) := by decide +kernel
theorem dX9_hits_48 : decode cX9_hits 48 = .ok (.istore 6, 2) := by decide +kernel
theorem dX9_hits_50 : decode cX9_hits 50 = .ok (.aload_n 0, 1) := by decide +kernel
theorem dX9_hits_51 : decode cX9_hits 51 = .ok (.getfield 7, 3) := by decide +kernel
theorem dX9_hits_54 : decode cX9_hits 54 = .ok (.iconst 4, 1) := by decide +kernel
theorem dX9_hits_55 : decode cX9_hits 55 = .ok (.dup2, 1) := by decide +kernel
theorem dX9_hits_56 : decode cX9_hits 56 = .ok (.iaload, 1) := by decide +kernel
theorem dX9_hits_57 : decode cX9_hits 57 = .ok (.iload 5, 2) := by decide +kernel
theorem dX9_hits_59 : decode cX9_hits 59 = .ok (.isub, 1) := by decide +kernel
theorem dX9_hits_60 : decode cX9_hits 60 = .ok (.iastore, 1) := by decide +kernel
theorem dX9_hits_61 : decode cX9_hits 61 = .ok (.aload_n 0, 1) := by decide +kernel
theorem dX9_hits_62 : decode cX9_hits 62 = .ok (.getfield 7, 3) := by decide +kernel
theorem dX9_hits_65 : decode cX9_hits 65 = .ok (.iload 4, 2) := by decide +kernel
theorem dX9_hits_67 : decode cX9_hits 67 = .ok (.iconst 0, 1) := by decide +kernel
theorem dX9_hits_68 : decode cX9_hits 68 = .ok (.invokestatic 51, 3) := by decide +kernel
theorem dX9_hits_71 : decode cX9_hits 71 = .ok (.dup2, 1) := by decide +kernel
theorem dX9_hits_72 : decode cX9_hits 72 = .ok (.iaload, 1) := by decide +kernel
theorem dX9_hits_73 : decode cX9_hits 73 = .ok (.iload 5, 2) := by decide +kernel
theorem dX9_hits_75 : decode cX9_hits 75 = .ok (.iload 6, 2) := by decide +kernel
theorem dX9_hits_77 : decode cX9_hits 77 = .ok (.isub, 1) := by decide +kernel
theorem dX9_hits_78 : decode cX9_hits 78 = .ok (.iadd, 1) := by decide +kernel
theorem dX9_hits_79 : decode cX9_hits 79 = .ok (.iastore, 1) := by decide +kernel
theorem dX9_hits_80 : decode cX9_hits 80 = .ok (.aload_n 0, 1) := by decide +kernel
theorem dX9_hits_81 : decode cX9_hits 81 = .ok (.getfield 7, 3) := by decide +kernel
theorem dX9_hits_84 : decode cX9_hits 84 = .ok (.iload_n 3, 1) := by decide +kernel
theorem dX9_hits_85 : decode cX9_hits 85 = .ok (.iconst 0, 1) := by decide +kernel
theorem dX9_hits_86 : decode cX9_hits 86 = .ok (.invokestatic 51, 3) := by decide +kernel
theorem dX9_hits_89 : decode cX9_hits 89 = .ok (.dup2, 1) := by decide +kernel
theorem dX9_hits_90 : decode cX9_hits 90 = .ok (.iaload, 1) := by decide +kernel
theorem dX9_hits_91 : decode cX9_hits 91 = .ok (.iload 6, 2) := by decide +kernel
theorem dX9_hits_93 : decode cX9_hits 93 = .ok (.iadd, 1) := by decide +kernel
theorem dX9_hits_94 : decode cX9_hits 94 = .ok (.iastore, 1) := by decide +kernel
theorem dX9_hits_95 : decode cX9_hits 95 = .ok (.aload_n 0, 1) := by decide +kernel
theorem dX9_hits_96 : decode cX9_hits 96 = .ok (.getfield 7, 3) := by decide +kernel
theorem dX9_hits_99 : decode cX9_hits 99 = .ok (.iload 4, 2) := by decide +kernel
theorem dX9_hits_101 : decode cX9_hits 101 = .ok (.iconst 2, 1) := by decide +kernel
theorem dX9_hits_102 : decode cX9_hits 102 = .ok (.invokestatic 51, 3) := by decide +kernel
theorem dX9_hits_105 : decode cX9_hits 105 = .ok (.dup2, 1) := by decide +kernel
theorem dX9_hits_106 : decode cX9_hits 106 = .ok (.iaload, 1) := by decide +kernel
theorem dX9_hits_107 : decode cX9_hits 107 = .ok (.iconst 1, 1) := by decide +kernel
theorem dX9_hits_108 : decode cX9_hits 108 = .ok (.iadd, 1) := by decide +kernel
theorem dX9_hits_109 : decode cX9_hits 109 = .ok (.iastore, 1) := by decide +kernel
theorem dX9_hits_110 : decode cX9_hits 110 = .ok (.aload_n 0, 1) := by decide +kernel
theorem dX9_hits_111 : decode cX9_hits 111 = .ok (.getfield 7, 3) := by decide +kernel
theorem dX9_hits_114 : decode cX9_hits 114 = .ok (.bipush 7, 2) := by decide +kernel
theorem dX9_hits_116 : decode cX9_hits 116 = .ok (.dup2, 1) := by decide +kernel
theorem dX9_hits_117 : decode cX9_hits 117 = .ok (.iaload, 1) := by decide +kernel
theorem dX9_hits_118 : decode cX9_hits 118 = .ok (.iload_n 1, 1) := by decide +kernel
theorem dX9_hits_119 : decode cX9_hits 119 = .ok (.ior, 1) := by decide +kernel
theorem dX9_hits_120 : decode cX9_hits 120 = .ok (.iastore, 1) := by decide +kernel
theorem dX9_hits_121 : decode cX9_hits 121 = .ok (.aload_n 0, 1) := by decide +kernel
theorem dX9_hits_122 : decode cX9_hits 122 = .ok (.getfield 7, 3) := by decide +kernel
theorem dX9_hits_125 : decode cX9_hits 125 = .ok (.bipush 7, 2) := by decide +kernel
theorem dX9_hits_127 : decode cX9_hits 127 = .ok (.iaload, 1) := by decide +kernel
theorem dX9_hits_128 : decode cX9_hits 128 = .ok (.iconst 1, 1) := by decide +kernel
theorem dX9_hits_129 : decode cX9_hits 129 = .ok (.aload_n 0, 1) := by decide +kernel
theorem dX9_hits_130 : decode cX9_hits 130 = .ok (.aload_n 0, 1) := by decide +kernel
theorem dX9_hits_131 : decode cX9_hits 131 = .ok (.getfield 7, 3) := by decide +kernel
theorem dX9_hits_134 : decode cX9_hits 134 = .ok (.bipush 13, 2) := by decide +kernel
theorem dX9_hits_136 : decode cX9_hits 136 = .ok (.iaload, 1) := by decide +kernel
theorem dX9_hits_137 : decode cX9_hits 137 = .ok (.iconst 0, 1) := by decide +kernel
theorem dX9_hits_138 : decode cX9_hits 138 = .ok (.invokevirtual 29, 3) := by decide +kernel
theorem dX9_hits_141 : decode cX9_hits 141 = .ok (.ishl, 1) := by decide +kernel
theorem dX9_hits_142 : decode cX9_hits 142 = .ok (.iconst 1, 1) := by decide +kernel
theorem dX9_hits_143 : decode cX9_hits 143 = .ok (.isub, 1) := by decide +kernel
theorem dX9_hits_144 : decode cX9_hits 144 = .ok (.if_icmp .ne 9, 3) := by decide +kernel
theorem dX9_hits_147 : decode cX9_hits 147 = .ok (.aload_n 0, 1) := by decide +kernel
theorem dX9_hits_148 : decode cX9_hits 148 = .ok (.iload 4, 2) := by decide +kernel
theorem dX9_hits_150 : decode cX9_hits 150 = .ok (.invokevirtual 78, 3) := by decide +kernel
theorem dX9_hits_153 : decode cX9_hits 153 = .ok (.return_, 1) := by decide +kernel
theorem dX9_guess_0 : decode cX9_guess 0 = .ok (.iload_n 1, 1) := by decide +kernel
theorem dX9_guess_1 : decode cX9_guess 1 = .ok (.iconst 0, 1) := by decide +kernel
theorem dX9_guess_2 : decode cX9_guess 2 = .ok (.bipush 25, 2) := by decide +kernel
theorem dX9_guess_4 : decode cX9_guess 4 = .ok (.invokestatic 40, 3) := by decide +kernel
theorem dX9_guess_7 : decode cX9_guess 7 = .ok (.ifCond .ne 5, 3) := by decide +kernel
theorem dX9_guess_10 : decode cX9_guess 10 = .ok (.iconst (-1), 1) := by decide +kernel
theorem dX9_guess_11 : decode cX9_guess 11 = .ok (.ireturn, 1) := by decide +kernel
theorem dX9_guess_12 : decode cX9_guess 12 = .ok (.aload_n 0, 1) := by decide +kernel
theorem dX9_guess_13 : decode cX9_guess 13 = .ok (.invokevirtual 44, 3) := by decide +kernel
theorem dX9_guess_16 : decode cX9_guess 16 = .ok (.ifCond .eq 18, 3) := by decide +kernel
theorem dX9_guess_19 : decode cX9_guess 19 = .ok (.aload_n 0, 1) := by decide +kernel
theorem dX9_guess_20 : decode cX9_guess 20 = .ok (.getfield 7, 3) := by decide +kernel
theorem dX9_guess_23 : decode cX9_guess 23 = .ok (.bipush 6, 2) := by decide +kernel
theorem dX9_guess_25 : decode cX9_guess 25 = .ok (.iaload, 1) := by decide +kernel
theorem dX9_guess_26 : decode cX9_guess 26 = .ok (.iload_n 1, 1) := by decide +kernel
theorem dX9_guess_27 : decode cX9_guess 27 = .ok (.ishr, 1) := by decide +kernel
theorem dX9_guess_28 : decode cX9_guess 28 = .ok (.iconst 1, 1) := by decide +kernel
theorem dX9_guess_29 : decode cX9_guess 29 = .ok (.iand, 1) := by decide +kernel
theorem dX9_guess_30 : decode cX9_guess 30 = .ok (.iconst 1, 1) := by decide +kernel
theorem dX9_guess_31 : decode cX9_guess 31 = .ok (.if_icmp .ne 6, 3) := by decide +kernel
theorem dX9_guess_34 : decode cX9_guess 34 = .ok (.bipush (-2), 2) := by decide +kernel
theorem dX9_guess_36 : decode cX9_guess 36 = .ok (.ireturn, 1) := by decide +kernel
theorem dX9_guess_37 : decode cX9_guess 37 = .ok (.aload_n 0, 1) := by decide +kernel
theorem dX9_guess_38 : decode cX9_guess 38 = .ok (.invokevirtual 48, 3) := by decide +kernel
theorem dX9_guess_41 : decode cX9_guess 41 = .ok (.aload_n 0, 1) := by decide +kernel
theorem dX9_guess_42 : decode cX9_guess 42 = .ok (.aload_n 0, 1) := by decide +kernel
theorem dX9_guess_43 : decode cX9_guess 43 = .ok (.getfield 7, 3) := by decide +kernel
theorem dX9_guess_46 : decode cX9_guess 46 = .ok (.bipush 13, 2) := by decide +kernel
theorem dX9_guess_48 : decode cX9_guess 48 = .ok (.iaload, 1) := by decide +kernel
theorem dX9_guess_49 : decode cX9_guess 49 = .ok (.iload_n 1, 1) := by decide +kernel
theorem dX9_guess_50 : decode cX9_guess 50 = .ok (.invokevirtual 85, 3) := by decide +kernel
theorem dX9_guess_53 : decode cX9_guess 53 = .ok (.istore_n 2, 1) := by decide +kernel
theorem dX9_guess_54 : decode cX9_guess 54 = .ok (.aload_n 0, 1) := by decide +kernel
theorem dX9_guess_55 : decode cX9_guess 55 = .ok (.getfield 7, 3) := by decide +kernel
theorem dX9_guess_58 : decode cX9_guess 58 = .ok (.iconst 3, 1) := by decide +kernel
theorem dX9_guess_59 : decode cX9_guess 59 = .ok (.iaload, 1) := by decide +kernel
theorem dX9_guess_60 : decode cX9_guess 60 = .ok (.istore_n 3, 1) := by decide +kernel
theorem dX9_guess_61 : decode cX9_guess 61 = .ok (.aload_n 0, 1) := by decide +kernel
theorem dX9_guess_62 : decode cX9_guess 62 = .ok (.getfield 7, 3) := by decide +kernel
theorem dX9_guess_65 : decode cX9_guess 65 = .ok (.iload_n 3, 1) := by decide +kernel
theorem dX9_guess_66 : decode cX9_guess 66 = .ok (.iconst 4, 1) := by decide +kernel
theorem dX9_guess_67 : decode cX9_guess 67 = .ok (.invokestatic 51, 3) := by decide +kernel
theorem dX9_guess_70 : decode cX9_guess 70 = .ok (.iaload, 1) := by decide +kernel
theorem dX9_guess_71 : decode cX9_guess 71 = .ok (.iload_n 1, 1) := by decide +kernel
theorem dX9_guess_72 : decode cX9_guess 72 = .ok (.if_icmp .ne 7, 3) := by decide +kernel
theorem dX9_guess_75 : decode cX9_guess 75 = .ok (.iconst 1, 1) := by decide +kernel
theorem dX9_guess_76 : decode cX9_guess 76 = .ok (.goto 4, 3) := by decide +kernel
theorem dX9_guess_79 : decode cX9_guess 79 = .ok (.iconst 0, 1) := by decide +kernel
theorem dX9_guess_80 : decode cX9_guess 80 = .ok (.istore 4, 2) := by decide +kernel
theorem dX9_guess_82 : decode cX9_guess 82 = .ok (.aload_n 0, 1) := by decide +kernel
theorem dX9_guess_83 : decode cX9_guess 83 = .ok (.getfield 7, 3) := by decide +kernel
theorem dX9_guess_86 : decode cX9_guess 86 = .ok (.iload_n 3, 1) := by decide +kernel
theorem dX9_guess_87 : decode cX9_guess 87 = .ok (.iconst 4, 1) := by decide +kernel
theorem dX9_guess_88 : decode cX9_guess 88 = .ok (.invokestatic 51, 3) := by decide +kernel
theorem dX9_guess_91 : decode cX9_guess 91 = .ok (.bipush 26, 2) := by decide +kernel
theorem dX9_guess_93 : decode cX9_guess 93 = .ok (.iastore, 1) := by decide +kernel
theorem dX9_guess_94 : decode cX9_guess 94 = .ok (.aload_n 0, 1) := by decide +kernel
theorem dX9_guess_95 : decode cX9_guess 95 = .ok (.getfield 7, 3) := by decide +kernel
theorem dX9_guess_98 : decode cX9_guess 98 = .ok (.bipush 6, 2) := by decide +kernel
theorem dX9_guess_100 : decode cX9_guess 100 = .ok (.dup2, 1) := by decide +kernel
theorem dX9_guess_101 : decode cX9_guess 101 = .ok (.iaload, 1) := by decide +kernel
theorem dX9_guess_102 : decode cX9_guess 102 = .ok (.iconst 1, 1) := by decide +kernel
theorem dX9_guess_103 : decode cX9_guess 103 = .ok (.iload_n 1, 1) := by decide +kernel
theorem dX9_guess_104 : decode cX9_guess 104 = .ok (.ishl, 1) := by decide +kernel
theorem dX9_guess_105 : decode cX9_guess 105 = .ok (.ior, 1) := by decide +kernel
theorem dX9_guess_106 : decode cX9_guess 106 = .ok (.iastore, 1) := by decide +kernel
theorem dX9_guess_107 : decode cX9_guess 107 = .ok (.iload_n 2, 1) := by decide +kernel
theorem dX9_guess_108 : decode cX9_guess 108 = .ok (.ifCond .ne 10, 3) := by decide +kernel
theorem dX9_guess_111 : decode cX9_guess 111 = .ok (.aload_n 0, 1) := by decide +kernel
theorem dX9_guess_112 : decode cX9_guess 112 = .ok (.invokevirtual 88, 3) := by decide +kernel
theorem dX9_guess_115 : decode cX9_guess 115 = .ok (.goto 29, 3) := by decide +kernel
theorem dX9_guess_118 : decode cX9_guess 118 = .ok (.aload_n 0, 1) := by decide +kernel
theorem dX9_guess_119 : decode cX9_guess 119 = .ok (.iload_n 2, 1) := by decide +kernel
theorem dX9_guess_120 : decode cX9_guess 120 = .ok (.iload 4, 2) := by decide +kernel
end
section
theorem dX9_guess_122 : decode cX9_guess 122 = .ok (.iload 4, 2) := by decide +kernel
theorem dX9_guess_124 : decode cX9_guess 124 = .ok (.ifCond .eq 16, 3) := by decide +kernel
theorem dX9_guess_127 : decode cX9_guess 127 = .ok (.aload_n 0, 1) := by decide +kernel
theorem dX9_guess_128 : decode cX9_guess 128 = .ok (.getfield 7, 3) := by decide +kernel
theorem dX9_guess_131 : decode cX9_guess 131 = .ok (.iload_n 3, 1) := by decide +kernel
theorem dX9_guess_132 : decode cX9_guess 132 = .ok (.iconst 5, 1) := by decide +kernel
theorem dX9_guess_133 : decode cX9_guess 133 = .ok (.invokestatic 51, 3) := by decide +kernel
theorem dX9_guess_136 : decode cX9_guess 136 = .ok (.iaload, 1) := by decide +kernel
theorem dX9_guess_137 : decode cX9_guess 137 = .ok (.goto 4, 3) := by decide +kernel
theorem dX9_guess_140 : decode cX9_guess 140 = .ok (.iload_n 3, 1) := by decide +kernel
theorem dX9_guess_141 : decode cX9_guess 141 = .ok (.invokevirtual 91, 3) := by decide +kernel
theorem dX9_guess_144 : decode cX9_guess 144 = .ok (.iload_n 2, 1) := by decide +kernel
theorem dX9_guess_145 : decode cX9_guess 145 = .ok (.invokestatic 82, 3) := by decide +kernel
theorem dX9_guess_148 : decode cX9_guess 148 = .ok (.ireturn, 1) := by decide +kernel
theorem dX9_tell_0 : decode cX9_tell 0 = .ok (.aload_n 0, 1) := by decide +kernel
theorem dX9_tell_1 : decode cX9_tell 1 = .ok (.iload_n 1, 1) := by decide +kernel
theorem dX9_tell_2 : decode cX9_tell 2 = .ok (.invokevirtual 36, 3) := by decide +kernel
theorem dX9_tell_5 : decode cX9_tell 5 = .ok (.ifCond .ne 5, 3) := by decide +kernel
theorem dX9_tell_8 : decode cX9_tell 8 = .ok (.iconst (-1), 1) := by decide +kernel
theorem dX9_tell_9 : decode cX9_tell 9 = .ok (.ireturn, 1) := by decide +kernel
theorem dX9_tell_10 : decode cX9_tell 10 = .ok (.aload_n 0, 1) := by decide +kernel
theorem dX9_tell_11 : decode cX9_tell 11 = .ok (.invokevirtual 44, 3) := by decide +kernel
theorem dX9_tell_14 : decode cX9_tell 14 = .ok (.ifCond .ne 6, 3) := by decide +kernel
theorem dX9_tell_17 : decode cX9_tell 17 = .ok (.bipush (-2), 2) := by decide +kernel
theorem dX9_tell_19 : decode cX9_tell 19 = .ok (.ireturn, 1) := by decide +kernel
theorem dX9_tell_20 : decode cX9_tell 20 = .ok (.aload_n 0, 1) := by decide +kernel
theorem dX9_tell_21 : decode cX9_tell 21 = .ok (.invokevirtual 48, 3) := by decide +kernel
theorem dX9_tell_24 : decode cX9_tell 24 = .ok (.iload_n 1, 1) := by decide +kernel
theorem dX9_tell_25 : decode cX9_tell 25 = .ok (.aload_n 0, 1) := by decide +kernel
theorem dX9_tell_26 : decode cX9_tell 26 = .ok (.getfield 7, 3) := by decide +kernel
theorem dX9_tell_29 : decode cX9_tell 29 = .ok (.bipush 13, 2) := by decide +kernel
theorem dX9_tell_31 : decode cX9_tell 31 = .ok (.iaload, 1) := by decide +kernel
theorem dX9_tell_32 : decode cX9_tell 32 = .ok (.if_icmp .ne 7, 3) := by decide +kernel
theorem dX9_tell_35 : decode cX9_tell 35 = .ok (.iconst 1, 1) := by decide +kernel
theorem dX9_tell_36 : decode cX9_tell 36 = .ok (.goto 4, 3) := by decide +kernel
theorem dX9_tell_39 : decode cX9_tell 39 = .ok (.iconst 0, 1) := by decide +kernel
theorem dX9_tell_40 : decode cX9_tell 40 = .ok (.istore_n 2, 1) := by decide +kernel
theorem dX9_tell_41 : decode cX9_tell 41 = .ok (.iload_n 2, 1) := by decide +kernel
theorem dX9_tell_42 : decode cX9_tell 42 = .ok (.ifCond .eq 16, 3) := by decide +kernel
theorem dX9_tell_45 : decode cX9_tell 45 = .ok (.aload_n 0, 1) := by decide +kernel
theorem dX9_tell_46 : decode cX9_tell 46 = .ok (.aload_n 0, 1) := by decide +kernel
theorem dX9_tell_47 : decode cX9_tell 47 = .ok (.getfield 7, 3) := by decide +kernel
theorem dX9_tell_50 : decode cX9_tell 50 = .ok (.iconst 3, 1) := by decide +kernel
theorem dX9_tell_51 : decode cX9_tell 51 = .ok (.iaload, 1) := by decide +kernel
theorem dX9_tell_52 : decode cX9_tell 52 = .ok (.invokevirtual 78, 3) := by decide +kernel
theorem dX9_tell_55 : decode cX9_tell 55 = .ok (.goto 7, 3) := by decide +kernel
theorem dX9_tell_58 : decode cX9_tell 58 = .ok (.aload_n 0, 1) := by decide +kernel
theorem dX9_tell_59 : decode cX9_tell 59 = .ok (.invokevirtual 88, 3) := by decide +kernel
theorem dX9_tell_62 : decode cX9_tell 62 = .ok (.iload_n 2, 1) := by decide +kernel
theorem dX9_tell_63 : decode cX9_tell 63 = .ok (.ifCond .eq 7, 3) := by decide +kernel
theorem dX9_tell_66 : decode cX9_tell 66 = .ok (.iconst 1, 1) := by decide +kernel
theorem dX9_tell_67 : decode cX9_tell 67 = .ok (.goto 4, 3) := by decide +kernel
theorem dX9_tell_70 : decode cX9_tell 70 = .ok (.iconst 0, 1) := by decide +kernel
theorem dX9_tell_71 : decode cX9_tell 71 = .ok (.ireturn, 1) := by decide +kernel
theorem dX9_whisper_0 : decode cX9_whisper 0 = .ok (.aload_n 0, 1) := by decide +kernel
theorem dX9_whisper_1 : decode cX9_whisper 1 = .ok (.iload_n 1, 1) := by decide +kernel
theorem dX9_whisper_2 : decode cX9_whisper 2 = .ok (.invokevirtual 54, 3) := by decide +kernel
theorem dX9_whisper_5 : decode cX9_whisper 5 = .ok (.ifCond .eq 21, 3) := by decide +kernel
theorem dX9_whisper_8 : decode cX9_whisper 8 = .ok (.aload_n 0, 1) := by decide +kernel
theorem dX9_whisper_9 : decode cX9_whisper 9 = .ok (.iload_n 2, 1) := by decide +kernel
theorem dX9_whisper_10 : decode cX9_whisper 10 = .ok (.invokevirtual 54, 3) := by decide +kernel
theorem dX9_whisper_13 : decode cX9_whisper 13 = .ok (.ifCond .eq 13, 3) := by decide +kernel
theorem dX9_whisper_16 : decode cX9_whisper 16 = .ok (.iload_n 3, 1) := by decide +kernel
theorem dX9_whisper_17 : decode cX9_whisper 17 = .ok (.iconst 0, 1) := by decide +kernel
theorem dX9_whisper_18 : decode cX9_whisper 18 = .ok (.bipush 25, 2) := by decide +kernel
theorem dX9_whisper_20 : decode cX9_whisper 20 = .ok (.invokestatic 40, 3) := by decide +kernel
theorem dX9_whisper_23 : decode cX9_whisper 23 = .ok (.ifCond .ne 5, 3) := by decide +kernel
theorem dX9_whisper_26 : decode cX9_whisper 26 = .ok (.iconst (-1), 1) := by decide +kernel
theorem dX9_whisper_27 : decode cX9_whisper 27 = .ok (.ireturn, 1) := by decide +kernel
theorem dX9_whisper_28 : decode cX9_whisper 28 = .ok (.iload_n 1, 1) := by decide +kernel
theorem dX9_whisper_29 : decode cX9_whisper 29 = .ok (.iload_n 2, 1) := by decide +kernel
theorem dX9_whisper_30 : decode cX9_whisper 30 = .ok (.isub, 1) := by decide +kernel
theorem dX9_whisper_31 : decode cX9_whisper 31 = .ok (.iconst 1, 1) := by decide +kernel
theorem dX9_whisper_32 : decode cX9_whisper 32 = .ok (.if_icmp .eq 10, 3) := by decide +kernel
theorem dX9_whisper_35 : decode cX9_whisper 35 = .ok (.iload_n 2, 1) := by decide +kernel
theorem dX9_whisper_36 : decode cX9_whisper 36 = .ok (.iload_n 1, 1) := by decide +kernel
theorem dX9_whisper_37 : decode cX9_whisper 37 = .ok (.isub, 1) := by decide +kernel
theorem dX9_whisper_38 : decode cX9_whisper 38 = .ok (.iconst 1, 1) := by decide +kernel
theorem dX9_whisper_39 : decode cX9_whisper 39 = .ok (.if_icmp .ne 7, 3) := by decide +kernel
theorem dX9_whisper_42 : decode cX9_whisper 42 = .ok (.iconst 1, 1) := by decide +kernel
theorem dX9_whisper_43 : decode cX9_whisper 43 = .ok (.goto 4, 3) := by decide +kernel
theorem dX9_whisper_46 : decode cX9_whisper 46 = .ok (.iconst 0, 1) := by decide +kernel
theorem dX9_whisper_47 : decode cX9_whisper 47 = .ok (.istore 4, 2) := by decide +kernel
theorem dX9_whisper_49 : decode cX9_whisper 49 = .ok (.aload_n 0, 1) := by decide +kernel
theorem dX9_whisper_50 : decode cX9_whisper 50 = .ok (.invokevirtual 44, 3) := by decide +kernel
theorem dX9_whisper_53 : decode cX9_whisper 53 = .ok (.ifCond .eq 23, 3) := by decide +kernel
theorem dX9_whisper_56 : decode cX9_whisper 56 = .ok (.iload 4, 2) := by decide +kernel
theorem dX9_whisper_58 : decode cX9_whisper 58 = .ok (.ifCond .eq 18, 3) := by decide +kernel
theorem dX9_whisper_61 : decode cX9_whisper 61 = .ok (.aload_n 0, 1) := by decide +kernel
theorem dX9_whisper_62 : decode cX9_whisper 62 = .ok (.getfield 7, 3) := by decide +kernel
theorem dX9_whisper_65 : decode cX9_whisper 65 = .ok (.bipush 6, 2) := by decide +kernel
theorem dX9_whisper_67 : decode cX9_whisper 67 = .ok (.iaload, 1) := by decide +kernel
theorem dX9_whisper_68 : decode cX9_whisper 68 = .ok (.iload_n 3, 1) := by decide +kernel
theorem dX9_whisper_69 : decode cX9_whisper 69 = .ok (.ishr, 1) := by decide +kernel
theorem dX9_whisper_70 : decode cX9_whisper 70 = .ok (.iconst 1, 1) := by decide +kernel
theorem dX9_whisper_71 : decode cX9_whisper 71 = .ok (.iand, 1) := by decide +kernel
theorem dX9_whisper_72 : decode cX9_whisper 72 = .ok (.iconst 1, 1) := by decide +kernel
theorem dX9_whisper_73 : decode cX9_whisper 73 = .ok (.if_icmp .ne 6, 3) := by decide +kernel
theorem dX9_whisper_76 : decode cX9_whisper 76 = .ok (.bipush (-2), 2) := by decide +kernel
theorem dX9_whisper_78 : decode cX9_whisper 78 = .ok (.ireturn, 1) := by decide +kernel
theorem dX9_whisper_79 : decode cX9_whisper 79 = .ok (.aload_n 0, 1) := by decide +kernel
theorem dX9_whisper_80 : decode cX9_whisper 80 = .ok (.invokevirtual 48, 3) := by decide +kernel
theorem dX9_whisper_83 : decode cX9_whisper 83 = .ok (.aload_n 0, 1) := by decide +kernel
theorem dX9_whisper_84 : decode cX9_whisper 84 = .ok (.getfield 7, 3) := by decide +kernel
theorem dX9_whisper_87 : decode cX9_whisper 87 = .ok (.iload_n 2, 1) := by decide +kernel
theorem dX9_whisper_88 : decode cX9_whisper 88 = .ok (.iconst 4, 1) := by decide +kernel
theorem dX9_whisper_89 : decode cX9_whisper 89 = .ok (.invokestatic 51, 3) := by decide +kernel
theorem dX9_whisper_92 : decode cX9_whisper 92 = .ok (.iaload, 1) := by decide +kernel
theorem dX9_whisper_93 : decode cX9_whisper 93 = .ok (.istore 5, 2) := by decide +kernel
theorem dX9_whisper_95 : decode cX9_whisper 95 = .ok (.aload_n 0, 1) := by decide +kernel
theorem dX9_whisper_96 : decode cX9_whisper 96 = .ok (.getfield 7, 3) := by decide +kernel
theorem dX9_whisper_99 : decode cX9_whisper 99 = .ok (.iload_n 2, 1) := by decide +kernel
theorem dX9_whisper_100 : decode cX9_whisper 100 = .ok (.iconst 4, 1) := by decide +kernel
theorem dX9_whisper_101 : decode cX9_whisper 101 = .ok (.invokestatic 51, 3) := by decide +kernel
theorem dX9_whisper_104 : decode cX9_whisper 104 = .ok (.iload_n 3, 1) := by decide +kernel
theorem dX9_whisper_105 : decode cX9_whisper 105 = .ok (.iastore, 1) := by decide +kernel
theorem dX9_whisper_106 : decode cX9_whisper 106 = .ok (.aload_n 0, 1) := by decide +kernel
theorem dX9_whisper_107 : decode cX9_whisper 107 = .ok (.getfield 7, 3) := by decide +kernel
theorem dX9_whisper_110 : decode cX9_whisper 110 = .ok (.iload_n 2, 1) := by decide +kernel
theorem dX9_whisper_111 : decode cX9_whisper 111 = .ok (.iconst 5, 1) := by decide +kernel
theorem dX9_whisper_112 : decode cX9_whisper 112 = .ok (.invokestatic 51, 3) := by decide +kernel
theorem dX9_whisper_115 : decode cX9_whisper 115 = .ok (.iload_n 1, 1) := by decide +kernel
theorem dX9_whisper_116 : decode cX9_whisper 116 = .ok (.iastore, 1) := by decide +kernel
theorem dX9_whisper_117 : decode cX9_whisper 117 = .ok (.iload 5, 2) := by decide +kernel
theorem dX9_whisper_119 : decode cX9_whisper 119 = .ok (.ireturn, 1) := by decide +kernel
theorem dX9_fitsOne_0 : decode cX9_fitsOne 0 = .ok (.aload_n 0, 1) := by decide +kernel
theorem dX9_fitsOne_1 : decode cX9_fitsOne 1 = .ok (.iload_n 1, 1) := by decide +kernel
theorem dX9_fitsOne_2 : decode cX9_fitsOne 2 = .ok (.iconst 0, 1) := by decide +kernel
theorem dX9_fitsOne_3 : decode cX9_fitsOne 3 = .ok (.invokevirtual 29, 3) := by decide +kernel
theorem dX9_fitsOne_6 : decode cX9_fitsOne 6 = .ok (.aload_n 0, 1) := by decide +kernel
theorem dX9_fitsOne_7 : decode cX9_fitsOne 7 = .ok (.aload_n 0, 1) := by decide +kernel
theorem dX9_fitsOne_8 : decode cX9_fitsOne 8 = .ok (.getfield 7, 3) := by decide +kernel
theorem dX9_fitsOne_11 : decode cX9_fitsOne 11 = .ok (.bipush 13, 2) := by decide +kernel
theorem dX9_fitsOne_13 : decode cX9_fitsOne 13 = .ok (.iaload, 1) := by decide +kernel
theorem dX9_fitsOne_14 : decode cX9_fitsOne 14 = .ok (.iconst 0, 1) := by decide +kernel
theorem dX9_fitsOne_15 : decode cX9_fitsOne 15 = .ok (.invokevirtual 29, 3) := by decide +kernel
theorem dX9_fitsOne_18 : decode cX9_fitsOne 18 = .ok (.if_icmp .ne 7, 3) := by decide +kernel
theorem dX9_fitsOne_21 : decode cX9_fitsOne 21 = .ok (.iconst 1, 1) := by decide +kernel
theorem dX9_fitsOne_22 : decode cX9_fitsOne 22 = .ok (.goto 4, 3) := by decide +kernel
theorem dX9_fitsOne_25 : decode cX9_fitsOne 25 = .ok (.iconst 0, 1) := by decide +kernel
theorem dX9_fitsOne_26 : decode cX9_fitsOne 26 = .ok (.istore_n 2, 1) := by decide +kernel
theorem dX9_fitsOne_27 : decode cX9_fitsOne 27 = .ok (.iconst 0, 1) := by decide +kernel
theorem dX9_fitsOne_28 : decode cX9_fitsOne 28 = .ok (.istore_n 3, 1) := by decide +kernel
theorem dX9_fitsOne_29 : decode cX9_fitsOne 29 = .ok (.iload_n 3, 1) := by decide +kernel
theorem dX9_fitsOne_30 : decode cX9_fitsOne 30 = .ok (.aload_n 0, 1) := by decide +kernel
theorem dX9_fitsOne_31 : decode cX9_fitsOne 31 = .ok (.iload_n 1, 1) := by decide +kernel
theorem dX9_fitsOne_32 : decode cX9_fitsOne 32 = .ok (.iconst 0, 1) := by decide +kernel
theorem dX9_fitsOne_33 : decode cX9_fitsOne 33 = .ok (.invokevirtual 29, 3) := by decide +kernel
theorem dX9_fitsOne_36 : decode cX9_fitsOne 36 = .ok (.if_icmp .ge 94, 3) := by decide +kernel
theorem dX9_fitsOne_39 : decode cX9_fitsOne 39 = .ok (.iload_n 2, 1) := by decide +kernel
theorem dX9_fitsOne_40 : decode cX9_fitsOne 40 = .ok (.ifCond .eq 90, 3) := by decide +kernel
theorem dX9_fitsOne_43 : decode cX9_fitsOne 43 = .ok (.aload_n 0, 1) := by decide +kernel
theorem dX9_fitsOne_44 : decode cX9_fitsOne 44 = .ok (.getfield 7, 3) := by decide +kernel
theorem dX9_fitsOne_47 : decode cX9_fitsOne 47 = .ok (.bipush 7, 2) := by decide +kernel
theorem dX9_fitsOne_49 : decode cX9_fitsOne 49 = .ok (.iaload, 1) := by decide +kernel
theorem dX9_fitsOne_50 : decode cX9_fitsOne 50 = .ok (.iload_n 3, 1) := by decide +kernel
theorem dX9_fitsOne_51 : decode cX9_fitsOne 51 = .ok (.ishr, 1) := by decide +kernel
theorem dX9_fitsOne_52 : decode cX9_fitsOne 52 = .ok (.iconst 1, 1) := by decide +kernel
theorem dX9_fitsOne_53 : decode cX9_fitsOne 53 = .ok (.iand, 1) := by decide +kernel
theorem dX9_fitsOne_54 : decode cX9_fitsOne 54 = .ok (.iconst 1, 1) := by decide +kernel
theorem dX9_fitsOne_55 : decode cX9_fitsOne 55 = .ok (.if_icmp .ne 7, 3) := by decide +kernel
theorem dX9_fitsOne_58 : decode cX9_fitsOne 58 = .ok (.iconst 1, 1) := by decide +kernel
theorem dX9_fitsOne_59 : decode cX9_fitsOne 59 = .ok (.goto 4, 3) := by decide +kernel
theorem dX9_fitsOne_62 : decode cX9_fitsOne 62 = .ok (.iconst 0, 1) := by decide +kernel
theorem dX9_fitsOne_63 : decode cX9_fitsOne 63 = .ok (.istore 4, 2) := by decide +kernel
theorem dX9_fitsOne_65 : decode cX9_fitsOne 65 = .ok (.aload_n 0, 1) := by decide +kernel
theorem dX9_fitsOne_66 : decode cX9_fitsOne 66 = .ok (.iload_n 1, 1) := by decide +kernel
theorem dX9_fitsOne_67 : decode cX9_fitsOne 67 = .ok (.iload_n 3, 1) := by decide +kernel
theorem dX9_fitsOne_68 : decode cX9_fitsOne 68 = .ok (.invokevirtual 33, 3) := by decide +kernel
theorem dX9_fitsOne_71 : decode cX9_fitsOne 71 = .ok (.istore 5, 2) := by decide +kernel
theorem dX9_fitsOne_73 : decode cX9_fitsOne 73 = .ok (.iload 4, 2) := by decide +kernel
theorem dX9_fitsOne_75 : decode cX9_fitsOne 75 = .ok (.ifCond .eq 28, 3) := by decide +kernel
theorem dX9_fitsOne_78 : decode cX9_fitsOne 78 = .ok (.iload 5, 2) := by decide +kernel
theorem dX9_fitsOne_80 : decode cX9_fitsOne 80 = .ok (.aload_n 0, 1) := by decide +kernel
theorem dX9_fitsOne_81 : decode cX9_fitsOne 81 = .ok (.aload_n 0, 1) := by decide +kernel
theorem dX9_fitsOne_82 : decode cX9_fitsOne 82 = .ok (.getfield 7, 3) := by decide +kernel
theorem dX9_fitsOne_85 : decode cX9_fitsOne 85 = .ok (.bipush 13, 2) := by decide +kernel
theorem dX9_fitsOne_87 : decode cX9_fitsOne 87 = .ok (.iaload, 1) := by decide +kernel
theorem dX9_fitsOne_88 : decode cX9_fitsOne 88 = .ok (.iload_n 3, 1) := by decide +kernel
theorem dX9_fitsOne_89 : decode cX9_fitsOne 89 = .ok (.invokevirtual 33, 3) := by decide +kernel
theorem dX9_fitsOne_92 : decode cX9_fitsOne 92 = .ok (.if_icmp .ne 7, 3) := by decide +kernel
theorem dX9_fitsOne_95 : decode cX9_fitsOne 95 = .ok (.iconst 1, 1) := by decide +kernel
theorem dX9_fitsOne_96 : decode cX9_fitsOne 96 = .ok (.goto 27, 3) := by decide +kernel
theorem dX9_fitsOne_99 : decode cX9_fitsOne 99 = .ok (.iconst 0, 1) := by decide +kernel
theorem dX9_fitsOne_100 : decode cX9_fitsOne 100 = .ok (.goto 23, 3) := by decide +kernel
theorem dX9_fitsOne_103 : decode cX9_fitsOne 103 = .ok (.aload_n 0, 1) := by decide +kernel
theorem dX9_fitsOne_104 : decode cX9_fitsOne 104 = .ok (.getfield 7, 3) := by decide +kernel
theorem dX9_fitsOne_107 : decode cX9_fitsOne 107 = .ok (.bipush 6, 2) := by decide +kernel
theorem dX9_fitsOne_109 : decode cX9_fitsOne 109 = .ok (.iaload, 1) := by decide +kernel
theorem dX9_fitsOne_110 : decode cX9_fitsOne 110 = .ok (.iload 5, 2) := by decide +kernel
theorem dX9_fitsOne_112 : decode cX9_fitsOne 112 = .ok (.ishr, 1) := by decide +kernel
theorem dX9_fitsOne_113 : decode cX9_fitsOne 113 = .ok (.iconst 1, 1) := by decide +kernel
theorem dX9_fitsOne_114 : decode cX9_fitsOne 114 = .ok (.iand, 1) := by decide +kernel
theorem dX9_fitsOne_115 : decode cX9_fitsOne 115 = .ok (.ifCond .ne 7, 3) := by decide +kernel
theorem dX9_fitsOne_118 : decode cX9_fitsOne 118 = .ok (.iconst 1, 1) := by decide +kernel
theorem dX9_fitsOne_119 : decode cX9_fitsOne 119 = .ok (.goto 4, 3) := by decide +kernel
theorem dX9_fitsOne_122 : decode cX9_fitsOne 122 = .ok (.iconst 0, 1) := by decide +kernel
theorem dX9_fitsOne_123 : decode cX9_fitsOne 123 = .ok (.istore_n 2, 1) := by decide +kernel
theorem dX9_fitsOne_124 : decode cX9_fitsOne 124 = .ok (.iinc 3 1, 3) := by decide +kernel
theorem dX9_fitsOne_127 : decode cX9_fitsOne 127 = .ok (.goto (-98), 3) := by decide +kernel
theorem dX9_fitsOne_130 : decode cX9_fitsOne 130 = .ok (.iload_n 2, 1) := by decide +kernel
theorem dX9_fitsOne_131 : decode cX9_fitsOne 131 = .ok (.ireturn, 1) := by decide +kernel
theorem dX9_fitting_0 : decode cX9_fitting 0 = .ok (.iconst 0, 1) := by decide +kernel
theorem dX9_fitting_1 : decode cX9_fitting 1 = .ok (.istore_n 1, 1) := by decide +kernel
theorem dX9_fitting_2 : decode cX9_fitting 2 = .ok (.iconst 0, 1) := by decide +kernel
theorem dX9_fitting_3 : decode cX9_fitting 3 = .ok (.istore_n 2, 1) := by decide +kernel
theorem dX9_fitting_4 : decode cX9_fitting 4 = .ok (.iload_n 2, 1) := by decide +kernel
theorem dX9_fitting_5 : decode cX9_fitting 5 = .ok (.aload_n 0, 1) := by decide +kernel
theorem dX9_fitting_6 : decode cX9_fitting 6 = .ok (.getfield 7, 3) := by decide +kernel
theorem dX9_fitting_9 : decode cX9_fitting 9 = .ok (.iconst 0, 1) := by decide +kernel
theorem dX9_fitting_10 : decode cX9_fitting 10 = .ok (.iaload, 1) := by decide +kernel
theorem dX9_fitting_11 : decode cX9_fitting 11 = .ok (.if_icmp .ge 27, 3) := by decide +kernel
theorem dX9_fitting_14 : decode cX9_fitting 14 = .ok (.iload_n 1, 1) := by decide +kernel
theorem dX9_fitting_15 : decode cX9_fitting 15 = .ok (.aload_n 0, 1) := by decide +kernel
theorem dX9_fitting_16 : decode cX9_fitting 16 = .ok (.iload_n 2, 1) := by decide +kernel
theorem dX9_fitting_17 : decode cX9_fitting 17 = .ok (.invokevirtual 95, 3) := by decide +kernel
theorem dX9_fitting_20 : decode cX9_fitting 20 = .ok (.ifCond .eq 9, 3) := by decide +kernel
theorem dX9_fitting_23 : decode cX9_fitting 23 = .ok (.iconst 1, 1) := by decide +kernel
theorem dX9_fitting_24 : decode cX9_fitting 24 = .ok (.iload_n 2, 1) := by decide +kernel
theorem dX9_fitting_25 : decode cX9_fitting 25 = .ok (.ishl, 1) := by decide +kernel
theorem dX9_fitting_26 : decode cX9_fitting 26 = .ok (.goto 4, 3) := by decide +kernel
theorem dX9_fitting_29 : decode cX9_fitting 29 = .ok (.iconst 0, 1) := by decide +kernel
theorem dX9_fitting_30 : decode cX9_fitting 30 = .ok (.ior, 1) := by decide +kernel
theorem dX9_fitting_31 : decode cX9_fitting 31 = .ok (.istore_n 1, 1) := by decide +kernel
theorem dX9_fitting_32 : decode cX9_fitting 32 = .ok (.iinc 2 1, 3) := by decide +kernel
theorem dX9_fitting_35 : decode cX9_fitting 35 = .ok (.goto (-31), 3) := by decide +kernel
theorem dX9_fitting_38 : decode cX9_fitting 38 = .ok (.iload_n 1, 1) := by decide +kernel
theorem dX9_fitting_39 : decode cX9_fitting 39 = .ok (.ireturn, 1) := by decide +kernel
theorem dX9_weightsOf_0 : decode cX9_weightsOf 0 = .ok (.iconst 0, 1) := by decide +kernel
theorem dX9_weightsOf_1 : decode cX9_weightsOf 1 = .ok (.istore_n 3, 1) := by decide +kernel
theorem dX9_weightsOf_2 : decode cX9_weightsOf 2 = .ok (.iconst 0, 1) := by decide +kernel
theorem dX9_weightsOf_3 : decode cX9_weightsOf 3 = .ok (.istore 4, 2) := by decide +kernel
theorem dX9_weightsOf_5 : decode cX9_weightsOf 5 = .ok (.iload 4, 2) := by decide +kernel
theorem dX9_weightsOf_7 : decode cX9_weightsOf 7 = .ok (.aload_n 0, 1) := by decide +kernel
theorem dX9_weightsOf_8 : decode cX9_weightsOf 8 = .ok (.getfield 7, 3) := by decide +kernel
theorem dX9_weightsOf_11 : decode cX9_weightsOf 11 = .ok (.iconst 0, 1) := by decide +kernel
theorem dX9_weightsOf_12 : decode cX9_weightsOf 12 = .ok (.iaload, 1) := by decide +kernel
theorem dX9_weightsOf_13 : decode cX9_weightsOf 13 = .ok (.if_icmp .ge 61, 3) := by decide +kernel
theorem dX9_weightsOf_16 : decode cX9_weightsOf 16 = .ok (.iload_n 2, 1) := by decide +kernel
theorem dX9_weightsOf_17 : decode cX9_weightsOf 17 = .ok (.bipush 26, 2) := by decide +kernel
theorem dX9_weightsOf_19 : decode cX9_weightsOf 19 = .ok (.if_icmp .eq 13, 3) := by decide +kernel
theorem dX9_weightsOf_22 : decode cX9_weightsOf 22 = .ok (.aload_n 0, 1) := by decide +kernel
theorem dX9_weightsOf_23 : decode cX9_weightsOf 23 = .ok (.iload 4, 2) := by decide +kernel
theorem dX9_weightsOf_25 : decode cX9_weightsOf 25 = .ok (.iload_n 2, 1) := by decide +kernel
theorem dX9_weightsOf_26 : decode cX9_weightsOf 26 = .ok (.invokevirtual 85, 3) := by decide +kernel
theorem dX9_weightsOf_29 : decode cX9_weightsOf 29 = .ok (.ifCond .eq 7, 3) := by decide +kernel
theorem dX9_weightsOf_32 : decode cX9_weightsOf 32 = .ok (.iconst 1, 1) := by decide +kernel
theorem dX9_weightsOf_33 : decode cX9_weightsOf 33 = .ok (.goto 4, 3) := by decide +kernel
theorem dX9_weightsOf_36 : decode cX9_weightsOf 36 = .ok (.iconst 0, 1) := by decide +kernel
theorem dX9_weightsOf_37 : decode cX9_weightsOf 37 = .ok (.istore 5, 2) := by decide +kernel
theorem dX9_weightsOf_39 : decode cX9_weightsOf 39 = .ok (.iload_n 3, 1) := by decide +kernel
theorem dX9_weightsOf_40 : decode cX9_weightsOf 40 = .ok (.iload_n 1, 1) := by decide +kernel
theorem dX9_weightsOf_41 : decode cX9_weightsOf 41 = .ok (.iload 4, 2) := by decide +kernel
theorem dX9_weightsOf_43 : decode cX9_weightsOf 43 = .ok (.ishr, 1) := by decide +kernel
theorem dX9_weightsOf_44 : decode cX9_weightsOf 44 = .ok (.iconst 1, 1) := by decide +kernel
theorem dX9_weightsOf_45 : decode cX9_weightsOf 45 = .ok (.iand, 1) := by decide +kernel
theorem dX9_weightsOf_46 : decode cX9_weightsOf 46 = .ok (.iconst 1, 1) := by decide +kernel
theorem dX9_weightsOf_47 : decode cX9_weightsOf 47 = .ok (.if_icmp .ne 18, 3) := by decide +kernel
theorem dX9_weightsOf_50 : decode cX9_weightsOf 50 = .ok (.iload 5, 2) := by decide +kernel
theorem dX9_weightsOf_52 : decode cX9_weightsOf 52 = .ok (.ifCond .eq 13, 3) := by decide +kernel
theorem dX9_weightsOf_55 : decode cX9_weightsOf 55 = .ok (.aload_n 0, 1) := by decide +kernel
theorem dX9_weightsOf_56 : decode cX9_weightsOf 56 = .ok (.iload 4, 2) := by decide +kernel
theorem dX9_weightsOf_58 : decode cX9_weightsOf 58 = .ok (.iconst 1, 1) := by decide +kernel
theorem dX9_weightsOf_59 : decode cX9_weightsOf 59 = .ok (.invokevirtual 29, 3) := by decide +kernel
theorem dX9_weightsOf_62 : decode cX9_weightsOf 62 = .ok (.goto 4, 3) := by decide +kernel
theorem dX9_weightsOf_65 : decode cX9_weightsOf 65 = .ok (.iconst 0, 1) := by decide +kernel
theorem dX9_weightsOf_66 : decode cX9_weightsOf 66 = .ok (.iadd, 1) := by decide +kernel
theorem dX9_weightsOf_67 : decode cX9_weightsOf 67 = .ok (.istore_n 3, 1) := by decide +kernel
theorem dX9_weightsOf_68 : decode cX9_weightsOf 68 = .ok (.iinc 4 1, 3) := by decide +kernel
theorem dX9_weightsOf_71 : decode cX9_weightsOf 71 = .ok (.goto (-66), 3) := by decide +kernel
theorem dX9_weightsOf_74 : decode cX9_weightsOf 74 = .ok (.iload_n 3, 1) := by decide +kernel
theorem dX9_weightsOf_75 : decode cX9_weightsOf 75 = .ok (.ireturn, 1) := by decide +kernel
theorem dX9_bestLetter_0 : decode cX9_bestLetter 0 = .ok (.bipush (-4), 2) := by decide +kernel
theorem dX9_bestLetter_2 : decode cX9_bestLetter 2 = .ok (.istore_n 2, 1) := by decide +kernel
theorem dX9_bestLetter_3 : decode cX9_bestLetter 3 = .ok (.iconst (-1), 1) := by decide +kernel
theorem dX9_bestLetter_4 : decode cX9_bestLetter 4 = .ok (.istore_n 3, 1) := by decide +kernel
theorem dX9_bestLetter_5 : decode cX9_bestLetter 5 = .ok (.iconst 0, 1) := by decide +kernel
theorem dX9_bestLetter_6 : decode cX9_bestLetter 6 = .ok (.istore 4, 2) := by decide +kernel
theorem dX9_bestLetter_8 : decode cX9_bestLetter 8 = .ok (.iload 4, 2) := by decide +kernel
theorem dX9_bestLetter_10 : decode cX9_bestLetter 10 = .ok (.bipush 26, 2) := by decide +kernel
theorem dX9_bestLetter_12 : decode cX9_bestLetter 12 = .ok (.if_icmp .ge 64, 3) := by decide +kernel
theorem dX9_bestLetter_15 : decode cX9_bestLetter 15 = .ok (.aload_n 0, 1) := by decide +kernel
theorem dX9_bestLetter_16 : decode cX9_bestLetter 16 = .ok (.getfield 7, 3) := by decide +kernel
theorem dX9_bestLetter_19 : decode cX9_bestLetter 19 = .ok (.bipush 6, 2) := by decide +kernel
theorem dX9_bestLetter_21 : decode cX9_bestLetter 21 = .ok (.iaload, 1) := by decide +kernel
theorem dX9_bestLetter_22 : decode cX9_bestLetter 22 = .ok (.iload 4, 2) := by decide +kernel
theorem dX9_bestLetter_24 : decode cX9_bestLetter 24 = .ok (.ishr, 1) := by decide +kernel
theorem dX9_bestLetter_25 : decode cX9_bestLetter 25 = .ok (.iconst 1, 1) := by decide +kernel
theorem dX9_bestLetter_26 : decode cX9_bestLetter 26 = .ok (.iand, 1) := by decide +kernel
theorem dX9_bestLetter_27 : decode cX9_bestLetter 27 = .ok (.iconst 1, 1) := by decide +kernel
theorem dX9_bestLetter_28 : decode cX9_bestLetter 28 = .ok (.if_icmp .ne 7, 3) := by decide +kernel
theorem dX9_bestLetter_31 : decode cX9_bestLetter 31 = .ok (.iconst (-1), 1) := by decide +kernel
theorem dX9_bestLetter_32 : decode cX9_bestLetter 32 = .ok (.goto 10, 3) := by decide +kernel
theorem dX9_bestLetter_35 : decode cX9_bestLetter 35 = .ok (.aload_n 0, 1) := by decide +kernel
theorem dX9_bestLetter_36 : decode cX9_bestLetter 36 = .ok (.iload_n 1, 1) := by decide +kernel
theorem dX9_bestLetter_37 : decode cX9_bestLetter 37 = .ok (.iload 4, 2) := by decide +kernel
theorem dX9_bestLetter_39 : decode cX9_bestLetter 39 = .ok (.invokevirtual 98, 3) := by decide +kernel
theorem dX9_bestLetter_42 : decode cX9_bestLetter 42 = .ok (.istore 5, 2) := by decide +kernel
theorem dX9_bestLetter_44 : decode cX9_bestLetter 44 = .ok (.iload 5, 2) := by decide +kernel
theorem dX9_bestLetter_46 : decode cX9_bestLetter 46 = .ok (.iload_n 3, 1) := by decide +kernel
theorem dX9_bestLetter_47 : decode cX9_bestLetter 47 = .ok (.if_icmp .le 8, 3) := by decide +kernel
theorem dX9_bestLetter_50 : decode cX9_bestLetter 50 = .ok (.iload 4, 2) := by decide +kernel
theorem dX9_bestLetter_52 : decode cX9_bestLetter 52 = .ok (.goto 4, 3) := by decide +kernel
theorem dX9_bestLetter_55 : decode cX9_bestLetter 55 = .ok (.iload_n 2, 1) := by decide +kernel
theorem dX9_bestLetter_56 : decode cX9_bestLetter 56 = .ok (.istore_n 2, 1) := by decide +kernel
theorem dX9_bestLetter_57 : decode cX9_bestLetter 57 = .ok (.iload 5, 2) := by decide +kernel
theorem dX9_bestLetter_59 : decode cX9_bestLetter 59 = .ok (.iload_n 3, 1) := by decide +kernel
theorem dX9_bestLetter_60 : decode cX9_bestLetter 60 = .ok (.if_icmp .le 8, 3) := by decide +kernel
theorem dX9_bestLetter_63 : decode cX9_bestLetter 63 = .ok (.iload 5, 2) := by decide +kernel
theorem dX9_bestLetter_65 : decode cX9_bestLetter 65 = .ok (.goto 4, 3) := by decide +kernel
theorem dX9_bestLetter_68 : decode cX9_bestLetter 68 = .ok (.iload_n 3, 1) := by decide +kernel
theorem dX9_bestLetter_69 : decode cX9_bestLetter 69 = .ok (.istore_n 3, 1) := by decide +kernel
theorem dX9_bestLetter_70 : decode cX9_bestLetter 70 = .ok (.iinc 4 1, 3) := by decide +kernel
theorem dX9_bestLetter_73 : decode cX9_bestLetter 73 = .ok (.goto (-65), 3) := by decide +kernel
theorem dX9_bestLetter_76 : decode cX9_bestLetter 76 = .ok (.iload_n 2, 1) := by decide +kernel
theorem dX9_bestLetter_77 : decode cX9_bestLetter 77 = .ok (.ireturn, 1) := by decide +kernel
theorem dX9_fits_0 : decode cX9_fits 0 = .ok (.iload_n 1, 1) := by decide +kernel
theorem dX9_fits_1 : decode cX9_fits 1 = .ok (.iconst 0, 1) := by decide +kernel
theorem dX9_fits_2 : decode cX9_fits 2 = .ok (.iconst 4, 1) := by decide +kernel
theorem dX9_fits_3 : decode cX9_fits 3 = .ok (.invokestatic 40, 3) := by decide +kernel
theorem dX9_fits_6 : decode cX9_fits 6 = .ok (.ifCond .ne 5, 3) := by decide +kernel
theorem dX9_fits_9 : decode cX9_fits 9 = .ok (.iconst (-1), 1) := by decide +kernel
theorem dX9_fits_10 : decode cX9_fits 10 = .ok (.ireturn, 1) := by decide +kernel
theorem dX9_fits_11 : decode cX9_fits 11 = .ok (.aload_n 0, 1) := by decide +kernel
theorem dX9_fits_12 : decode cX9_fits 12 = .ok (.invokevirtual 44, 3) := by decide +kernel
theorem dX9_fits_15 : decode cX9_fits 15 = .ok (.ifCond .ne 6, 3) := by decide +kernel
theorem dX9_fits_18 : decode cX9_fits 18 = .ok (.bipush (-2), 2) := by decide +kernel
theorem dX9_fits_20 : decode cX9_fits 20 = .ok (.ireturn, 1) := by decide +kernel
theorem dX9_fits_21 : decode cX9_fits 21 = .ok (.aload_n 0, 1) := by decide +kernel
theorem dX9_fits_22 : decode cX9_fits 22 = .ok (.invokevirtual 101, 3) := by decide +kernel
theorem dX9_fits_25 : decode cX9_fits 25 = .ok (.istore_n 2, 1) := by decide +kernel
theorem dX9_fits_26 : decode cX9_fits 26 = .ok (.iload_n 1, 1) := by decide +kernel
theorem dX9_fits_27 : decode cX9_fits 27 = .ok (.tableswitch 50 0 3 #[29, 31, 36, 44], 29) := by decide +kernel
theorem dX9_fits_56 : decode cX9_fits 56 = .ok (.iload_n 2, 1) := by decide +kernel
theorem dX9_fits_57 : decode cX9_fits 57 = .ok (.ireturn, 1) := by decide +kernel
theorem dX9_fits_58 : decode cX9_fits 58 = .ok (.iload_n 2, 1) := by decide +kernel
theorem dX9_fits_59 : decode cX9_fits 59 = .ok (.invokestatic 82, 3) := by decide +kernel
theorem dX9_fits_62 : decode cX9_fits 62 = .ok (.ireturn, 1) := by decide +kernel
theorem dX9_fits_63 : decode cX9_fits 63 = .ok (.aload_n 0, 1) := by decide +kernel
theorem dX9_fits_64 : decode cX9_fits 64 = .ok (.iload_n 2, 1) := by decide +kernel
theorem dX9_fits_65 : decode cX9_fits 65 = .ok (.bipush 26, 2) := by decide +kernel
theorem dX9_fits_67 : decode cX9_fits 67 = .ok (.invokevirtual 98, 3) := by decide +kernel
theorem dX9_fits_70 : decode cX9_fits 70 = .ok (.ireturn, 1) := by decide +kernel
theorem dX9_fits_71 : decode cX9_fits 71 = .ok (.aload_n 0, 1) := by decide +kernel
theorem dX9_fits_72 : decode cX9_fits 72 = .ok (.iload_n 2, 1) := by decide +kernel
theorem dX9_fits_73 : decode cX9_fits 73 = .ok (.invokevirtual 104, 3) := by decide +kernel
theorem dX9_fits_76 : decode cX9_fits 76 = .ok (.ireturn, 1) := by decide +kernel
theorem dX9_fits_77 : decode cX9_fits 77 = .ok (.aload_n 0, 1) := by decide +kernel
theorem dX9_fits_78 : decode cX9_fits 78 = .ok (.iload_n 2, 1) := by decide +kernel
theorem dX9_fits_79 : decode cX9_fits 79 = .ok (.aload_n 0, 1) := by decide +kernel
theorem dX9_fits_80 : decode cX9_fits 80 = .ok (.iload_n 2, 1) := by decide +kernel
theorem dX9_fits_81 : decode cX9_fits 81 = .ok (.invokevirtual 104, 3) := by decide +kernel
theorem dX9_fits_84 : decode cX9_fits 84 = .ok (.invokevirtual 98, 3) := by decide +kernel
theorem dX9_fits_87 : decode cX9_fits 87 = .ok (.ireturn, 1) := by decide +kernel
theorem dX9_greatest_0 : decode cX9_greatest 0 = .ok (.iconst 0, 1) := by decide +kernel
theorem dX9_greatest_1 : decode cX9_greatest 1 = .ok (.istore_n 3, 1) := by decide +kernel
theorem dX9_greatest_2 : decode cX9_greatest 2 = .ok (.iconst 0, 1) := by decide +kernel
theorem dX9_greatest_3 : decode cX9_greatest 3 = .ok (.istore 4, 2) := by decide +kernel
theorem dX9_greatest_5 : decode cX9_greatest 5 = .ok (.iload 4, 2) := by decide +kernel
theorem dX9_greatest_7 : decode cX9_greatest 7 = .ok (.aload_n 0, 1) := by decide +kernel
theorem dX9_greatest_8 : decode cX9_greatest 8 = .ok (.getfield 7, 3) := by decide +kernel
theorem dX9_greatest_11 : decode cX9_greatest 11 = .ok (.iconst 0, 1) := by decide +kernel
theorem dX9_greatest_12 : decode cX9_greatest 12 = .ok (.iaload, 1) := by decide +kernel
theorem dX9_greatest_13 : decode cX9_greatest 13 = .ok (.if_icmp .ge 92, 3) := by decide +kernel
theorem dX9_greatest_16 : decode cX9_greatest 16 = .ok (.iconst 0, 1) := by decide +kernel
theorem dX9_greatest_17 : decode cX9_greatest 17 = .ok (.istore 5, 2) := by decide +kernel
theorem dX9_greatest_19 : decode cX9_greatest 19 = .ok (.iconst 0, 1) := by decide +kernel
theorem dX9_greatest_20 : decode cX9_greatest 20 = .ok (.istore 6, 2) := by decide +kernel
theorem dX9_greatest_22 : decode cX9_greatest 22 = .ok (.iload 6, 2) := by decide +kernel
theorem dX9_greatest_24 : decode cX9_greatest 24 = .ok (.aload_n 0, 1) := by decide +kernel
theorem dX9_greatest_25 : decode cX9_greatest 25 = .ok (.getfield 7, 3) := by decide +kernel
theorem dX9_greatest_28 : decode cX9_greatest 28 = .ok (.iconst 0, 1) := by decide +kernel
theorem dX9_greatest_29 : decode cX9_greatest 29 = .ok (.iaload, 1) := by decide +kernel
theorem dX9_greatest_30 : decode cX9_greatest 30 = .ok (.if_icmp .ge 56, 3) := by decide +kernel
theorem dX9_greatest_33 : decode cX9_greatest 33 = .ok (.iload_n 1, 1) := by decide +kernel
theorem dX9_greatest_34 : decode cX9_greatest 34 = .ok (.iload 4, 2) := by decide +kernel
theorem dX9_greatest_36 : decode cX9_greatest 36 = .ok (.ishr, 1) := by decide +kernel
theorem dX9_greatest_37 : decode cX9_greatest 37 = .ok (.iconst 1, 1) := by decide +kernel
theorem dX9_greatest_38 : decode cX9_greatest 38 = .ok (.iand, 1) := by decide +kernel
theorem dX9_greatest_39 : decode cX9_greatest 39 = .ok (.iconst 1, 1) := by decide +kernel
theorem dX9_greatest_40 : decode cX9_greatest 40 = .ok (.if_icmp .ne 46, 3) := by decide +kernel
theorem dX9_greatest_43 : decode cX9_greatest 43 = .ok (.iload 5, 2) := by decide +kernel
theorem dX9_greatest_45 : decode cX9_greatest 45 = .ok (.iload_n 1, 1) := by decide +kernel
theorem dX9_greatest_46 : decode cX9_greatest 46 = .ok (.iload 6, 2) := by decide +kernel
theorem dX9_greatest_48 : decode cX9_greatest 48 = .ok (.ishr, 1) := by decide +kernel
theorem dX9_greatest_49 : decode cX9_greatest 49 = .ok (.iconst 1, 1) := by decide +kernel
theorem dX9_greatest_50 : decode cX9_greatest 50 = .ok (.iand, 1) := by decide +kernel
theorem dX9_greatest_51 : decode cX9_greatest 51 = .ok (.iconst 1, 1) := by decide +kernel
theorem dX9_greatest_52 : decode cX9_greatest 52 = .ok (.if_icmp .ne 24, 3) := by decide +kernel
theorem dX9_greatest_55 : decode cX9_greatest 55 = .ok (.aload_n 0, 1) := by decide +kernel
theorem dX9_greatest_56 : decode cX9_greatest 56 = .ok (.iload 6, 2) := by decide +kernel
theorem dX9_greatest_58 : decode cX9_greatest 58 = .ok (.iload_n 2, 1) := by decide +kernel
theorem dX9_greatest_59 : decode cX9_greatest 59 = .ok (.invokevirtual 85, 3) := by decide +kernel
theorem dX9_greatest_62 : decode cX9_greatest 62 = .ok (.aload_n 0, 1) := by decide +kernel
theorem dX9_greatest_63 : decode cX9_greatest 63 = .ok (.iload 4, 2) := by decide +kernel
theorem dX9_greatest_65 : decode cX9_greatest 65 = .ok (.iload_n 2, 1) := by decide +kernel
theorem dX9_greatest_66 : decode cX9_greatest 66 = .ok (.invokevirtual 85, 3) := by decide +kernel
theorem dX9_greatest_69 : decode cX9_greatest 69 = .ok (.if_icmp .ne 7, 3) := by decide +kernel
theorem dX9_greatest_72 : decode cX9_greatest 72 = .ok (.iconst 1, 1) := by decide +kernel
theorem dX9_greatest_73 : decode cX9_greatest 73 = .ok (.goto 4, 3) := by decide +kernel
theorem dX9_greatest_76 : decode cX9_greatest 76 = .ok (.iconst 0, 1) := by decide +kernel
theorem dX9_greatest_77 : decode cX9_greatest 77 = .ok (.iadd, 1) := by decide +kernel
theorem dX9_greatest_78 : decode cX9_greatest 78 = .ok (.istore 5, 2) := by decide +kernel
theorem dX9_greatest_80 : decode cX9_greatest 80 = .ok (.iinc 6 1, 3) := by decide +kernel
theorem dX9_greatest_83 : decode cX9_greatest 83 = .ok (.goto (-61), 3) := by decide +kernel
theorem dX9_greatest_86 : decode cX9_greatest 86 = .ok (.iload 5, 2) := by decide +kernel
theorem dX9_greatest_88 : decode cX9_greatest 88 = .ok (.iload_n 3, 1) := by decide +kernel
theorem dX9_greatest_89 : decode cX9_greatest 89 = .ok (.if_icmp .le 8, 3) := by decide +kernel
theorem dX9_greatest_92 : decode cX9_greatest 92 = .ok (.iload 5, 2) := by decide +kernel
theorem dX9_greatest_94 : decode cX9_greatest 94 = .ok (.goto 4, 3) := by decide +kernel
theorem dX9_greatest_97 : decode cX9_greatest 97 = .ok (.iload_n 3, 1) := by decide +kernel
theorem dX9_greatest_98 : decode cX9_greatest 98 = .ok (.istore_n 3, 1) := by decide +kernel
theorem dX9_greatest_99 : decode cX9_greatest 99 = .ok (.iinc 4 1, 3) := by decide +kernel
theorem dX9_greatest_102 : decode cX9_greatest 102 = .ok (.goto (-97), 3) := by decide +kernel
theorem dX9_greatest_105 : decode cX9_greatest 105 = .ok (.iload_n 3, 1) := by decide +kernel
theorem dX9_greatest_106 : decode cX9_greatest 106 = .ok (.ireturn, 1) := by decide +kernel
theorem dX9_letterOf_0 : decode cX9_letterOf 0 = .ok (.iload_n 1, 1) := by decide +kernel
theorem dX9_letterOf_1 : decode cX9_letterOf 1 = .ok (.iconst 0, 1) := by decide +kernel
theorem dX9_letterOf_2 : decode cX9_letterOf 2 = .ok (.bipush 25, 2) := by decide +kernel
theorem dX9_letterOf_4 : decode cX9_letterOf 4 = .ok (.invokestatic 40, 3) := by decide +kernel
theorem dX9_letterOf_7 : decode cX9_letterOf 7 = .ok (.ifCond .eq 12, 3) := by decide +kernel
theorem dX9_letterOf_10 : decode cX9_letterOf 10 = .ok (.iload_n 2, 1) := by decide +kernel
theorem dX9_letterOf_11 : decode cX9_letterOf 11 = .ok (.iconst 0, 1) := by decide +kernel
theorem dX9_letterOf_12 : decode cX9_letterOf 12 = .ok (.iconst 2, 1) := by decide +kernel
theorem dX9_letterOf_13 : decode cX9_letterOf 13 = .ok (.invokestatic 40, 3) := by decide +kernel
theorem dX9_letterOf_16 : decode cX9_letterOf 16 = .ok (.ifCond .ne 5, 3) := by decide +kernel
theorem dX9_letterOf_19 : decode cX9_letterOf 19 = .ok (.iconst (-1), 1) := by decide +kernel
theorem dX9_letterOf_20 : decode cX9_letterOf 20 = .ok (.ireturn, 1) := by decide +kernel
theorem dX9_letterOf_21 : decode cX9_letterOf 21 = .ok (.aload_n 0, 1) := by decide +kernel
theorem dX9_letterOf_22 : decode cX9_letterOf 22 = .ok (.invokevirtual 44, 3) := by decide +kernel
theorem dX9_letterOf_25 : decode cX9_letterOf 25 = .ok (.ifCond .eq 18, 3) := by decide +kernel
theorem dX9_letterOf_28 : decode cX9_letterOf 28 = .ok (.aload_n 0, 1) := by decide +kernel
theorem dX9_letterOf_29 : decode cX9_letterOf 29 = .ok (.getfield 7, 3) := by decide +kernel
theorem dX9_letterOf_32 : decode cX9_letterOf 32 = .ok (.bipush 6, 2) := by decide +kernel
theorem dX9_letterOf_34 : decode cX9_letterOf 34 = .ok (.iaload, 1) := by decide +kernel
theorem dX9_letterOf_35 : decode cX9_letterOf 35 = .ok (.iload_n 1, 1) := by decide +kernel
theorem dX9_letterOf_36 : decode cX9_letterOf 36 = .ok (.ishr, 1) := by decide +kernel
theorem dX9_letterOf_37 : decode cX9_letterOf 37 = .ok (.iconst 1, 1) := by decide +kernel
theorem dX9_letterOf_38 : decode cX9_letterOf 38 = .ok (.iand, 1) := by decide +kernel
theorem dX9_letterOf_39 : decode cX9_letterOf 39 = .ok (.iconst 1, 1) := by decide +kernel
theorem dX9_letterOf_40 : decode cX9_letterOf 40 = .ok (.if_icmp .ne 6, 3) := by decide +kernel
theorem dX9_letterOf_43 : decode cX9_letterOf 43 = .ok (.bipush (-2), 2) := by decide +kernel
theorem dX9_letterOf_45 : decode cX9_letterOf 45 = .ok (.ireturn, 1) := by decide +kernel
theorem dX9_letterOf_46 : decode cX9_letterOf 46 = .ok (.aload_n 0, 1) := by decide +kernel
theorem dX9_letterOf_47 : decode cX9_letterOf 47 = .ok (.invokevirtual 101, 3) := by decide +kernel
theorem dX9_letterOf_50 : decode cX9_letterOf 50 = .ok (.istore_n 3, 1) := by decide +kernel
theorem dX9_letterOf_51 : decode cX9_letterOf 51 = .ok (.aload_n 0, 1) := by decide +kernel
theorem dX9_letterOf_52 : decode cX9_letterOf 52 = .ok (.iload_n 3, 1) := by decide +kernel
theorem dX9_letterOf_53 : decode cX9_letterOf 53 = .ok (.iload_n 1, 1) := by decide +kernel
theorem dX9_letterOf_54 : decode cX9_letterOf 54 = .ok (.invokevirtual 98, 3) := by decide +kernel
theorem dX9_letterOf_57 : decode cX9_letterOf 57 = .ok (.i2f, 1) := by decide +kernel
theorem dX9_letterOf_58 : decode cX9_letterOf 58 = .ok (.aload_n 0, 1) := by decide +kernel
theorem dX9_letterOf_59 : decode cX9_letterOf 59 = .ok (.iload_n 3, 1) := by decide +kernel
theorem dX9_letterOf_60 : decode cX9_letterOf 60 = .ok (.bipush 26, 2) := by decide +kernel
theorem dX9_letterOf_62 : decode cX9_letterOf 62 = .ok (.invokevirtual 98, 3) := by decide +kernel
theorem dX9_letterOf_65 : decode cX9_letterOf 65 = .ok (.i2f, 1) := by decide +kernel
theorem dX9_letterOf_66 : decode cX9_letterOf 66 = .ok (.fdiv, 1) := by decide +kernel
theorem dX9_letterOf_67 : decode cX9_letterOf 67 = .ok (.fstore 4, 2) := by decide +kernel
theorem dX9_letterOf_69 : decode cX9_letterOf 69 = .ok (.iload_n 2, 1) := by decide +kernel
theorem dX9_letterOf_70 : decode cX9_letterOf 70 = .ok (.ifCond .ne 12, 3) := by decide +kernel
theorem dX9_letterOf_73 : decode cX9_letterOf 73 = .ok (.aload_n 0, 1) := by decide +kernel
theorem dX9_letterOf_74 : decode cX9_letterOf 74 = .ok (.iload_n 3, 1) := by decide +kernel
theorem dX9_letterOf_75 : decode cX9_letterOf 75 = .ok (.iload_n 1, 1) := by decide +kernel
theorem dX9_letterOf_76 : decode cX9_letterOf 76 = .ok (.invokevirtual 98, 3) := by decide +kernel
theorem dX9_letterOf_79 : decode cX9_letterOf 79 = .ok (.goto 22, 3) := by decide +kernel
theorem dX9_letterOf_82 : decode cX9_letterOf 82 = .ok (.iload_n 2, 1) := by decide +kernel
theorem dX9_letterOf_83 : decode cX9_letterOf 83 = .ok (.iconst 1, 1) := by decide +kernel
theorem dX9_letterOf_84 : decode cX9_letterOf 84 = .ok (.if_icmp .ne 11, 3) := by decide +kernel
theorem dX9_letterOf_87 : decode cX9_letterOf 87 = .ok (.fload 4, 2) := by decide +kernel
theorem dX9_letterOf_89 : decode cX9_letterOf 89 = .ok (.invokestatic 107, 3) := by decide +kernel
theorem dX9_letterOf_92 : decode cX9_letterOf 92 = .ok (.goto 9, 3) := by decide +kernel
theorem dX9_letterOf_95 : decode cX9_letterOf 95 = .ok (.aload_n 0, 1) := by decide +kernel
theorem dX9_letterOf_96 : decode cX9_letterOf 96 = .ok (.iload_n 3, 1) := by decide +kernel
theorem dX9_letterOf_97 : decode cX9_letterOf 97 = .ok (.iload_n 1, 1) := by decide +kernel
theorem dX9_letterOf_98 : decode cX9_letterOf 98 = .ok (.invokevirtual 113, 3) := by decide +kernel
theorem dX9_letterOf_101 : decode cX9_letterOf 101 = .ok (.ireturn, 1) := by decide +kernel
theorem dX9_sharpest_0 : decode cX9_sharpest 0 = .ok (.aload_n 0, 1) := by decide +kernel
theorem dX9_sharpest_1 : decode cX9_sharpest 1 = .ok (.invokevirtual 44, 3) := by decide +kernel
theorem dX9_sharpest_4 : decode cX9_sharpest 4 = .ok (.ifCond .ne 6, 3) := by decide +kernel
theorem dX9_sharpest_7 : decode cX9_sharpest 7 = .ok (.bipush (-2), 2) := by decide +kernel
theorem dX9_sharpest_9 : decode cX9_sharpest 9 = .ok (.ireturn, 1) := by decide +kernel
theorem dX9_sharpest_10 : decode cX9_sharpest 10 = .ok (.aload_n 0, 1) := by decide +kernel
theorem dX9_sharpest_11 : decode cX9_sharpest 11 = .ok (.invokevirtual 101, 3) := by decide +kernel
theorem dX9_sharpest_14 : decode cX9_sharpest 14 = .ok (.istore_n 1, 1) := by decide +kernel
theorem dX9_sharpest_15 : decode cX9_sharpest 15 = .ok (.bipush (-4), 2) := by decide +kernel
theorem dX9_sharpest_17 : decode cX9_sharpest 17 = .ok (.istore_n 2, 1) := by decide +kernel
theorem dX9_sharpest_18 : decode cX9_sharpest 18 = .ok (.bipush 17, 2) := by decide +kernel
theorem dX9_sharpest_20 : decode cX9_sharpest 20 = .ok (.istore_n 3, 1) := by decide +kernel
theorem dX9_sharpest_21 : decode cX9_sharpest 21 = .ok (.iconst 0, 1) := by decide +kernel
theorem dX9_sharpest_22 : decode cX9_sharpest 22 = .ok (.istore 4, 2) := by decide +kernel
theorem dX9_sharpest_24 : decode cX9_sharpest 24 = .ok (.iload 4, 2) := by decide +kernel
theorem dX9_sharpest_26 : decode cX9_sharpest 26 = .ok (.bipush 26, 2) := by decide +kernel
theorem dX9_sharpest_28 : decode cX9_sharpest 28 = .ok (.if_icmp .ge 65, 3) := by decide +kernel
theorem dX9_sharpest_31 : decode cX9_sharpest 31 = .ok (.aload_n 0, 1) := by decide +kernel
theorem dX9_sharpest_32 : decode cX9_sharpest 32 = .ok (.getfield 7, 3) := by decide +kernel
theorem dX9_sharpest_35 : decode cX9_sharpest 35 = .ok (.bipush 6, 2) := by decide +kernel
theorem dX9_sharpest_37 : decode cX9_sharpest 37 = .ok (.iaload, 1) := by decide +kernel
theorem dX9_sharpest_38 : decode cX9_sharpest 38 = .ok (.iload 4, 2) := by decide +kernel
theorem dX9_sharpest_40 : decode cX9_sharpest 40 = .ok (.ishr, 1) := by decide +kernel
theorem dX9_sharpest_41 : decode cX9_sharpest 41 = .ok (.iconst 1, 1) := by decide +kernel
theorem dX9_sharpest_42 : decode cX9_sharpest 42 = .ok (.iand, 1) := by decide +kernel
theorem dX9_sharpest_43 : decode cX9_sharpest 43 = .ok (.iconst 1, 1) := by decide +kernel
theorem dX9_sharpest_44 : decode cX9_sharpest 44 = .ok (.if_icmp .ne 8, 3) := by decide +kernel
theorem dX9_sharpest_47 : decode cX9_sharpest 47 = .ok (.bipush 17, 2) := by decide +kernel
theorem dX9_sharpest_49 : decode cX9_sharpest 49 = .ok (.goto 10, 3) := by decide +kernel
theorem dX9_sharpest_52 : decode cX9_sharpest 52 = .ok (.aload_n 0, 1) := by decide +kernel
theorem dX9_sharpest_53 : decode cX9_sharpest 53 = .ok (.iload_n 1, 1) := by decide +kernel
theorem dX9_sharpest_54 : decode cX9_sharpest 54 = .ok (.iload 4, 2) := by decide +kernel
theorem dX9_sharpest_56 : decode cX9_sharpest 56 = .ok (.invokevirtual 113, 3) := by decide +kernel
theorem dX9_sharpest_59 : decode cX9_sharpest 59 = .ok (.istore 5, 2) := by decide +kernel
theorem dX9_sharpest_61 : decode cX9_sharpest 61 = .ok (.iload 5, 2) := by decide +kernel
theorem dX9_sharpest_63 : decode cX9_sharpest 63 = .ok (.iload_n 3, 1) := by decide +kernel
theorem dX9_sharpest_64 : decode cX9_sharpest 64 = .ok (.if_icmp .ge 8, 3) := by decide +kernel
theorem dX9_sharpest_67 : decode cX9_sharpest 67 = .ok (.iload 4, 2) := by decide +kernel
theorem dX9_sharpest_69 : decode cX9_sharpest 69 = .ok (.goto 4, 3) := by decide +kernel
theorem dX9_sharpest_72 : decode cX9_sharpest 72 = .ok (.iload_n 2, 1) := by decide +kernel
theorem dX9_sharpest_73 : decode cX9_sharpest 73 = .ok (.istore_n 2, 1) := by decide +kernel
theorem dX9_sharpest_74 : decode cX9_sharpest 74 = .ok (.iload 5, 2) := by decide +kernel
theorem dX9_sharpest_76 : decode cX9_sharpest 76 = .ok (.iload_n 3, 1) := by decide +kernel
theorem dX9_sharpest_77 : decode cX9_sharpest 77 = .ok (.if_icmp .ge 8, 3) := by decide +kernel
theorem dX9_sharpest_80 : decode cX9_sharpest 80 = .ok (.iload 5, 2) := by decide +kernel
theorem dX9_sharpest_82 : decode cX9_sharpest 82 = .ok (.goto 4, 3) := by decide +kernel
theorem dX9_sharpest_85 : decode cX9_sharpest 85 = .ok (.iload_n 3, 1) := by decide +kernel
theorem dX9_sharpest_86 : decode cX9_sharpest 86 = .ok (.istore_n 3, 1) := by decide +kernel
theorem dX9_sharpest_87 : decode cX9_sharpest 87 = .ok (.iinc 4 1, 3) := by decide +kernel
theorem dX9_sharpest_90 : decode cX9_sharpest 90 = .ok (.goto (-66), 3) := by decide +kernel
theorem dX9_sharpest_93 : decode cX9_sharpest 93 = .ok (.iload_n 2, 1) := by decide +kernel
theorem dX9_sharpest_94 : decode cX9_sharpest 94 = .ok (.ireturn, 1) := by decide +kernel
theorem dX9_next_0 : decode cX9_next 0 = .ok (.aload_n 0, 1) := by decide +kernel
theorem dX9_next_1 : decode cX9_next 1 = .ok (.invokevirtual 44, 3) := by decide +kernel
theorem dX9_next_4 : decode cX9_next 4 = .ok (.ifCond .ne 12, 3) := by decide +kernel
theorem dX9_next_7 : decode cX9_next 7 = .ok (.aload_n 0, 1) := by decide +kernel
theorem dX9_next_8 : decode cX9_next 8 = .ok (.getfield 7, 3) := by decide +kernel
theorem dX9_next_11 : decode cX9_next 11 = .ok (.iconst 0, 1) := by decide +kernel
theorem dX9_next_12 : decode cX9_next 12 = .ok (.iaload, 1) := by decide +kernel
theorem dX9_next_13 : decode cX9_next 13 = .ok (.ifCond .ne 8, 3) := by decide +kernel
theorem dX9_next_16 : decode cX9_next 16 = .ok (.bipush (-2), 2) := by decide +kernel
theorem dX9_next_18 : decode cX9_next 18 = .ok (.goto 11, 3) := by decide +kernel
theorem dX9_next_21 : decode cX9_next 21 = .ok (.aload_n 0, 1) := by decide +kernel
theorem dX9_next_22 : decode cX9_next 22 = .ok (.aload_n 0, 1) := by decide +kernel
theorem dX9_next_23 : decode cX9_next 23 = .ok (.invokevirtual 71, 3) := by decide +kernel
theorem dX9_next_26 : decode cX9_next 26 = .ok (.invokevirtual 74, 3) := by decide +kernel
theorem dX9_next_29 : decode cX9_next 29 = .ok (.ireturn, 1) := by decide +kernel
theorem dX9_lettersOf_0 : decode cX9_lettersOf 0 = .ok (.iconst 0, 1) := by decide +kernel
theorem dX9_lettersOf_1 : decode cX9_lettersOf 1 = .ok (.istore_n 2, 1) := by decide +kernel
theorem dX9_lettersOf_2 : decode cX9_lettersOf 2 = .ok (.iconst 0, 1) := by decide +kernel
theorem dX9_lettersOf_3 : decode cX9_lettersOf 3 = .ok (.istore_n 3, 1) := by decide +kernel
theorem dX9_lettersOf_4 : decode cX9_lettersOf 4 = .ok (.iload_n 3, 1) := by decide +kernel
theorem dX9_lettersOf_5 : decode cX9_lettersOf 5 = .ok (.aload_n 0, 1) := by decide +kernel
theorem dX9_lettersOf_6 : decode cX9_lettersOf 6 = .ok (.iload_n 1, 1) := by decide +kernel
theorem dX9_lettersOf_7 : decode cX9_lettersOf 7 = .ok (.iconst 0, 1) := by decide +kernel
theorem dX9_lettersOf_8 : decode cX9_lettersOf 8 = .ok (.invokevirtual 29, 3) := by decide +kernel
theorem dX9_lettersOf_11 : decode cX9_lettersOf 11 = .ok (.if_icmp .ge 20, 3) := by decide +kernel
theorem dX9_lettersOf_14 : decode cX9_lettersOf 14 = .ok (.iload_n 2, 1) := by decide +kernel
theorem dX9_lettersOf_15 : decode cX9_lettersOf 15 = .ok (.iconst 1, 1) := by decide +kernel
theorem dX9_lettersOf_16 : decode cX9_lettersOf 16 = .ok (.aload_n 0, 1) := by decide +kernel
theorem dX9_lettersOf_17 : decode cX9_lettersOf 17 = .ok (.iload_n 1, 1) := by decide +kernel
theorem dX9_lettersOf_18 : decode cX9_lettersOf 18 = .ok (.iload_n 3, 1) := by decide +kernel
theorem dX9_lettersOf_19 : decode cX9_lettersOf 19 = .ok (.invokevirtual 33, 3) := by decide +kernel
theorem dX9_lettersOf_22 : decode cX9_lettersOf 22 = .ok (.ishl, 1) := by decide +kernel
theorem dX9_lettersOf_23 : decode cX9_lettersOf 23 = .ok (.ior, 1) := by decide +kernel
theorem dX9_lettersOf_24 : decode cX9_lettersOf 24 = .ok (.istore_n 2, 1) := by decide +kernel
theorem dX9_lettersOf_25 : decode cX9_lettersOf 25 = .ok (.iinc 3 1, 3) := by decide +kernel
theorem dX9_lettersOf_28 : decode cX9_lettersOf 28 = .ok (.goto (-24), 3) := by decide +kernel
theorem dX9_lettersOf_31 : decode cX9_lettersOf 31 = .ok (.iload_n 2, 1) := by decide +kernel
theorem dX9_lettersOf_32 : decode cX9_lettersOf 32 = .ok (.ireturn, 1) := by decide +kernel
theorem dX9_wordOf_0 : decode cX9_wordOf 0 = .ok (.aload_n 0, 1) := by decide +kernel
theorem dX9_wordOf_1 : decode cX9_wordOf 1 = .ok (.iload_n 1, 1) := by decide +kernel
theorem dX9_wordOf_2 : decode cX9_wordOf 2 = .ok (.invokevirtual 36, 3) := by decide +kernel
theorem dX9_wordOf_5 : decode cX9_wordOf 5 = .ok (.ifCond .eq 30, 3) := by decide +kernel
theorem dX9_wordOf_8 : decode cX9_wordOf 8 = .ok (.iload_n 2, 1) := by decide +kernel
theorem dX9_wordOf_9 : decode cX9_wordOf 9 = .ok (.iconst 0, 1) := by decide +kernel
theorem dX9_wordOf_10 : decode cX9_wordOf 10 = .ok (.iconst 4, 1) := by decide +kernel
theorem dX9_wordOf_11 : decode cX9_wordOf 11 = .ok (.invokestatic 40, 3) := by decide +kernel
theorem dX9_wordOf_14 : decode cX9_wordOf 14 = .ok (.ifCond .ne 23, 3) := by decide +kernel
theorem dX9_wordOf_17 : decode cX9_wordOf 17 = .ok (.iload_n 2, 1) := by decide +kernel
theorem dX9_wordOf_18 : decode cX9_wordOf 18 = .ok (.bipush 10, 2) := by decide +kernel
theorem dX9_wordOf_20 : decode cX9_wordOf 20 = .ok (.bipush 9, 2) := by decide +kernel
theorem dX9_wordOf_22 : decode cX9_wordOf 22 = .ok (.aload_n 0, 1) := by decide +kernel
theorem dX9_wordOf_23 : decode cX9_wordOf 23 = .ok (.iload_n 1, 1) := by decide +kernel
theorem dX9_wordOf_24 : decode cX9_wordOf 24 = .ok (.iconst 0, 1) := by decide +kernel
theorem dX9_wordOf_25 : decode cX9_wordOf 25 = .ok (.invokevirtual 29, 3) := by decide +kernel
theorem dX9_wordOf_28 : decode cX9_wordOf 28 = .ok (.iadd, 1) := by decide +kernel
theorem dX9_wordOf_29 : decode cX9_wordOf 29 = .ok (.invokestatic 40, 3) := by decide +kernel
theorem dX9_wordOf_32 : decode cX9_wordOf 32 = .ok (.ifCond .ne 5, 3) := by decide +kernel
theorem dX9_wordOf_35 : decode cX9_wordOf 35 = .ok (.iconst (-1), 1) := by decide +kernel
theorem dX9_wordOf_36 : decode cX9_wordOf 36 = .ok (.ireturn, 1) := by decide +kernel
theorem dX9_wordOf_37 : decode cX9_wordOf 37 = .ok (.iload_n 2, 1) := by decide +kernel
theorem dX9_wordOf_38 : decode cX9_wordOf 38 = .ok (.tableswitch 80 0 4 #[34, 34, 41, 47, 54], 34) := by decide +kernel
theorem dX9_wordOf_72 : decode cX9_wordOf 72 = .ok (.aload_n 0, 1) := by decide +kernel
theorem dX9_wordOf_73 : decode cX9_wordOf 73 = .ok (.iload_n 1, 1) := by decide +kernel
theorem dX9_wordOf_74 : decode cX9_wordOf 74 = .ok (.iload_n 2, 1) := by decide +kernel
theorem dX9_wordOf_75 : decode cX9_wordOf 75 = .ok (.invokevirtual 29, 3) := by decide +kernel
theorem dX9_wordOf_78 : decode cX9_wordOf 78 = .ok (.ireturn, 1) := by decide +kernel
theorem dX9_wordOf_79 : decode cX9_wordOf 79 = .ok (.aload_n 0, 1) := by decide +kernel
theorem dX9_wordOf_80 : decode cX9_wordOf 80 = .ok (.iload_n 1, 1) := by decide +kernel
theorem dX9_wordOf_81 : decode cX9_wordOf 81 = .ok (.invokevirtual 116, 3) := by decide +kernel
theorem dX9_wordOf_84 : decode cX9_wordOf 84 = .ok (.ireturn, 1) := by decide +kernel
theorem dX9_wordOf_85 : decode cX9_wordOf 85 = .ok (.aload_n 0, 1) := by decide +kernel
theorem dX9_wordOf_86 : decode cX9_wordOf 86 = .ok (.iload_n 1, 1) := by decide +kernel
theorem dX9_wordOf_87 : decode cX9_wordOf 87 = .ok (.iconst 2, 1) := by decide +kernel
theorem dX9_wordOf_88 : decode cX9_wordOf 88 = .ok (.invokevirtual 29, 3) := by decide +kernel
theorem dX9_wordOf_91 : decode cX9_wordOf 91 = .ok (.ireturn, 1) := by decide +kernel
theorem dX9_wordOf_92 : decode cX9_wordOf 92 = .ok (.aload_n 0, 1) := by decide +kernel
theorem dX9_wordOf_93 : decode cX9_wordOf 93 = .ok (.invokevirtual 44, 3) := by decide +kernel
theorem dX9_wordOf_96 : decode cX9_wordOf 96 = .ok (.ifCond .ne 8, 3) := by decide +kernel
theorem dX9_wordOf_99 : decode cX9_wordOf 99 = .ok (.bipush (-4), 2) := by decide +kernel
theorem dX9_wordOf_101 : decode cX9_wordOf 101 = .ok (.goto 16, 3) := by decide +kernel
theorem dX9_wordOf_104 : decode cX9_wordOf 104 = .ok (.aload_n 0, 1) := by decide +kernel
theorem dX9_wordOf_105 : decode cX9_wordOf 105 = .ok (.iload_n 1, 1) := by decide +kernel
theorem dX9_wordOf_106 : decode cX9_wordOf 106 = .ok (.invokevirtual 95, 3) := by decide +kernel
theorem dX9_wordOf_109 : decode cX9_wordOf 109 = .ok (.ifCond .eq 7, 3) := by decide +kernel
theorem dX9_wordOf_112 : decode cX9_wordOf 112 = .ok (.iconst 1, 1) := by decide +kernel
theorem dX9_wordOf_113 : decode cX9_wordOf 113 = .ok (.goto 4, 3) := by decide +kernel
theorem dX9_wordOf_116 : decode cX9_wordOf 116 = .ok (.iconst 0, 1) := by decide +kernel
theorem dX9_wordOf_117 : decode cX9_wordOf 117 = .ok (.ireturn, 1) := by decide +kernel
theorem dX9_wordOf_118 : decode cX9_wordOf 118 = .ok (.aload_n 0, 1) := by decide +kernel
theorem dX9_wordOf_119 : decode cX9_wordOf 119 = .ok (.iload_n 1, 1) := by decide +kernel
theorem dX9_wordOf_120 : decode cX9_wordOf 120 = .ok (.iload_n 2, 1) := by decide +kernel
theorem dX9_wordOf_121 : decode cX9_wordOf 121 = .ok (.bipush 10, 2) := by decide +kernel
theorem dX9_wordOf_123 : decode cX9_wordOf 123 = .ok (.isub, 1) := by decide +kernel
theorem dX9_wordOf_124 : decode cX9_wordOf 124 = .ok (.invokevirtual 33, 3) := by decide +kernel
theorem dX9_wordOf_127 : decode cX9_wordOf 127 = .ok (.ireturn, 1) := by decide +kernel
theorem dX9_playerOf_0 : decode cX9_playerOf 0 = .ok (.aload_n 0, 1) := by decide +kernel
theorem dX9_playerOf_1 : decode cX9_playerOf 1 = .ok (.iload_n 1, 1) := by decide +kernel
theorem dX9_playerOf_2 : decode cX9_playerOf 2 = .ok (.invokevirtual 54, 3) := by decide +kernel
theorem dX9_playerOf_5 : decode cX9_playerOf 5 = .ok (.ifCond .eq 12, 3) := by decide +kernel
theorem dX9_playerOf_8 : decode cX9_playerOf 8 = .ok (.iload_n 2, 1) := by decide +kernel
theorem dX9_playerOf_9 : decode cX9_playerOf 9 = .ok (.iconst 0, 1) := by decide +kernel
theorem dX9_playerOf_10 : decode cX9_playerOf 10 = .ok (.iconst 5, 1) := by decide +kernel
theorem dX9_playerOf_11 : decode cX9_playerOf 11 = .ok (.invokestatic 40, 3) := by decide +kernel
theorem dX9_playerOf_14 : decode cX9_playerOf 14 = .ok (.ifCond .ne 5, 3) := by decide +kernel
theorem dX9_playerOf_17 : decode cX9_playerOf 17 = .ok (.iconst (-1), 1) := by decide +kernel
theorem dX9_playerOf_18 : decode cX9_playerOf 18 = .ok (.ireturn, 1) := by decide +kernel
theorem dX9_playerOf_19 : decode cX9_playerOf 19 = .ok (.iload_n 2, 1) := by decide +kernel
theorem dX9_playerOf_20 : decode cX9_playerOf 20 = .ok (.iconst 3, 1) := by decide +kernel
theorem dX9_playerOf_21 : decode cX9_playerOf 21 = .ok (.if_icmp .le 23, 3) := by decide +kernel
theorem dX9_playerOf_24 : decode cX9_playerOf 24 = .ok (.aload_n 0, 1) := by decide +kernel
theorem dX9_playerOf_25 : decode cX9_playerOf 25 = .ok (.getfield 7, 3) := by decide +kernel
theorem dX9_playerOf_28 : decode cX9_playerOf 28 = .ok (.iload_n 1, 1) := by decide +kernel
theorem dX9_playerOf_29 : decode cX9_playerOf 29 = .ok (.iconst 4, 1) := by decide +kernel
theorem dX9_playerOf_30 : decode cX9_playerOf 30 = .ok (.invokestatic 51, 3) := by decide +kernel
theorem dX9_playerOf_33 : decode cX9_playerOf 33 = .ok (.iaload, 1) := by decide +kernel
theorem dX9_playerOf_34 : decode cX9_playerOf 34 = .ok (.bipush 26, 2) := by decide +kernel
theorem dX9_playerOf_36 : decode cX9_playerOf 36 = .ok (.if_icmp .ne 8, 3) := by decide +kernel
theorem dX9_playerOf_39 : decode cX9_playerOf 39 = .ok (.bipush (-4), 2) := by decide +kernel
theorem dX9_playerOf_41 : decode cX9_playerOf 41 = .ok (.goto 13, 3) := by decide +kernel
theorem dX9_playerOf_44 : decode cX9_playerOf 44 = .ok (.aload_n 0, 1) := by decide +kernel
theorem dX9_playerOf_45 : decode cX9_playerOf 45 = .ok (.getfield 7, 3) := by decide +kernel
theorem dX9_playerOf_48 : decode cX9_playerOf 48 = .ok (.iload_n 1, 1) := by decide +kernel
theorem dX9_playerOf_49 : decode cX9_playerOf 49 = .ok (.iload_n 2, 1) := by decide +kernel
theorem dX9_playerOf_50 : decode cX9_playerOf 50 = .ok (.invokestatic 51, 3) := by decide +kernel
theorem dX9_playerOf_53 : decode cX9_playerOf 53 = .ok (.iaload, 1) := by decide +kernel
theorem dX9_playerOf_54 : decode cX9_playerOf 54 = .ok (.ireturn, 1) := by decide +kernel
theorem dX9_open_0 : decode cX9_open 0 = .ok (.iload_n 1, 1) := by decide +kernel
theorem dX9_open_1 : decode cX9_open 1 = .ok (.ifCond .ge 5, 3) := by decide +kernel
theorem dX9_open_4 : decode cX9_open 4 = .ok (.iconst (-1), 1) := by decide +kernel
theorem dX9_open_5 : decode cX9_open 5 = .ok (.ireturn, 1) := by decide +kernel
theorem dX9_open_6 : decode cX9_open 6 = .ok (.aload_n 0, 1) := by decide +kernel
theorem dX9_open_7 : decode cX9_open 7 = .ok (.invokevirtual 44, 3) := by decide +kernel
theorem dX9_open_10 : decode cX9_open 10 = .ok (.ifCond .ne 6, 3) := by decide +kernel
theorem dX9_open_13 : decode cX9_open 13 = .ok (.bipush (-2), 2) := by decide +kernel
theorem dX9_open_15 : decode cX9_open 15 = .ok (.ireturn, 1) := by decide +kernel
theorem dX9_open_16 : decode cX9_open 16 = .ok (.iload_n 1, 1) := by decide +kernel
theorem dX9_open_17 : decode cX9_open 17 = .ok (.aload_n 0, 1) := by decide +kernel
theorem dX9_open_18 : decode cX9_open 18 = .ok (.aload_n 0, 1) := by decide +kernel
theorem dX9_open_19 : decode cX9_open 19 = .ok (.getfield 7, 3) := by decide +kernel
theorem dX9_open_22 : decode cX9_open 22 = .ok (.bipush 13, 2) := by decide +kernel
theorem dX9_open_24 : decode cX9_open 24 = .ok (.iaload, 1) := by decide +kernel
theorem dX9_open_25 : decode cX9_open 25 = .ok (.iconst 0, 1) := by decide +kernel
theorem dX9_open_26 : decode cX9_open 26 = .ok (.invokevirtual 29, 3) := by decide +kernel
theorem dX9_open_29 : decode cX9_open 29 = .ok (.if_icmp .lt 6, 3) := by decide +kernel
theorem dX9_open_32 : decode cX9_open 32 = .ok (.bipush (-4), 2) := by decide +kernel
theorem dX9_open_34 : decode cX9_open 34 = .ok (.ireturn, 1) := by decide +kernel
theorem dX9_open_35 : decode cX9_open 35 = .ok (.aload_n 0, 1) := by decide +kernel
theorem dX9_open_36 : decode cX9_open 36 = .ok (.getfield 7, 3) := by decide +kernel
theorem dX9_open_39 : decode cX9_open 39 = .ok (.bipush 7, 2) := by decide +kernel
theorem dX9_open_41 : decode cX9_open 41 = .ok (.iaload, 1) := by decide +kernel
theorem dX9_open_42 : decode cX9_open 42 = .ok (.iload_n 1, 1) := by decide +kernel
theorem dX9_open_43 : decode cX9_open 43 = .ok (.ishr, 1) := by decide +kernel
theorem dX9_open_44 : decode cX9_open 44 = .ok (.iconst 1, 1) := by decide +kernel
theorem dX9_open_45 : decode cX9_open 45 = .ok (.iand, 1) := by decide +kernel
theorem dX9_open_46 : decode cX9_open 46 = .ok (.iconst 1, 1) := by decide +kernel
theorem dX9_open_47 : decode cX9_open 47 = .ok (.if_icmp .ne 18, 3) := by decide +kernel
theorem dX9_open_50 : decode cX9_open 50 = .ok (.aload_n 0, 1) := by decide +kernel
theorem dX9_open_51 : decode cX9_open 51 = .ok (.aload_n 0, 1) := by decide +kernel
theorem dX9_open_52 : decode cX9_open 52 = .ok (.getfield 7, 3) := by decide +kernel
theorem dX9_open_55 : decode cX9_open 55 = .ok (.bipush 13, 2) := by decide +kernel
theorem dX9_open_57 : decode cX9_open 57 = .ok (.iaload, 1) := by decide +kernel
theorem dX9_open_58 : decode cX9_open 58 = .ok (.iload_n 1, 1) := by decide +kernel
theorem dX9_open_59 : decode cX9_open 59 = .ok (.invokevirtual 33, 3) := by decide +kernel
theorem dX9_open_62 : decode cX9_open 62 = .ok (.goto 5, 3) := by decide +kernel
theorem dX9_open_65 : decode cX9_open 65 = .ok (.bipush 26, 2) := by decide +kernel
theorem dX9_open_67 : decode cX9_open 67 = .ok (.ireturn, 1) := by decide +kernel
theorem dX9_round_0 : decode cX9_round 0 = .ok (.iload_n 1, 1) := by decide +kernel
theorem dX9_round_1 : decode cX9_round 1 = .ok (.ifCond .lt 12, 3) := by decide +kernel
theorem dX9_round_4 : decode cX9_round 4 = .ok (.iload_n 2, 1) := by decide +kernel
theorem dX9_round_5 : decode cX9_round 5 = .ok (.iconst 0, 1) := by decide +kernel
theorem dX9_round_6 : decode cX9_round 6 = .ok (.iconst 3, 1) := by decide +kernel
theorem dX9_round_7 : decode cX9_round 7 = .ok (.invokestatic 40, 3) := by decide +kernel
theorem dX9_round_10 : decode cX9_round 10 = .ok (.ifCond .ne 5, 3) := by decide +kernel
theorem dX9_round_13 : decode cX9_round 13 = .ok (.iconst (-1), 1) := by decide +kernel
theorem dX9_round_14 : decode cX9_round 14 = .ok (.ireturn, 1) := by decide +kernel
theorem dX9_round_15 : decode cX9_round 15 = .ok (.iload_n 1, 1) := by decide +kernel
theorem dX9_round_16 : decode cX9_round 16 = .ok (.aload_n 0, 1) := by decide +kernel
theorem dX9_round_17 : decode cX9_round 17 = .ok (.getfield 7, 3) := by decide +kernel
theorem dX9_round_20 : decode cX9_round 20 = .ok (.bipush 15, 2) := by decide +kernel
theorem dX9_round_22 : decode cX9_round 22 = .ok (.iaload, 1) := by decide +kernel
theorem dX9_round_23 : decode cX9_round 23 = .ok (.if_icmp .ge 20, 3) := by decide +kernel
theorem dX9_round_26 : decode cX9_round 26 = .ok (.aload_n 0, 1) := by decide +kernel
theorem dX9_round_27 : decode cX9_round 27 = .ok (.getfield 7, 3) := by decide +kernel
theorem dX9_round_30 : decode cX9_round 30 = .ok (.sipush 222, 3) := by decide +kernel
theorem dX9_round_33 : decode cX9_round 33 = .ok (.iconst 4, 1) := by decide +kernel
theorem dX9_round_34 : decode cX9_round 34 = .ok (.iload_n 1, 1) := by decide +kernel
theorem dX9_round_35 : decode cX9_round 35 = .ok (.imul, 1) := by decide +kernel
theorem dX9_round_36 : decode cX9_round 36 = .ok (.iadd, 1) := by decide +kernel
theorem dX9_round_37 : decode cX9_round 37 = .ok (.iload_n 2, 1) := by decide +kernel
theorem dX9_round_38 : decode cX9_round 38 = .ok (.iadd, 1) := by decide +kernel
theorem dX9_round_39 : decode cX9_round 39 = .ok (.iaload, 1) := by decide +kernel
theorem dX9_round_40 : decode cX9_round 40 = .ok (.goto 5, 3) := by decide +kernel
theorem dX9_round_43 : decode cX9_round 43 = .ok (.bipush (-4), 2) := by decide +kernel
theorem dX9_round_45 : decode cX9_round 45 = .ok (.ireturn, 1) := by decide +kernel
theorem dX9_count_0 : decode cX9_count 0 = .ok (.iload_n 1, 1) := by decide +kernel
theorem dX9_count_1 : decode cX9_count 1 = .ok (.tableswitch 171 0 15 #[79, 79, 79, 86, 86, 86, 86, 105, 128, 128, 128, 135, 140, 145, 150, 163], 79) := by decide +kernel
theorem dX9_count_80 : decode cX9_count 80 = .ok (.aload_n 0, 1) := by decide +kernel
theorem dX9_count_81 : decode cX9_count 81 = .ok (.getfield 7, 3) := by decide +kernel
theorem dX9_count_84 : decode cX9_count 84 = .ok (.iload_n 1, 1) := by decide +kernel
theorem dX9_count_85 : decode cX9_count 85 = .ok (.iaload, 1) := by decide +kernel
theorem dX9_count_86 : decode cX9_count 86 = .ok (.ireturn, 1) := by decide +kernel
theorem dX9_count_87 : decode cX9_count 87 = .ok (.aload_n 0, 1) := by decide +kernel
theorem dX9_count_88 : decode cX9_count 88 = .ok (.invokevirtual 44, 3) := by decide +kernel
theorem dX9_count_91 : decode cX9_count 91 = .ok (.ifCond .eq 12, 3) := by decide +kernel
theorem dX9_count_94 : decode cX9_count 94 = .ok (.aload_n 0, 1) := by decide +kernel
theorem dX9_count_95 : decode cX9_count 95 = .ok (.getfield 7, 3) := by decide +kernel
theorem dX9_count_98 : decode cX9_count 98 = .ok (.iload_n 1, 1) := by decide +kernel
theorem dX9_count_99 : decode cX9_count 99 = .ok (.iaload, 1) := by decide +kernel
theorem dX9_count_100 : decode cX9_count 100 = .ok (.goto 5, 3) := by decide +kernel
theorem dX9_count_103 : decode cX9_count 103 = .ok (.bipush (-4), 2) := by decide +kernel
theorem dX9_count_105 : decode cX9_count 105 = .ok (.ireturn, 1) := by decide +kernel
theorem dX9_count_106 : decode cX9_count 106 = .ok (.aload_n 0, 1) := by decide +kernel
theorem dX9_count_107 : decode cX9_count 107 = .ok (.invokevirtual 44, 3) := by decide +kernel
theorem dX9_count_110 : decode cX9_count 110 = .ok (.ifCond .eq 16, 3) := by decide +kernel
theorem dX9_count_113 : decode cX9_count 113 = .ok (.aload_n 0, 1) := by decide +kernel
theorem dX9_count_114 : decode cX9_count 114 = .ok (.getfield 7, 3) := by decide +kernel
theorem dX9_count_117 : decode cX9_count 117 = .ok (.bipush 7, 2) := by decide +kernel
theorem dX9_count_119 : decode cX9_count 119 = .ok (.iaload, 1) := by decide +kernel
theorem dX9_count_120 : decode cX9_count 120 = .ok (.invokestatic 82, 3) := by decide +kernel
theorem dX9_count_123 : decode cX9_count 123 = .ok (.goto 5, 3) := by decide +kernel
theorem dX9_count_126 : decode cX9_count 126 = .ok (.bipush (-4), 2) := by decide +kernel
theorem dX9_count_128 : decode cX9_count 128 = .ok (.ireturn, 1) := by decide +kernel
theorem dX9_count_129 : decode cX9_count 129 = .ok (.aload_n 0, 1) := by decide +kernel
theorem dX9_count_130 : decode cX9_count 130 = .ok (.getfield 7, 3) := by decide +kernel
theorem dX9_count_133 : decode cX9_count 133 = .ok (.iload_n 1, 1) := by decide +kernel
theorem dX9_count_134 : decode cX9_count 134 = .ok (.iaload, 1) := by decide +kernel
theorem dX9_count_135 : decode cX9_count 135 = .ok (.ireturn, 1) := by decide +kernel
theorem dX9_count_136 : decode cX9_count 136 = .ok (.aload_n 0, 1) := by decide +kernel
theorem dX9_count_137 : decode cX9_count 137 = .ok (.invokevirtual 64, 3) := by decide +kernel
theorem dX9_count_140 : decode cX9_count 140 = .ok (.ireturn, 1) := by decide +kernel
theorem dX9_count_141 : decode cX9_count 141 = .ok (.aload_n 0, 1) := by decide +kernel
theorem dX9_count_142 : decode cX9_count 142 = .ok (.getfield 25, 3) := by decide +kernel
theorem dX9_count_145 : decode cX9_count 145 = .ok (.ireturn, 1) := by decide +kernel
theorem dX9_count_146 : decode cX9_count 146 = .ok (.aload_n 0, 1) := by decide +kernel
theorem dX9_count_147 : decode cX9_count 147 = .ok (.getfield 119, 3) := by decide +kernel
theorem dX9_count_150 : decode cX9_count 150 = .ok (.ireturn, 1) := by decide +kernel
theorem dX9_count_151 : decode cX9_count 151 = .ok (.aload_n 0, 1) := by decide +kernel
theorem dX9_count_152 : decode cX9_count 152 = .ok (.getfield 122, 3) := by decide +kernel
theorem dX9_count_155 : decode cX9_count 155 = .ok (.ifCond .eq 7, 3) := by decide +kernel
theorem dX9_count_158 : decode cX9_count 158 = .ok (.iconst 1, 1) := by decide +kernel
theorem dX9_count_159 : decode cX9_count 159 = .ok (.goto 4, 3) := by decide +kernel
theorem dX9_count_162 : decode cX9_count 162 = .ok (.iconst 0, 1) := by decide +kernel
theorem dX9_count_163 : decode cX9_count 163 = .ok (.ireturn, 1) := by decide +kernel
theorem dX9_count_164 : decode cX9_count 164 = .ok (.aload_n 0, 1) := by decide +kernel
theorem dX9_count_165 : decode cX9_count 165 = .ok (.getfield 7, 3) := by decide +kernel
theorem dX9_count_168 : decode cX9_count 168 = .ok (.bipush 11, 2) := by decide +kernel
theorem dX9_count_170 : decode cX9_count 170 = .ok (.iaload, 1) := by decide +kernel
theorem dX9_count_171 : decode cX9_count 171 = .ok (.ireturn, 1) := by decide +kernel
theorem dX9_count_172 : decode cX9_count 172 = .ok (.iconst (-1), 1) := by decide +kernel
theorem dX9_count_173 : decode cX9_count 173 = .ok (.ireturn, 1) := by decide +kernel
theorem dX9_keep_0 : decode cX9_keep 0 = .ok (.aload_n 0, 1) := by decide +kernel
theorem dX9_keep_1 : decode cX9_keep 1 = .ok (.getfield 7, 3) := by decide +kernel
theorem dX9_keep_4 : decode cX9_keep 4 = .ok (.aload_n 0, 1) := by decide +kernel
theorem dX9_keep_5 : decode cX9_keep 5 = .ok (.getfield 16, 3) := by decide +kernel
theorem dX9_keep_8 : decode cX9_keep 8 = .ok (.invokestatic 126, 3) := by decide +kernel
theorem dX9_keep_11 : decode cX9_keep 11 = .ok (.aload_n 0, 1) := by decide +kernel
theorem dX9_keep_12 : decode cX9_keep 12 = .ok (.iconst 1, 1) := by decide +kernel
theorem dX9_keep_13 : decode cX9_keep 13 = .ok (.putfield 122, 3) := by decide +kernel
theorem dX9_keep_16 : decode cX9_keep 16 = .ok (.aload_n 0, 1) := by decide +kernel
theorem dX9_keep_17 : decode cX9_keep 17 = .ok (.getfield 7, 3) := by decide +kernel
theorem dX9_keep_20 : decode cX9_keep 20 = .ok (.iconst 1, 1) := by decide +kernel
theorem dX9_keep_21 : decode cX9_keep 21 = .ok (.iaload, 1) := by decide +kernel
theorem dX9_keep_22 : decode cX9_keep 22 = .ok (.ireturn, 1) := by decide +kernel
theorem dX9_restore_0 : decode cX9_restore 0 = .ok (.aload_n 0, 1) := by decide +kernel
theorem dX9_restore_1 : decode cX9_restore 1 = .ok (.getfield 122, 3) := by decide +kernel
theorem dX9_restore_4 : decode cX9_restore 4 = .ok (.ifCond .ne 6, 3) := by decide +kernel
theorem dX9_restore_7 : decode cX9_restore 7 = .ok (.bipush (-2), 2) := by decide +kernel
theorem dX9_restore_9 : decode cX9_restore 9 = .ok (.ireturn, 1) := by decide +kernel
theorem dX9_restore_10 : decode cX9_restore 10 = .ok (.aload_n 0, 1) := by decide +kernel
theorem dX9_restore_11 : decode cX9_restore 11 = .ok (.invokevirtual 48, 3) := by decide +kernel
theorem dX9_restore_14 : decode cX9_restore 14 = .ok (.aload_n 0, 1) := by decide +kernel
theorem dX9_restore_15 : decode cX9_restore 15 = .ok (.getfield 16, 3) := by decide +kernel
theorem dX9_restore_18 : decode cX9_restore 18 = .ok (.aload_n 0, 1) := by decide +kernel
theorem dX9_restore_19 : decode cX9_restore 19 = .ok (.getfield 7, 3) := by decide +kernel
theorem dX9_restore_22 : decode cX9_restore 22 = .ok (.invokestatic 126, 3) := by decide +kernel
theorem dX9_restore_25 : decode cX9_restore 25 = .ok (.aload_n 0, 1) := by decide +kernel
theorem dX9_restore_26 : decode cX9_restore 26 = .ok (.getfield 7, 3) := by decide +kernel
theorem dX9_restore_29 : decode cX9_restore 29 = .ok (.iconst 1, 1) := by decide +kernel
theorem dX9_restore_30 : decode cX9_restore 30 = .ok (.iaload, 1) := by decide +kernel
theorem dX9_restore_31 : decode cX9_restore 31 = .ok (.ireturn, 1) := by decide +kernel
theorem dX9_undo_0 : decode cX9_undo 0 = .ok (.aload_n 0, 1) := by decide +kernel
theorem dX9_undo_1 : decode cX9_undo 1 = .ok (.getfield 25, 3) := by decide +kernel
theorem dX9_undo_4 : decode cX9_undo 4 = .ok (.ifCond .ne 6, 3) := by decide +kernel
theorem dX9_undo_7 : decode cX9_undo 7 = .ok (.bipush (-2), 2) := by decide +kernel
theorem dX9_undo_9 : decode cX9_undo 9 = .ok (.ireturn, 1) := by decide +kernel
theorem dX9_undo_10 : decode cX9_undo 10 = .ok (.aload_n 0, 1) := by decide +kernel
theorem dX9_undo_11 : decode cX9_undo 11 = .ok (.dup, 1) := by decide +kernel
theorem dX9_undo_12 : decode cX9_undo 12 = .ok (.getfield 25, 3) := by decide +kernel
theorem dX9_undo_15 : decode cX9_undo 15 = .ok (.iconst 1, 1) := by decide +kernel
theorem dX9_undo_16 : decode cX9_undo 16 = .ok (.isub, 1) := by decide +kernel
theorem dX9_undo_17 : decode cX9_undo 17 = .ok (.putfield 25, 3) := by decide +kernel
theorem dX9_undo_20 : decode cX9_undo 20 = .ok (.iconst 0, 1) := by decide +kernel
theorem dX9_undo_21 : decode cX9_undo 21 = .ok (.istore_n 1, 1) := by decide +kernel
theorem dX9_undo_22 : decode cX9_undo 22 = .ok (.iload_n 1, 1) := by decide +kernel
theorem dX9_undo_23 : decode cX9_undo 23 = .ok (.sipush 246, 3) := by decide +kernel
theorem dX9_undo_26 : decode cX9_undo 26 = .ok (.if_icmp .ge 30, 3) := by decide +kernel
theorem dX9_undo_29 : decode cX9_undo 29 = .ok (.aload_n 0, 1) := by decide +kernel
theorem dX9_undo_30 : decode cX9_undo 30 = .ok (.getfield 7, 3) := by decide +kernel
theorem dX9_undo_33 : decode cX9_undo 33 = .ok (.iload_n 1, 1) := by decide +kernel
theorem dX9_undo_34 : decode cX9_undo 34 = .ok (.aload_n 0, 1) := by decide +kernel
theorem dX9_undo_35 : decode cX9_undo 35 = .ok (.getfield 13, 3) := by decide +kernel
theorem dX9_undo_38 : decode cX9_undo 38 = .ok (.sipush 246, 3) := by decide +kernel
theorem dX9_undo_41 : decode cX9_undo 41 = .ok (.aload_n 0, 1) := by decide +kernel
theorem dX9_undo_42 : decode cX9_undo 42 = .ok (.getfield 25, 3) := by decide +kernel
theorem dX9_undo_45 : decode cX9_undo 45 = .ok (.imul, 1) := by decide +kernel
theorem dX9_undo_46 : decode cX9_undo 46 = .ok (.iload_n 1, 1) := by decide +kernel
theorem dX9_undo_47 : decode cX9_undo 47 = .ok (.iadd, 1) := by decide +kernel
theorem dX9_undo_48 : decode cX9_undo 48 = .ok (.iaload, 1) := by decide +kernel
theorem dX9_undo_49 : decode cX9_undo 49 = .ok (.iastore, 1) := by decide +kernel
theorem dX9_undo_50 : decode cX9_undo 50 = .ok (.iinc 1 1, 3) := by decide +kernel
theorem dX9_undo_53 : decode cX9_undo 53 = .ok (.goto (-31), 3) := by decide +kernel
theorem dX9_undo_56 : decode cX9_undo 56 = .ok (.aload_n 0, 1) := by decide +kernel
theorem dX9_undo_57 : decode cX9_undo 57 = .ok (.getfield 25, 3) := by decide +kernel
theorem dX9_undo_60 : decode cX9_undo 60 = .ok (.ireturn, 1) := by decide +kernel
theorem dX9_type_0 : decode cX9_type 0 = .ok (.iload_n 1, 1) := by decide +kernel
theorem dX9_type_1 : decode cX9_type 1 = .ok (.bipush 32, 2) := by decide +kernel
theorem dX9_type_3 : decode cX9_type 3 = .ok (.bipush 126, 2) := by decide +kernel
theorem dX9_type_5 : decode cX9_type 5 = .ok (.invokestatic 40, 3) := by decide +kernel
theorem dX9_type_8 : decode cX9_type 8 = .ok (.ifCond .ne 5, 3) := by decide +kernel
theorem dX9_type_11 : decode cX9_type 11 = .ok (.iconst (-1), 1) := by decide +kernel
theorem dX9_type_12 : decode cX9_type 12 = .ok (.ireturn, 1) := by decide +kernel
theorem dX9_type_13 : decode cX9_type 13 = .ok (.aload_n 0, 1) := by decide +kernel
theorem dX9_type_14 : decode cX9_type 14 = .ok (.getfield 119, 3) := by decide +kernel
theorem dX9_type_17 : decode cX9_type 17 = .ok (.bipush 120, 2) := by decide +kernel
theorem dX9_type_19 : decode cX9_type 19 = .ok (.if_icmp .ne 6, 3) := by decide +kernel
theorem dX9_type_22 : decode cX9_type 22 = .ok (.bipush (-3), 2) := by decide +kernel
theorem dX9_type_24 : decode cX9_type 24 = .ok (.ireturn, 1) := by decide +kernel
theorem dX9_type_25 : decode cX9_type 25 = .ok (.aload_n 0, 1) := by decide +kernel
theorem dX9_type_26 : decode cX9_type 26 = .ok (.getfield 19, 3) := by decide +kernel
theorem dX9_type_29 : decode cX9_type 29 = .ok (.aload_n 0, 1) := by decide +kernel
theorem dX9_type_30 : decode cX9_type 30 = .ok (.getfield 119, 3) := by decide +kernel
theorem dX9_type_33 : decode cX9_type 33 = .ok (.iload_n 1, 1) := by decide +kernel
theorem dX9_type_34 : decode cX9_type 34 = .ok (.iastore, 1) := by decide +kernel
theorem dX9_type_35 : decode cX9_type 35 = .ok (.aload_n 0, 1) := by decide +kernel
theorem dX9_type_36 : decode cX9_type 36 = .ok (.dup, 1) := by decide +kernel
theorem dX9_type_37 : decode cX9_type 37 = .ok (.getfield 119, 3) := by decide +kernel
theorem dX9_type_40 : decode cX9_type 40 = .ok (.iconst 1, 1) := by decide +kernel
theorem dX9_type_41 : decode cX9_type 41 = .ok (.iadd, 1) := by decide +kernel
theorem dX9_type_42 : decode cX9_type 42 = .ok (.putfield 119, 3) := by decide +kernel
theorem dX9_type_45 : decode cX9_type 45 = .ok (.aload_n 0, 1) := by decide +kernel
theorem dX9_type_46 : decode cX9_type 46 = .ok (.getfield 119, 3) := by decide +kernel
theorem dX9_type_49 : decode cX9_type 49 = .ok (.ireturn, 1) := by decide +kernel
theorem dX9_clearText_0 : decode cX9_clearText 0 = .ok (.aload_n 0, 1) := by decide +kernel
theorem dX9_clearText_1 : decode cX9_clearText 1 = .ok (.getfield 119, 3) := by decide +kernel
theorem dX9_clearText_4 : decode cX9_clearText 4 = .ok (.istore_n 1, 1) := by decide +kernel
theorem dX9_clearText_5 : decode cX9_clearText 5 = .ok (.aload_n 0, 1) := by decide +kernel
theorem dX9_clearText_6 : decode cX9_clearText 6 = .ok (.iconst 0, 1) := by decide +kernel
theorem dX9_clearText_7 : decode cX9_clearText 7 = .ok (.putfield 119, 3) := by decide +kernel
theorem dX9_clearText_10 : decode cX9_clearText 10 = .ok (.iload_n 1, 1) := by decide +kernel
theorem dX9_clearText_11 : decode cX9_clearText 11 = .ok (.ireturn, 1) := by decide +kernel
theorem dX9_isAt_0 : decode cX9_isAt 0 = .ok (.aload_n 0, 1) := by decide +kernel
theorem dX9_isAt_1 : decode cX9_isAt 1 = .ok (.getfield 130, 3) := by decide +kernel
theorem dX9_isAt_4 : decode cX9_isAt 4 = .ok (.aload_n 0, 1) := by decide +kernel
theorem dX9_isAt_5 : decode cX9_isAt 5 = .ok (.getfield 119, 3) := by decide +kernel
theorem dX9_isAt_8 : decode cX9_isAt 8 = .ok (.if_icmp .ge 24, 3) := by decide +kernel
theorem dX9_isAt_11 : decode cX9_isAt 11 = .ok (.aload_n 0, 1) := by decide +kernel
theorem dX9_isAt_12 : decode cX9_isAt 12 = .ok (.getfield 19, 3) := by decide +kernel
theorem dX9_isAt_15 : decode cX9_isAt 15 = .ok (.aload_n 0, 1) := by decide +kernel
theorem dX9_isAt_16 : decode cX9_isAt 16 = .ok (.getfield 130, 3) := by decide +kernel
theorem dX9_isAt_19 : decode cX9_isAt 19 = .ok (.iaload, 1) := by decide +kernel
theorem dX9_isAt_20 : decode cX9_isAt 20 = .ok (.iload_n 1, 1) := by decide +kernel
theorem dX9_isAt_21 : decode cX9_isAt 21 = .ok (.iload_n 2, 1) := by decide +kernel
theorem dX9_isAt_22 : decode cX9_isAt 22 = .ok (.invokestatic 40, 3) := by decide +kernel
theorem dX9_isAt_25 : decode cX9_isAt 25 = .ok (.ifCond .eq 7, 3) := by decide +kernel
theorem dX9_isAt_28 : decode cX9_isAt 28 = .ok (.iconst 1, 1) := by decide +kernel
theorem dX9_isAt_29 : decode cX9_isAt 29 = .ok (.goto 4, 3) := by decide +kernel
theorem dX9_isAt_32 : decode cX9_isAt 32 = .ok (.iconst 0, 1) := by decide +kernel
theorem dX9_isAt_33 : decode cX9_isAt 33 = .ok (.ireturn, 1) := by decide +kernel
theorem dX9_sign_0 : decode cX9_sign 0 = .ok (.aload_n 0, 1) := by decide +kernel
theorem dX9_sign_1 : decode cX9_sign 1 = .ok (.iload_n 1, 1) := by decide +kernel
theorem dX9_sign_2 : decode cX9_sign 2 = .ok (.iload_n 1, 1) := by decide +kernel
theorem dX9_sign_3 : decode cX9_sign 3 = .ok (.invokevirtual 133, 3) := by decide +kernel
theorem dX9_sign_6 : decode cX9_sign 6 = .ok (.istore_n 2, 1) := by decide +kernel
theorem dX9_sign_7 : decode cX9_sign 7 = .ok (.aload_n 0, 1) := by decide +kernel
theorem dX9_sign_8 : decode cX9_sign 8 = .ok (.dup, 1) := by decide +kernel
theorem dX9_sign_9 : decode cX9_sign 9 = .ok (.getfield 130, 3) := by decide +kernel
theorem dX9_sign_12 : decode cX9_sign 12 = .ok (.iload_n 2, 1) := by decide +kernel
theorem dX9_sign_13 : decode cX9_sign 13 = .ok (.ifCond .eq 7, 3) := by decide +kernel
theorem dX9_sign_16 : decode cX9_sign 16 = .ok (.iconst 1, 1) := by decide +kernel
theorem dX9_sign_17 : decode cX9_sign 17 = .ok (.goto 4, 3) := by decide +kernel
theorem dX9_sign_20 : decode cX9_sign 20 = .ok (.iconst 0, 1) := by decide +kernel
theorem dX9_sign_21 : decode cX9_sign 21 = .ok (.iadd, 1) := by decide +kernel
theorem dX9_sign_22 : decode cX9_sign 22 = .ok (.putfield 130, 3) := by decide +kernel
theorem dX9_sign_25 : decode cX9_sign 25 = .ok (.iload_n 2, 1) := by decide +kernel
theorem dX9_sign_26 : decode cX9_sign 26 = .ok (.ireturn, 1) := by decide +kernel
theorem dX9_fails_0 : decode cX9_fails 0 = .ok (.aload_n 0, 1) := by decide +kernel
theorem dX9_fails_1 : decode cX9_fails 1 = .ok (.iload_n 1, 1) := by decide +kernel
theorem dX9_fails_2 : decode cX9_fails 2 = .ok (.putfield 137, 3) := by decide +kernel
theorem dX9_fails_5 : decode cX9_fails 5 = .ok (.iconst 0, 1) := by decide +kernel
theorem dX9_fails_6 : decode cX9_fails 6 = .ok (.ireturn, 1) := by decide +kernel
theorem dX9_isDouble_0 : decode cX9_isDouble 0 = .ok (.iconst 0, 1) := by decide +kernel
theorem dX9_isDouble_1 : decode cX9_isDouble 1 = .ok (.istore_n 1, 1) := by decide +kernel
theorem dX9_isDouble_2 : decode cX9_isDouble 2 = .ok (.iconst 0, 1) := by decide +kernel
theorem dX9_isDouble_3 : decode cX9_isDouble 3 = .ok (.istore_n 2, 1) := by decide +kernel
theorem dX9_isDouble_4 : decode cX9_isDouble 4 = .ok (.iload_n 2, 1) := by decide +kernel
theorem dX9_isDouble_5 : decode cX9_isDouble 5 = .ok (.aload_n 0, 1) := by decide +kernel
theorem dX9_isDouble_6 : decode cX9_isDouble 6 = .ok (.getfield 140, 3) := by decide +kernel
theorem dX9_isDouble_9 : decode cX9_isDouble 9 = .ok (.if_icmp .ge 109, 3) := by decide +kernel
theorem dX9_isDouble_12 : decode cX9_isDouble 12 = .ok (.iload_n 1, 1) := by decide +kernel
theorem dX9_isDouble_13 : decode cX9_isDouble 13 = .ok (.ifCond .ne 105, 3) := by decide +kernel
theorem dX9_isDouble_16 : decode cX9_isDouble 16 = .ok (.aload_n 0, 1) := by decide +kernel
theorem dX9_isDouble_17 : decode cX9_isDouble 17 = .ok (.getfield 22, 3) := by decide +kernel
theorem dX9_isDouble_20 : decode cX9_isDouble 20 = .ok (.bipush 10, 2) := by decide +kernel
theorem dX9_isDouble_22 : decode cX9_isDouble 22 = .ok (.iload_n 2, 1) := by decide +kernel
theorem dX9_isDouble_23 : decode cX9_isDouble 23 = .ok (.imul, 1) := by decide +kernel
theorem dX9_isDouble_24 : decode cX9_isDouble 24 = .ok (.iaload, 1) := by decide +kernel
theorem dX9_isDouble_25 : decode cX9_isDouble 25 = .ok (.aload_n 0, 1) := by decide +kernel
theorem dX9_isDouble_26 : decode cX9_isDouble 26 = .ok (.getfield 22, 3) := by decide +kernel
theorem dX9_isDouble_29 : decode cX9_isDouble 29 = .ok (.bipush 10, 2) := by decide +kernel
theorem dX9_isDouble_31 : decode cX9_isDouble 31 = .ok (.aload_n 0, 1) := by decide +kernel
theorem dX9_isDouble_32 : decode cX9_isDouble 32 = .ok (.getfield 140, 3) := by decide +kernel
theorem dX9_isDouble_35 : decode cX9_isDouble 35 = .ok (.imul, 1) := by decide +kernel
theorem dX9_isDouble_36 : decode cX9_isDouble 36 = .ok (.iaload, 1) := by decide +kernel
theorem dX9_isDouble_37 : decode cX9_isDouble 37 = .ok (.if_icmp .ne 7, 3) := by decide +kernel
theorem dX9_isDouble_40 : decode cX9_isDouble 40 = .ok (.iconst 1, 1) := by decide +kernel
theorem dX9_isDouble_41 : decode cX9_isDouble 41 = .ok (.goto 4, 3) := by decide +kernel
theorem dX9_isDouble_44 : decode cX9_isDouble 44 = .ok (.iconst 0, 1) := by decide +kernel
theorem dX9_isDouble_45 : decode cX9_isDouble 45 = .ok (.istore_n 1, 1) := by decide +kernel
theorem dX9_isDouble_46 : decode cX9_isDouble 46 = .ok (.iconst 0, 1) := by decide +kernel
theorem dX9_isDouble_47 : decode cX9_isDouble 47 = .ok (.istore_n 3, 1) := by decide +kernel
theorem dX9_isDouble_48 : decode cX9_isDouble 48 = .ok (.iload_n 3, 1) := by decide +kernel
theorem dX9_isDouble_49 : decode cX9_isDouble 49 = .ok (.aload_n 0, 1) := by decide +kernel
theorem dX9_isDouble_50 : decode cX9_isDouble 50 = .ok (.getfield 22, 3) := by decide +kernel
theorem dX9_isDouble_53 : decode cX9_isDouble 53 = .ok (.bipush 10, 2) := by decide +kernel
theorem dX9_isDouble_55 : decode cX9_isDouble 55 = .ok (.aload_n 0, 1) := by decide +kernel
theorem dX9_isDouble_56 : decode cX9_isDouble 56 = .ok (.getfield 140, 3) := by decide +kernel
theorem dX9_isDouble_59 : decode cX9_isDouble 59 = .ok (.imul, 1) := by decide +kernel
theorem dX9_isDouble_60 : decode cX9_isDouble 60 = .ok (.iaload, 1) := by decide +kernel
theorem dX9_isDouble_61 : decode cX9_isDouble 61 = .ok (.if_icmp .ge 51, 3) := by decide +kernel
theorem dX9_isDouble_64 : decode cX9_isDouble 64 = .ok (.iload_n 1, 1) := by decide +kernel
theorem dX9_isDouble_65 : decode cX9_isDouble 65 = .ok (.ifCond .eq 47, 3) := by decide +kernel
theorem dX9_isDouble_68 : decode cX9_isDouble 68 = .ok (.aload_n 0, 1) := by decide +kernel
theorem dX9_isDouble_69 : decode cX9_isDouble 69 = .ok (.getfield 22, 3) := by decide +kernel
theorem dX9_isDouble_72 : decode cX9_isDouble 72 = .ok (.bipush 10, 2) := by decide +kernel
theorem dX9_isDouble_74 : decode cX9_isDouble 74 = .ok (.iload_n 2, 1) := by decide +kernel
theorem dX9_isDouble_75 : decode cX9_isDouble 75 = .ok (.imul, 1) := by decide +kernel
theorem dX9_isDouble_76 : decode cX9_isDouble 76 = .ok (.iconst 2, 1) := by decide +kernel
theorem dX9_isDouble_77 : decode cX9_isDouble 77 = .ok (.iadd, 1) := by decide +kernel
theorem dX9_isDouble_78 : decode cX9_isDouble 78 = .ok (.iload_n 3, 1) := by decide +kernel
theorem dX9_isDouble_79 : decode cX9_isDouble 79 = .ok (.iadd, 1) := by decide +kernel
theorem dX9_isDouble_80 : decode cX9_isDouble 80 = .ok (.iaload, 1) := by decide +kernel
theorem dX9_isDouble_81 : decode cX9_isDouble 81 = .ok (.aload_n 0, 1) := by decide +kernel
theorem dX9_isDouble_82 : decode cX9_isDouble 82 = .ok (.getfield 22, 3) := by decide +kernel
theorem dX9_isDouble_85 : decode cX9_isDouble 85 = .ok (.bipush 10, 2) := by decide +kernel
theorem dX9_isDouble_87 : decode cX9_isDouble 87 = .ok (.aload_n 0, 1) := by decide +kernel
theorem dX9_isDouble_88 : decode cX9_isDouble 88 = .ok (.getfield 140, 3) := by decide +kernel
theorem dX9_isDouble_91 : decode cX9_isDouble 91 = .ok (.imul, 1) := by decide +kernel
theorem dX9_isDouble_92 : decode cX9_isDouble 92 = .ok (.iconst 2, 1) := by decide +kernel
theorem dX9_isDouble_93 : decode cX9_isDouble 93 = .ok (.iadd, 1) := by decide +kernel
theorem dX9_isDouble_94 : decode cX9_isDouble 94 = .ok (.iload_n 3, 1) := by decide +kernel
theorem dX9_isDouble_95 : decode cX9_isDouble 95 = .ok (.iadd, 1) := by decide +kernel
theorem dX9_isDouble_96 : decode cX9_isDouble 96 = .ok (.iaload, 1) := by decide +kernel
theorem dX9_isDouble_97 : decode cX9_isDouble 97 = .ok (.if_icmp .ne 7, 3) := by decide +kernel
theorem dX9_isDouble_100 : decode cX9_isDouble 100 = .ok (.iconst 1, 1) := by decide +kernel
theorem dX9_isDouble_101 : decode cX9_isDouble 101 = .ok (.goto 4, 3) := by decide +kernel
theorem dX9_isDouble_104 : decode cX9_isDouble 104 = .ok (.iconst 0, 1) := by decide +kernel
theorem dX9_isDouble_105 : decode cX9_isDouble 105 = .ok (.istore_n 1, 1) := by decide +kernel
theorem dX9_isDouble_106 : decode cX9_isDouble 106 = .ok (.iinc 3 1, 3) := by decide +kernel
theorem dX9_isDouble_109 : decode cX9_isDouble 109 = .ok (.goto (-61), 3) := by decide +kernel
theorem dX9_isDouble_112 : decode cX9_isDouble 112 = .ok (.iinc 2 1, 3) := by decide +kernel
theorem dX9_isDouble_115 : decode cX9_isDouble 115 = .ok (.goto (-111), 3) := by decide +kernel
theorem dX9_isDouble_118 : decode cX9_isDouble 118 = .ok (.iload_n 1, 1) := by decide +kernel
theorem dX9_isDouble_119 : decode cX9_isDouble 119 = .ok (.ireturn, 1) := by decide +kernel
theorem dX9_readsLetters_0 : decode cX9_readsLetters 0 = .ok (.iconst 0, 1) := by decide +kernel
theorem dX9_readsLetters_1 : decode cX9_readsLetters 1 = .ok (.istore_n 1, 1) := by decide +kernel
theorem dX9_readsLetters_2 : decode cX9_readsLetters 2 = .ok (.aload_n 0, 1) := by decide +kernel
theorem dX9_readsLetters_3 : decode cX9_readsLetters 3 = .ok (.bipush 97, 2) := by decide +kernel
theorem dX9_readsLetters_5 : decode cX9_readsLetters 5 = .ok (.bipush 122, 2) := by decide +kernel
theorem dX9_readsLetters_7 : decode cX9_readsLetters 7 = .ok (.invokevirtual 133, 3) := by decide +kernel
theorem dX9_readsLetters_10 : decode cX9_readsLetters 10 = .ok (.ifCond .eq 53, 3) := by decide +kernel
theorem dX9_readsLetters_13 : decode cX9_readsLetters 13 = .ok (.iload_n 1, 1) := by decide +kernel
theorem dX9_readsLetters_14 : decode cX9_readsLetters 14 = .ok (.bipush 8, 2) := by decide +kernel
theorem dX9_readsLetters_16 : decode cX9_readsLetters 16 = .ok (.if_icmp .ge 47, 3) := by decide +kernel
theorem dX9_readsLetters_19 : decode cX9_readsLetters 19 = .ok (.aload_n 0, 1) := by decide +kernel
theorem dX9_readsLetters_20 : decode cX9_readsLetters 20 = .ok (.getfield 22, 3) := by decide +kernel
theorem dX9_readsLetters_23 : decode cX9_readsLetters 23 = .ok (.bipush 10, 2) := by decide +kernel
theorem dX9_readsLetters_25 : decode cX9_readsLetters 25 = .ok (.aload_n 0, 1) := by decide +kernel
theorem dX9_readsLetters_26 : decode cX9_readsLetters 26 = .ok (.getfield 140, 3) := by decide +kernel
theorem dX9_readsLetters_29 : decode cX9_readsLetters 29 = .ok (.imul, 1) := by decide +kernel
theorem dX9_readsLetters_30 : decode cX9_readsLetters 30 = .ok (.iconst 2, 1) := by decide +kernel
theorem dX9_readsLetters_31 : decode cX9_readsLetters 31 = .ok (.iadd, 1) := by decide +kernel
theorem dX9_readsLetters_32 : decode cX9_readsLetters 32 = .ok (.iload_n 1, 1) := by decide +kernel
theorem dX9_readsLetters_33 : decode cX9_readsLetters 33 = .ok (.iadd, 1) := by decide +kernel
theorem dX9_readsLetters_34 : decode cX9_readsLetters 34 = .ok (.aload_n 0, 1) := by decide +kernel
theorem dX9_readsLetters_35 : decode cX9_readsLetters 35 = .ok (.getfield 19, 3) := by decide +kernel
theorem dX9_readsLetters_38 : decode cX9_readsLetters 38 = .ok (.aload_n 0, 1) := by decide +kernel
theorem dX9_readsLetters_39 : decode cX9_readsLetters 39 = .ok (.getfield 130, 3) := by decide +kernel
theorem dX9_readsLetters_42 : decode cX9_readsLetters 42 = .ok (.iaload, 1) := by decide +kernel
theorem dX9_readsLetters_43 : decode cX9_readsLetters 43 = .ok (.bipush 97, 2) := by decide +kernel
theorem dX9_readsLetters_45 : decode cX9_readsLetters 45 = .ok (.isub, 1) := by decide +kernel
theorem dX9_readsLetters_46 : decode cX9_readsLetters 46 = .ok (.iastore, 1) := by decide +kernel
theorem dX9_readsLetters_47 : decode cX9_readsLetters 47 = .ok (.iinc 1 1, 3) := by decide +kernel
theorem dX9_readsLetters_50 : decode cX9_readsLetters 50 = .ok (.aload_n 0, 1) := by decide +kernel
theorem dX9_readsLetters_51 : decode cX9_readsLetters 51 = .ok (.dup, 1) := by decide +kernel
theorem dX9_readsLetters_52 : decode cX9_readsLetters 52 = .ok (.getfield 130, 3) := by decide +kernel
theorem dX9_readsLetters_55 : decode cX9_readsLetters 55 = .ok (.iconst 1, 1) := by decide +kernel
theorem dX9_readsLetters_56 : decode cX9_readsLetters 56 = .ok (.iadd, 1) := by decide +kernel
theorem dX9_readsLetters_57 : decode cX9_readsLetters 57 = .ok (.putfield 130, 3) := by decide +kernel
theorem dX9_readsLetters_60 : decode cX9_readsLetters 60 = .ok (.goto (-58), 3) := by decide +kernel
theorem dX9_readsLetters_63 : decode cX9_readsLetters 63 = .ok (.aload_n 0, 1) := by decide +kernel
theorem dX9_readsLetters_64 : decode cX9_readsLetters 64 = .ok (.getfield 22, 3) := by decide +kernel
theorem dX9_readsLetters_67 : decode cX9_readsLetters 67 = .ok (.bipush 10, 2) := by decide +kernel
theorem dX9_readsLetters_69 : decode cX9_readsLetters 69 = .ok (.aload_n 0, 1) := by decide +kernel
theorem dX9_readsLetters_70 : decode cX9_readsLetters 70 = .ok (.getfield 140, 3) := by decide +kernel
theorem dX9_readsLetters_73 : decode cX9_readsLetters 73 = .ok (.imul, 1) := by decide +kernel
theorem dX9_readsLetters_74 : decode cX9_readsLetters 74 = .ok (.iload_n 1, 1) := by decide +kernel
theorem dX9_readsLetters_75 : decode cX9_readsLetters 75 = .ok (.iastore, 1) := by decide +kernel
theorem dX9_readsLetters_76 : decode cX9_readsLetters 76 = .ok (.iload_n 1, 1) := by decide +kernel
theorem dX9_readsLetters_77 : decode cX9_readsLetters 77 = .ok (.iconst 1, 1) := by decide +kernel
theorem dX9_readsLetters_78 : decode cX9_readsLetters 78 = .ok (.if_icmp .gt 11, 3) := by decide +kernel
theorem dX9_readsLetters_81 : decode cX9_readsLetters 81 = .ok (.aload_n 0, 1) := by decide +kernel
theorem dX9_readsLetters_82 : decode cX9_readsLetters 82 = .ok (.iconst 1, 1) := by decide +kernel
theorem dX9_readsLetters_83 : decode cX9_readsLetters 83 = .ok (.invokevirtual 143, 3) := by decide +kernel
theorem dX9_readsLetters_86 : decode cX9_readsLetters 86 = .ok (.ifCond .eq 7, 3) := by decide +kernel
theorem dX9_readsLetters_89 : decode cX9_readsLetters 89 = .ok (.iconst 1, 1) := by decide +kernel
theorem dX9_readsLetters_90 : decode cX9_readsLetters 90 = .ok (.goto 4, 3) := by decide +kernel
theorem dX9_readsLetters_93 : decode cX9_readsLetters 93 = .ok (.iconst 0, 1) := by decide +kernel
theorem dX9_readsLetters_94 : decode cX9_readsLetters 94 = .ok (.ireturn, 1) := by decide +kernel
theorem dX9_readsWeight_0 : decode cX9_readsWeight 0 = .ok (.aload_n 0, 1) := by decide +kernel
theorem dX9_readsWeight_1 : decode cX9_readsWeight 1 = .ok (.bipush 49, 2) := by decide +kernel
theorem dX9_readsWeight_3 : decode cX9_readsWeight 3 = .ok (.bipush 57, 2) := by decide +kernel
theorem dX9_readsWeight_5 : decode cX9_readsWeight 5 = .ok (.invokevirtual 133, 3) := by decide +kernel
theorem dX9_readsWeight_8 : decode cX9_readsWeight 8 = .ok (.ifCond .ne 9, 3) := by decide +kernel
theorem dX9_readsWeight_11 : decode cX9_readsWeight 11 = .ok (.aload_n 0, 1) := by decide +kernel
theorem dX9_readsWeight_12 : decode cX9_readsWeight 12 = .ok (.iconst 1, 1) := by decide +kernel
theorem dX9_readsWeight_13 : decode cX9_readsWeight 13 = .ok (.invokevirtual 143, 3) := by decide +kernel
theorem dX9_readsWeight_16 : decode cX9_readsWeight 16 = .ok (.ireturn, 1) := by decide +kernel
theorem dX9_readsWeight_17 : decode cX9_readsWeight 17 = .ok (.aload_n 0, 1) := by decide +kernel
theorem dX9_readsWeight_18 : decode cX9_readsWeight 18 = .ok (.getfield 19, 3) := by decide +kernel
theorem dX9_readsWeight_21 : decode cX9_readsWeight 21 = .ok (.aload_n 0, 1) := by decide +kernel
theorem dX9_readsWeight_22 : decode cX9_readsWeight 22 = .ok (.getfield 130, 3) := by decide +kernel
theorem dX9_readsWeight_25 : decode cX9_readsWeight 25 = .ok (.iaload, 1) := by decide +kernel
theorem dX9_readsWeight_26 : decode cX9_readsWeight 26 = .ok (.bipush 48, 2) := by decide +kernel
theorem dX9_readsWeight_28 : decode cX9_readsWeight 28 = .ok (.isub, 1) := by decide +kernel
theorem dX9_readsWeight_29 : decode cX9_readsWeight 29 = .ok (.istore_n 1, 1) := by decide +kernel
theorem dX9_readsWeight_30 : decode cX9_readsWeight 30 = .ok (.aload_n 0, 1) := by decide +kernel
theorem dX9_readsWeight_31 : decode cX9_readsWeight 31 = .ok (.dup, 1) := by decide +kernel
theorem dX9_readsWeight_32 : decode cX9_readsWeight 32 = .ok (.getfield 130, 3) := by decide +kernel
theorem dX9_readsWeight_35 : decode cX9_readsWeight 35 = .ok (.iconst 1, 1) := by decide +kernel
theorem dX9_readsWeight_36 : decode cX9_readsWeight 36 = .ok (.iadd, 1) := by decide +kernel
theorem dX9_readsWeight_37 : decode cX9_readsWeight 37 = .ok (.putfield 130, 3) := by decide +kernel
theorem dX9_readsWeight_40 : decode cX9_readsWeight 40 = .ok (.aload_n 0, 1) := by decide +kernel
theorem dX9_readsWeight_41 : decode cX9_readsWeight 41 = .ok (.bipush 48, 2) := by decide +kernel
theorem dX9_readsWeight_43 : decode cX9_readsWeight 43 = .ok (.bipush 57, 2) := by decide +kernel
theorem dX9_readsWeight_45 : decode cX9_readsWeight 45 = .ok (.invokevirtual 133, 3) := by decide +kernel
theorem dX9_readsWeight_48 : decode cX9_readsWeight 48 = .ok (.ifCond .eq 31, 3) := by decide +kernel
theorem dX9_readsWeight_51 : decode cX9_readsWeight 51 = .ok (.bipush 10, 2) := by decide +kernel
theorem dX9_readsWeight_53 : decode cX9_readsWeight 53 = .ok (.iload_n 1, 1) := by decide +kernel
theorem dX9_readsWeight_54 : decode cX9_readsWeight 54 = .ok (.imul, 1) := by decide +kernel
theorem dX9_readsWeight_55 : decode cX9_readsWeight 55 = .ok (.aload_n 0, 1) := by decide +kernel
theorem dX9_readsWeight_56 : decode cX9_readsWeight 56 = .ok (.getfield 19, 3) := by decide +kernel
theorem dX9_readsWeight_59 : decode cX9_readsWeight 59 = .ok (.aload_n 0, 1) := by decide +kernel
theorem dX9_readsWeight_60 : decode cX9_readsWeight 60 = .ok (.getfield 130, 3) := by decide +kernel
theorem dX9_readsWeight_63 : decode cX9_readsWeight 63 = .ok (.iaload, 1) := by decide +kernel
theorem dX9_readsWeight_64 : decode cX9_readsWeight 64 = .ok (.iadd, 1) := by decide +kernel
theorem dX9_readsWeight_65 : decode cX9_readsWeight 65 = .ok (.bipush 48, 2) := by decide +kernel
theorem dX9_readsWeight_67 : decode cX9_readsWeight 67 = .ok (.isub, 1) := by decide +kernel
theorem dX9_readsWeight_68 : decode cX9_readsWeight 68 = .ok (.istore_n 1, 1) := by decide +kernel
theorem dX9_readsWeight_69 : decode cX9_readsWeight 69 = .ok (.aload_n 0, 1) := by decide +kernel
theorem dX9_readsWeight_70 : decode cX9_readsWeight 70 = .ok (.dup, 1) := by decide +kernel
theorem dX9_readsWeight_71 : decode cX9_readsWeight 71 = .ok (.getfield 130, 3) := by decide +kernel
theorem dX9_readsWeight_74 : decode cX9_readsWeight 74 = .ok (.iconst 1, 1) := by decide +kernel
theorem dX9_readsWeight_75 : decode cX9_readsWeight 75 = .ok (.iadd, 1) := by decide +kernel
theorem dX9_readsWeight_76 : decode cX9_readsWeight 76 = .ok (.putfield 130, 3) := by decide +kernel
theorem dX9_readsWeight_79 : decode cX9_readsWeight 79 = .ok (.aload_n 0, 1) := by decide +kernel
theorem dX9_readsWeight_80 : decode cX9_readsWeight 80 = .ok (.getfield 22, 3) := by decide +kernel
theorem dX9_readsWeight_83 : decode cX9_readsWeight 83 = .ok (.bipush 10, 2) := by decide +kernel
theorem dX9_readsWeight_85 : decode cX9_readsWeight 85 = .ok (.aload_n 0, 1) := by decide +kernel
theorem dX9_readsWeight_86 : decode cX9_readsWeight 86 = .ok (.getfield 140, 3) := by decide +kernel
theorem dX9_readsWeight_89 : decode cX9_readsWeight 89 = .ok (.imul, 1) := by decide +kernel
theorem dX9_readsWeight_90 : decode cX9_readsWeight 90 = .ok (.iconst 1, 1) := by decide +kernel
theorem dX9_readsWeight_91 : decode cX9_readsWeight 91 = .ok (.iadd, 1) := by decide +kernel
theorem dX9_readsWeight_92 : decode cX9_readsWeight 92 = .ok (.iload_n 1, 1) := by decide +kernel
theorem dX9_readsWeight_93 : decode cX9_readsWeight 93 = .ok (.iastore, 1) := by decide +kernel
theorem dX9_readsWeight_94 : decode cX9_readsWeight 94 = .ok (.iconst 1, 1) := by decide +kernel
theorem dX9_readsWeight_95 : decode cX9_readsWeight 95 = .ok (.ireturn, 1) := by decide +kernel
theorem dX9_readsWord_0 : decode cX9_readsWord 0 = .ok (.aload_n 0, 1) := by decide +kernel
theorem dX9_readsWord_1 : decode cX9_readsWord 1 = .ok (.getfield 130, 3) := by decide +kernel
theorem dX9_readsWord_4 : decode cX9_readsWord 4 = .ok (.istore_n 1, 1) := by decide +kernel
theorem dX9_readsWord_5 : decode cX9_readsWord 5 = .ok (.aload_n 0, 1) := by decide +kernel
theorem dX9_readsWord_6 : decode cX9_readsWord 6 = .ok (.getfield 140, 3) := by decide +kernel
theorem dX9_readsWord_9 : decode cX9_readsWord 9 = .ok (.bipush 16, 2) := by decide +kernel
theorem dX9_readsWord_11 : decode cX9_readsWord 11 = .ok (.if_icmp .ne 24, 3) := by decide +kernel
theorem dX9_readsWord_14 : decode cX9_readsWord 14 = .ok (.aload_n 0, 1) := by decide +kernel
theorem dX9_readsWord_15 : decode cX9_readsWord 15 = .ok (.aload_n 0, 1) := by decide +kernel
theorem dX9_readsWord_16 : decode cX9_readsWord 16 = .ok (.bipush 97, 2) := by decide +kernel
theorem dX9_readsWord_18 : decode cX9_readsWord 18 = .ok (.bipush 122, 2) := by decide +kernel
theorem dX9_readsWord_20 : decode cX9_readsWord 20 = .ok (.invokevirtual 133, 3) := by decide +kernel
theorem dX9_readsWord_23 : decode cX9_readsWord 23 = .ok (.ifCond .eq 7, 3) := by decide +kernel
theorem dX9_readsWord_26 : decode cX9_readsWord 26 = .ok (.iconst 4, 1) := by decide +kernel
theorem dX9_readsWord_27 : decode cX9_readsWord 27 = .ok (.goto 4, 3) := by decide +kernel
theorem dX9_readsWord_30 : decode cX9_readsWord 30 = .ok (.iconst 1, 1) := by decide +kernel
theorem dX9_readsWord_31 : decode cX9_readsWord 31 = .ok (.invokevirtual 143, 3) := by decide +kernel
theorem dX9_readsWord_34 : decode cX9_readsWord 34 = .ok (.ireturn, 1) := by decide +kernel
theorem dX9_readsWord_35 : decode cX9_readsWord 35 = .ok (.aload_n 0, 1) := by decide +kernel
theorem dX9_readsWord_36 : decode cX9_readsWord 36 = .ok (.invokevirtual 146, 3) := by decide +kernel
theorem dX9_readsWord_39 : decode cX9_readsWord 39 = .ok (.ifCond .ne 5, 3) := by decide +kernel
theorem dX9_readsWord_42 : decode cX9_readsWord 42 = .ok (.iconst 0, 1) := by decide +kernel
theorem dX9_readsWord_43 : decode cX9_readsWord 43 = .ok (.ireturn, 1) := by decide +kernel
theorem dX9_readsWord_44 : decode cX9_readsWord 44 = .ok (.aload_n 0, 1) := by decide +kernel
theorem dX9_readsWord_45 : decode cX9_readsWord 45 = .ok (.bipush 97, 2) := by decide +kernel
theorem dX9_readsWord_47 : decode cX9_readsWord 47 = .ok (.bipush 122, 2) := by decide +kernel
theorem dX9_readsWord_49 : decode cX9_readsWord 49 = .ok (.invokevirtual 133, 3) := by decide +kernel
theorem dX9_readsWord_52 : decode cX9_readsWord 52 = .ok (.ifCond .eq 9, 3) := by decide +kernel
theorem dX9_readsWord_55 : decode cX9_readsWord 55 = .ok (.aload_n 0, 1) := by decide +kernel
theorem dX9_readsWord_56 : decode cX9_readsWord 56 = .ok (.iconst 2, 1) := by decide +kernel
theorem dX9_readsWord_57 : decode cX9_readsWord 57 = .ok (.invokevirtual 143, 3) := by decide +kernel
theorem dX9_readsWord_60 : decode cX9_readsWord 60 = .ok (.ireturn, 1) := by decide +kernel
theorem dX9_readsWord_61 : decode cX9_readsWord 61 = .ok (.aload_n 0, 1) := by decide +kernel
theorem dX9_readsWord_62 : decode cX9_readsWord 62 = .ok (.bipush 42, 2) := by decide +kernel
theorem dX9_readsWord_64 : decode cX9_readsWord 64 = .ok (.invokevirtual 149, 3) := by decide +kernel
theorem dX9_readsWord_67 : decode cX9_readsWord 67 = .ok (.ifCond .ne 9, 3) := by decide +kernel
theorem dX9_readsWord_70 : decode cX9_readsWord 70 = .ok (.aload_n 0, 1) := by decide +kernel
theorem dX9_readsWord_71 : decode cX9_readsWord 71 = .ok (.iconst 1, 1) := by decide +kernel
theorem dX9_readsWord_72 : decode cX9_readsWord 72 = .ok (.invokevirtual 143, 3) := by decide +kernel
theorem dX9_readsWord_75 : decode cX9_readsWord 75 = .ok (.ireturn, 1) := by decide +kernel
theorem dX9_readsWord_76 : decode cX9_readsWord 76 = .ok (.aload_n 0, 1) := by decide +kernel
theorem dX9_readsWord_77 : decode cX9_readsWord 77 = .ok (.invokevirtual 152, 3) := by decide +kernel
theorem dX9_readsWord_80 : decode cX9_readsWord 80 = .ok (.ifCond .ne 5, 3) := by decide +kernel
theorem dX9_readsWord_83 : decode cX9_readsWord 83 = .ok (.iconst 0, 1) := by decide +kernel
theorem dX9_readsWord_84 : decode cX9_readsWord 84 = .ok (.ireturn, 1) := by decide +kernel
theorem dX9_readsWord_85 : decode cX9_readsWord 85 = .ok (.aload_n 0, 1) := by decide +kernel
theorem dX9_readsWord_86 : decode cX9_readsWord 86 = .ok (.bipush 59, 2) := by decide +kernel
theorem dX9_readsWord_88 : decode cX9_readsWord 88 = .ok (.invokevirtual 149, 3) := by decide +kernel
theorem dX9_readsWord_91 : decode cX9_readsWord 91 = .ok (.ifCond .ne 9, 3) := by decide +kernel
theorem dX9_readsWord_94 : decode cX9_readsWord 94 = .ok (.aload_n 0, 1) := by decide +kernel
theorem dX9_readsWord_95 : decode cX9_readsWord 95 = .ok (.iconst 1, 1) := by decide +kernel
theorem dX9_readsWord_96 : decode cX9_readsWord 96 = .ok (.invokevirtual 143, 3) := by decide +kernel
theorem dX9_readsWord_99 : decode cX9_readsWord 99 = .ok (.ireturn, 1) := by decide +kernel
theorem dX9_readsWord_100 : decode cX9_readsWord 100 = .ok (.aload_n 0, 1) := by decide +kernel
theorem dX9_readsWord_101 : decode cX9_readsWord 101 = .ok (.invokevirtual 155, 3) := by decide +kernel
theorem dX9_readsWord_104 : decode cX9_readsWord 104 = .ok (.ifCond .eq 14, 3) := by decide +kernel
theorem dX9_readsWord_107 : decode cX9_readsWord 107 = .ok (.aload_n 0, 1) := by decide +kernel
theorem dX9_readsWord_108 : decode cX9_readsWord 108 = .ok (.iload_n 1, 1) := by decide +kernel
theorem dX9_readsWord_109 : decode cX9_readsWord 109 = .ok (.putfield 130, 3) := by decide +kernel
theorem dX9_readsWord_112 : decode cX9_readsWord 112 = .ok (.aload_n 0, 1) := by decide +kernel
theorem dX9_readsWord_113 : decode cX9_readsWord 113 = .ok (.iconst 3, 1) := by decide +kernel
theorem dX9_readsWord_114 : decode cX9_readsWord 114 = .ok (.invokevirtual 143, 3) := by decide +kernel
theorem dX9_readsWord_117 : decode cX9_readsWord 117 = .ok (.ireturn, 1) := by decide +kernel
theorem dX9_readsWord_118 : decode cX9_readsWord 118 = .ok (.aload_n 0, 1) := by decide +kernel
theorem dX9_readsWord_119 : decode cX9_readsWord 119 = .ok (.dup, 1) := by decide +kernel
theorem dX9_readsWord_120 : decode cX9_readsWord 120 = .ok (.getfield 140, 3) := by decide +kernel
theorem dX9_readsWord_123 : decode cX9_readsWord 123 = .ok (.iconst 1, 1) := by decide +kernel
theorem dX9_readsWord_124 : decode cX9_readsWord 124 = .ok (.iadd, 1) := by decide +kernel
theorem dX9_readsWord_125 : decode cX9_readsWord 125 = .ok (.putfield 140, 3) := by decide +kernel
theorem dX9_readsWord_128 : decode cX9_readsWord 128 = .ok (.iconst 1, 1) := by decide +kernel
theorem dX9_readsWord_129 : decode cX9_readsWord 129 = .ok (.ireturn, 1) := by decide +kernel
theorem dX9_isRight_0 : decode cX9_isRight 0 = .ok (.aload_n 0, 1) := by decide +kernel
theorem dX9_isRight_1 : decode cX9_isRight 1 = .ok (.iconst 0, 1) := by decide +kernel
theorem dX9_isRight_2 : decode cX9_isRight 2 = .ok (.putfield 130, 3) := by decide +kernel
theorem dX9_isRight_5 : decode cX9_isRight 5 = .ok (.aload_n 0, 1) := by decide +kernel
theorem dX9_isRight_6 : decode cX9_isRight 6 = .ok (.iconst 0, 1) := by decide +kernel
theorem dX9_isRight_7 : decode cX9_isRight 7 = .ok (.putfield 140, 3) := by decide +kernel
theorem dX9_isRight_10 : decode cX9_isRight 10 = .ok (.aload_n 0, 1) := by decide +kernel
theorem dX9_isRight_11 : decode cX9_isRight 11 = .ok (.invokevirtual 158, 3) := by decide +kernel
theorem dX9_isRight_14 : decode cX9_isRight 14 = .ok (.istore_n 1, 1) := by decide +kernel
theorem dX9_isRight_15 : decode cX9_isRight 15 = .ok (.iload_n 1, 1) := by decide +kernel
theorem dX9_isRight_16 : decode cX9_isRight 16 = .ok (.ifCond .eq 22, 3) := by decide +kernel
theorem dX9_isRight_19 : decode cX9_isRight 19 = .ok (.aload_n 0, 1) := by decide +kernel
theorem dX9_isRight_20 : decode cX9_isRight 20 = .ok (.getfield 130, 3) := by decide +kernel
theorem dX9_isRight_23 : decode cX9_isRight 23 = .ok (.aload_n 0, 1) := by decide +kernel
theorem dX9_isRight_24 : decode cX9_isRight 24 = .ok (.getfield 119, 3) := by decide +kernel
theorem dX9_isRight_27 : decode cX9_isRight 27 = .ok (.if_icmp .ge 11, 3) := by decide +kernel
theorem dX9_isRight_30 : decode cX9_isRight 30 = .ok (.aload_n 0, 1) := by decide +kernel
theorem dX9_isRight_31 : decode cX9_isRight 31 = .ok (.invokevirtual 158, 3) := by decide +kernel
theorem dX9_isRight_34 : decode cX9_isRight 34 = .ok (.istore_n 1, 1) := by decide +kernel
theorem dX9_isRight_35 : decode cX9_isRight 35 = .ok (.goto (-20), 3) := by decide +kernel
theorem dX9_isRight_38 : decode cX9_isRight 38 = .ok (.iload_n 1, 1) := by decide +kernel
theorem dX9_isRight_39 : decode cX9_isRight 39 = .ok (.ireturn, 1) := by decide +kernel
theorem dX9_fault_0 : decode cX9_fault 0 = .ok (.iload_n 1, 1) := by decide +kernel
theorem dX9_fault_1 : decode cX9_fault 1 = .ok (.iconst 0, 1) := by decide +kernel
theorem dX9_fault_2 : decode cX9_fault 2 = .ok (.iconst 1, 1) := by decide +kernel
theorem dX9_fault_3 : decode cX9_fault 3 = .ok (.invokestatic 40, 3) := by decide +kernel
theorem dX9_fault_6 : decode cX9_fault 6 = .ok (.ifCond .ne 5, 3) := by decide +kernel
theorem dX9_fault_9 : decode cX9_fault 9 = .ok (.iconst (-1), 1) := by decide +kernel
theorem dX9_fault_10 : decode cX9_fault 10 = .ok (.ireturn, 1) := by decide +kernel
theorem dX9_fault_11 : decode cX9_fault 11 = .ok (.aload_n 0, 1) := by decide +kernel
theorem dX9_fault_12 : decode cX9_fault 12 = .ok (.invokevirtual 161, 3) := by decide +kernel
theorem dX9_fault_15 : decode cX9_fault 15 = .ok (.ifCond .eq 8, 3) := by decide +kernel
theorem dX9_fault_18 : decode cX9_fault 18 = .ok (.bipush (-4), 2) := by decide +kernel
theorem dX9_fault_20 : decode cX9_fault 20 = .ok (.goto 18, 3) := by decide +kernel
theorem dX9_fault_23 : decode cX9_fault 23 = .ok (.iload_n 1, 1) := by decide +kernel
theorem dX9_fault_24 : decode cX9_fault 24 = .ok (.ifCond .ne 10, 3) := by decide +kernel
theorem dX9_fault_27 : decode cX9_fault 27 = .ok (.aload_n 0, 1) := by decide +kernel
theorem dX9_fault_28 : decode cX9_fault 28 = .ok (.getfield 130, 3) := by decide +kernel
theorem dX9_fault_31 : decode cX9_fault 31 = .ok (.goto 7, 3) := by decide +kernel
theorem dX9_fault_34 : decode cX9_fault 34 = .ok (.aload_n 0, 1) := by decide +kernel
theorem dX9_fault_35 : decode cX9_fault 35 = .ok (.getfield 137, 3) := by decide +kernel
theorem dX9_fault_38 : decode cX9_fault 38 = .ok (.ireturn, 1) := by decide +kernel
theorem dX9_read_0 : decode cX9_read 0 = .ok (.aload_n 0, 1) := by decide +kernel
theorem dX9_read_1 : decode cX9_read 1 = .ok (.invokevirtual 44, 3) := by decide +kernel
theorem dX9_read_4 : decode cX9_read 4 = .ok (.ifCond .ne 10, 3) := by decide +kernel
theorem dX9_read_7 : decode cX9_read 7 = .ok (.aload_n 0, 1) := by decide +kernel
theorem dX9_read_8 : decode cX9_read 8 = .ok (.invokevirtual 161, 3) := by decide +kernel
theorem dX9_read_11 : decode cX9_read 11 = .ok (.ifCond .ne 6, 3) := by decide +kernel
theorem dX9_read_14 : decode cX9_read 14 = .ok (.bipush (-2), 2) := by decide +kernel
theorem dX9_read_16 : decode cX9_read 16 = .ok (.ireturn, 1) := by decide +kernel
theorem dX9_read_17 : decode cX9_read 17 = .ok (.aload_n 0, 1) := by decide +kernel
theorem dX9_read_18 : decode cX9_read 18 = .ok (.invokevirtual 48, 3) := by decide +kernel
theorem dX9_read_21 : decode cX9_read 21 = .ok (.aload_n 0, 1) := by decide +kernel
theorem dX9_read_22 : decode cX9_read 22 = .ok (.getfield 7, 3) := by decide +kernel
theorem dX9_read_25 : decode cX9_read 25 = .ok (.iconst 0, 1) := by decide +kernel
theorem dX9_read_26 : decode cX9_read 26 = .ok (.aload_n 0, 1) := by decide +kernel
theorem dX9_read_27 : decode cX9_read 27 = .ok (.getfield 140, 3) := by decide +kernel
theorem dX9_read_30 : decode cX9_read 30 = .ok (.iastore, 1) := by decide +kernel
theorem dX9_read_31 : decode cX9_read 31 = .ok (.iconst 0, 1) := by decide +kernel
theorem dX9_read_32 : decode cX9_read 32 = .ok (.istore_n 1, 1) := by decide +kernel
theorem dX9_read_33 : decode cX9_read 33 = .ok (.iload_n 1, 1) := by decide +kernel
theorem dX9_read_34 : decode cX9_read 34 = .ok (.aload_n 0, 1) := by decide +kernel
theorem dX9_read_35 : decode cX9_read 35 = .ok (.getfield 140, 3) := by decide +kernel
theorem dX9_read_38 : decode cX9_read 38 = .ok (.if_icmp .ge 122, 3) := by decide +kernel
theorem dX9_read_41 : decode cX9_read 41 = .ok (.aload_n 0, 1) := by decide +kernel
theorem dX9_read_42 : decode cX9_read 42 = .ok (.getfield 7, 3) := by decide +kernel
theorem dX9_read_45 : decode cX9_read 45 = .ok (.bipush 16, 2) := by decide +kernel
theorem dX9_read_47 : decode cX9_read 47 = .ok (.bipush 11, 2) := by decide +kernel
theorem dX9_read_49 : decode cX9_read 49 = .ok (.iload_n 1, 1) := by decide +kernel
theorem dX9_read_50 : decode cX9_read 50 = .ok (.imul, 1) := by decide +kernel
theorem dX9_read_51 : decode cX9_read 51 = .ok (.iadd, 1) := by decide +kernel
theorem dX9_read_52 : decode cX9_read 52 = .ok (.iconst 0, 1) := by decide +kernel
theorem dX9_read_53 : decode cX9_read 53 = .ok (.iadd, 1) := by decide +kernel
theorem dX9_read_54 : decode cX9_read 54 = .ok (.aload_n 0, 1) := by decide +kernel
theorem dX9_read_55 : decode cX9_read 55 = .ok (.getfield 22, 3) := by decide +kernel
theorem dX9_read_58 : decode cX9_read 58 = .ok (.bipush 10, 2) := by decide +kernel
theorem dX9_read_60 : decode cX9_read 60 = .ok (.iload_n 1, 1) := by decide +kernel
theorem dX9_read_61 : decode cX9_read 61 = .ok (.imul, 1) := by decide +kernel
theorem dX9_read_62 : decode cX9_read 62 = .ok (.iaload, 1) := by decide +kernel
theorem dX9_read_63 : decode cX9_read 63 = .ok (.iastore, 1) := by decide +kernel
theorem dX9_read_64 : decode cX9_read 64 = .ok (.aload_n 0, 1) := by decide +kernel
theorem dX9_read_65 : decode cX9_read 65 = .ok (.getfield 7, 3) := by decide +kernel
theorem dX9_read_68 : decode cX9_read 68 = .ok (.bipush 16, 2) := by decide +kernel
theorem dX9_read_70 : decode cX9_read 70 = .ok (.bipush 11, 2) := by decide +kernel
theorem dX9_read_72 : decode cX9_read 72 = .ok (.iload_n 1, 1) := by decide +kernel
theorem dX9_read_73 : decode cX9_read 73 = .ok (.imul, 1) := by decide +kernel
theorem dX9_read_74 : decode cX9_read 74 = .ok (.iadd, 1) := by decide +kernel
theorem dX9_read_75 : decode cX9_read 75 = .ok (.iconst 1, 1) := by decide +kernel
theorem dX9_read_76 : decode cX9_read 76 = .ok (.iadd, 1) := by decide +kernel
theorem dX9_read_77 : decode cX9_read 77 = .ok (.aload_n 0, 1) := by decide +kernel
theorem dX9_read_78 : decode cX9_read 78 = .ok (.getfield 22, 3) := by decide +kernel
theorem dX9_read_81 : decode cX9_read 81 = .ok (.bipush 10, 2) := by decide +kernel
theorem dX9_read_83 : decode cX9_read 83 = .ok (.iload_n 1, 1) := by decide +kernel
theorem dX9_read_84 : decode cX9_read 84 = .ok (.imul, 1) := by decide +kernel
theorem dX9_read_85 : decode cX9_read 85 = .ok (.iconst 1, 1) := by decide +kernel
theorem dX9_read_86 : decode cX9_read 86 = .ok (.iadd, 1) := by decide +kernel
theorem dX9_read_87 : decode cX9_read 87 = .ok (.iaload, 1) := by decide +kernel
theorem dX9_read_88 : decode cX9_read 88 = .ok (.iastore, 1) := by decide +kernel
theorem dX9_read_89 : decode cX9_read 89 = .ok (.aload_n 0, 1) := by decide +kernel
theorem dX9_read_90 : decode cX9_read 90 = .ok (.getfield 7, 3) := by decide +kernel
theorem dX9_read_93 : decode cX9_read 93 = .ok (.bipush 16, 2) := by decide +kernel
theorem dX9_read_95 : decode cX9_read 95 = .ok (.bipush 11, 2) := by decide +kernel
theorem dX9_read_97 : decode cX9_read 97 = .ok (.iload_n 1, 1) := by decide +kernel
theorem dX9_read_98 : decode cX9_read 98 = .ok (.imul, 1) := by decide +kernel
theorem dX9_read_99 : decode cX9_read 99 = .ok (.iadd, 1) := by decide +kernel
theorem dX9_read_100 : decode cX9_read 100 = .ok (.iconst 2, 1) := by decide +kernel
theorem dX9_read_101 : decode cX9_read 101 = .ok (.iadd, 1) := by decide +kernel
theorem dX9_read_102 : decode cX9_read 102 = .ok (.iconst 0, 1) := by decide +kernel
theorem dX9_read_103 : decode cX9_read 103 = .ok (.iastore, 1) := by decide +kernel
theorem dX9_read_104 : decode cX9_read 104 = .ok (.iconst 0, 1) := by decide +kernel
theorem dX9_read_105 : decode cX9_read 105 = .ok (.istore_n 2, 1) := by decide +kernel
theorem dX9_read_106 : decode cX9_read 106 = .ok (.iload_n 2, 1) := by decide +kernel
theorem dX9_read_107 : decode cX9_read 107 = .ok (.aload_n 0, 1) := by decide +kernel
theorem dX9_read_108 : decode cX9_read 108 = .ok (.getfield 22, 3) := by decide +kernel
theorem dX9_read_111 : decode cX9_read 111 = .ok (.bipush 10, 2) := by decide +kernel
theorem dX9_read_113 : decode cX9_read 113 = .ok (.iload_n 1, 1) := by decide +kernel
theorem dX9_read_114 : decode cX9_read 114 = .ok (.imul, 1) := by decide +kernel
theorem dX9_read_115 : decode cX9_read 115 = .ok (.iaload, 1) := by decide +kernel
theorem dX9_read_116 : decode cX9_read 116 = .ok (.if_icmp .ge 38, 3) := by decide +kernel
theorem dX9_read_119 : decode cX9_read 119 = .ok (.aload_n 0, 1) := by decide +kernel
theorem dX9_read_120 : decode cX9_read 120 = .ok (.getfield 7, 3) := by decide +kernel
theorem dX9_read_123 : decode cX9_read 123 = .ok (.bipush 16, 2) := by decide +kernel
theorem dX9_read_125 : decode cX9_read 125 = .ok (.bipush 11, 2) := by decide +kernel
theorem dX9_read_127 : decode cX9_read 127 = .ok (.iload_n 1, 1) := by decide +kernel
theorem dX9_read_128 : decode cX9_read 128 = .ok (.imul, 1) := by decide +kernel
theorem dX9_read_129 : decode cX9_read 129 = .ok (.iadd, 1) := by decide +kernel
theorem dX9_read_130 : decode cX9_read 130 = .ok (.iconst 3, 1) := by decide +kernel
theorem dX9_read_131 : decode cX9_read 131 = .ok (.iadd, 1) := by decide +kernel
theorem dX9_read_132 : decode cX9_read 132 = .ok (.iload_n 2, 1) := by decide +kernel
theorem dX9_read_133 : decode cX9_read 133 = .ok (.iadd, 1) := by decide +kernel
theorem dX9_read_134 : decode cX9_read 134 = .ok (.aload_n 0, 1) := by decide +kernel
theorem dX9_read_135 : decode cX9_read 135 = .ok (.getfield 22, 3) := by decide +kernel
theorem dX9_read_138 : decode cX9_read 138 = .ok (.bipush 10, 2) := by decide +kernel
theorem dX9_read_140 : decode cX9_read 140 = .ok (.iload_n 1, 1) := by decide +kernel
theorem dX9_read_141 : decode cX9_read 141 = .ok (.imul, 1) := by decide +kernel
theorem dX9_read_142 : decode cX9_read 142 = .ok (.iconst 2, 1) := by decide +kernel
theorem dX9_read_143 : decode cX9_read 143 = .ok (.iadd, 1) := by decide +kernel
theorem dX9_read_144 : decode cX9_read 144 = .ok (.iload_n 2, 1) := by decide +kernel
theorem dX9_read_145 : decode cX9_read 145 = .ok (.iadd, 1) := by decide +kernel
theorem dX9_read_146 : decode cX9_read 146 = .ok (.iaload, 1) := by decide +kernel
theorem dX9_read_147 : decode cX9_read 147 = .ok (.iastore, 1) := by decide +kernel
theorem dX9_read_148 : decode cX9_read 148 = .ok (.iinc 2 1, 3) := by decide +kernel
theorem dX9_read_151 : decode cX9_read 151 = .ok (.goto (-45), 3) := by decide +kernel
theorem dX9_read_154 : decode cX9_read 154 = .ok (.iinc 1 1, 3) := by decide +kernel
theorem dX9_read_157 : decode cX9_read 157 = .ok (.goto (-124), 3) := by decide +kernel
theorem dX9_read_160 : decode cX9_read 160 = .ok (.aload_n 0, 1) := by decide +kernel
theorem dX9_read_161 : decode cX9_read 161 = .ok (.getfield 140, 3) := by decide +kernel
theorem dX9_read_164 : decode cX9_read 164 = .ok (.ireturn, 1) := by decide +kernel
theorem dJxf58ca_isNaN_12338_0 : decode cJxf58ca_isNaN_12338 0 = .ok (.fload_n 0, 1) := by decide +kernel
theorem dJxf58ca_isNaN_12338_1 : decode cJxf58ca_isNaN_12338 1 = .ok (.fload_n 0, 1) := by decide +kernel
theorem dJxf58ca_isNaN_12338_2 : decode cJxf58ca_isNaN_12338 2 = .ok (.fcmp .l, 1) := by decide +kernel
theorem dJxf58ca_isNaN_12338_3 : decode cJxf58ca_isNaN_12338 3 = .ok (.ifCond .eq 7, 3) := by decide +kernel
theorem dJxf58ca_isNaN_12338_6 : decode cJxf58ca_isNaN_12338 6 = .ok (.iconst 1, 1) := by decide +kernel
theorem dJxf58ca_isNaN_12338_7 : decode cJxf58ca_isNaN_12338 7 = .ok (.goto 4, 3) := by decide +kernel
theorem dJxf58ca_isNaN_12338_10 : decode cJxf58ca_isNaN_12338 10 = .ok (.iconst 0, 1) := by decide +kernel
theorem dJxf58ca_isNaN_12338_11 : decode cJxf58ca_isNaN_12338 11 = .ok (.ireturn, 1) := by decide +kernel
theorem dJxf58ca_floatToIntBits_5c35a_0 : decode cJxf58ca_floatToIntBits_5c35a 0 = .ok (.fload_n 0, 1) := by decide +kernel
theorem dJxf58ca_floatToIntBits_5c35a_1 : decode cJxf58ca_floatToIntBits_5c35a 1 = .ok (.invokestatic 59, 3) := by decide +kernel
theorem dJxf58ca_floatToIntBits_5c35a_4 : decode cJxf58ca_floatToIntBits_5c35a 4 = .ok (.ifCond .ne 8, 3) := by decide +kernel
theorem dJxf58ca_floatToIntBits_5c35a_7 : decode cJxf58ca_floatToIntBits_5c35a 7 = .ok (.fload_n 0, 1) := by decide +kernel
theorem dJxf58ca_floatToIntBits_5c35a_8 : decode cJxf58ca_floatToIntBits_5c35a 8 = .ok (.invokestatic 74, 3) := by decide +kernel
theorem dJxf58ca_floatToIntBits_5c35a_11 : decode cJxf58ca_floatToIntBits_5c35a 11 = .ok (.ireturn, 1) := by decide +kernel
theorem dJxf58ca_floatToIntBits_5c35a_12 : decode cJxf58ca_floatToIntBits_5c35a 12 = .ok (.ldc 77, 2) := by decide +kernel
theorem dJxf58ca_floatToIntBits_5c35a_14 : decode cJxf58ca_floatToIntBits_5c35a 14 = .ok (.ireturn, 1) := by decide +kernel
theorem dJ6_bitCount_0f7a4_0 : decode cJ6_bitCount_0f7a4 0 = .ok (.iload_n 0, 1) := by decide +kernel
theorem dJ6_bitCount_0f7a4_1 : decode cJ6_bitCount_0f7a4 1 = .ok (.iload_n 0, 1) := by decide +kernel
theorem dJ6_bitCount_0f7a4_2 : decode cJ6_bitCount_0f7a4 2 = .ok (.iconst 1, 1) := by decide +kernel
theorem dJ6_bitCount_0f7a4_3 : decode cJ6_bitCount_0f7a4 3 = .ok (.iushr, 1) := by decide +kernel
theorem dJ6_bitCount_0f7a4_4 : decode cJ6_bitCount_0f7a4 4 = .ok (.ldc_w 265, 3) := by decide +kernel
theorem dJ6_bitCount_0f7a4_7 : decode cJ6_bitCount_0f7a4 7 = .ok (.iand, 1) := by decide +kernel
theorem dJ6_bitCount_0f7a4_8 : decode cJ6_bitCount_0f7a4 8 = .ok (.isub, 1) := by decide +kernel
theorem dJ6_bitCount_0f7a4_9 : decode cJ6_bitCount_0f7a4 9 = .ok (.istore_n 0, 1) := by decide +kernel
theorem dJ6_bitCount_0f7a4_10 : decode cJ6_bitCount_0f7a4 10 = .ok (.iload_n 0, 1) := by decide +kernel
theorem dJ6_bitCount_0f7a4_11 : decode cJ6_bitCount_0f7a4 11 = .ok (.ldc_w 266, 3) := by decide +kernel
theorem dJ6_bitCount_0f7a4_14 : decode cJ6_bitCount_0f7a4 14 = .ok (.iand, 1) := by decide +kernel
theorem dJ6_bitCount_0f7a4_15 : decode cJ6_bitCount_0f7a4 15 = .ok (.iload_n 0, 1) := by decide +kernel
theorem dJ6_bitCount_0f7a4_16 : decode cJ6_bitCount_0f7a4 16 = .ok (.iconst 2, 1) := by decide +kernel
theorem dJ6_bitCount_0f7a4_17 : decode cJ6_bitCount_0f7a4 17 = .ok (.iushr, 1) := by decide +kernel
theorem dJ6_bitCount_0f7a4_18 : decode cJ6_bitCount_0f7a4 18 = .ok (.ldc_w 266, 3) := by decide +kernel
theorem dJ6_bitCount_0f7a4_21 : decode cJ6_bitCount_0f7a4 21 = .ok (.iand, 1) := by decide +kernel
theorem dJ6_bitCount_0f7a4_22 : decode cJ6_bitCount_0f7a4 22 = .ok (.iadd, 1) := by decide +kernel
theorem dJ6_bitCount_0f7a4_23 : decode cJ6_bitCount_0f7a4 23 = .ok (.istore_n 0, 1) := by decide +kernel
theorem dJ6_bitCount_0f7a4_24 : decode cJ6_bitCount_0f7a4 24 = .ok (.iload_n 0, 1) := by decide +kernel
theorem dJ6_bitCount_0f7a4_25 : decode cJ6_bitCount_0f7a4 25 = .ok (.iload_n 0, 1) := by decide +kernel
theorem dJ6_bitCount_0f7a4_26 : decode cJ6_bitCount_0f7a4 26 = .ok (.iconst 4, 1) := by decide +kernel
theorem dJ6_bitCount_0f7a4_27 : decode cJ6_bitCount_0f7a4 27 = .ok (.iushr, 1) := by decide +kernel
theorem dJ6_bitCount_0f7a4_28 : decode cJ6_bitCount_0f7a4 28 = .ok (.iadd, 1) := by decide +kernel
theorem dJ6_bitCount_0f7a4_29 : decode cJ6_bitCount_0f7a4 29 = .ok (.ldc_w 267, 3) := by decide +kernel
theorem dJ6_bitCount_0f7a4_32 : decode cJ6_bitCount_0f7a4 32 = .ok (.iand, 1) := by decide +kernel
theorem dJ6_bitCount_0f7a4_33 : decode cJ6_bitCount_0f7a4 33 = .ok (.istore_n 0, 1) := by decide +kernel
theorem dJ6_bitCount_0f7a4_34 : decode cJ6_bitCount_0f7a4 34 = .ok (.iload_n 0, 1) := by decide +kernel
theorem dJ6_bitCount_0f7a4_35 : decode cJ6_bitCount_0f7a4 35 = .ok (.iload_n 0, 1) := by decide +kernel
theorem dJ6_bitCount_0f7a4_36 : decode cJ6_bitCount_0f7a4 36 = .ok (.bipush 8, 2) := by decide +kernel
theorem dJ6_bitCount_0f7a4_38 : decode cJ6_bitCount_0f7a4 38 = .ok (.iushr, 1) := by decide +kernel
theorem dJ6_bitCount_0f7a4_39 : decode cJ6_bitCount_0f7a4 39 = .ok (.iadd, 1) := by decide +kernel
theorem dJ6_bitCount_0f7a4_40 : decode cJ6_bitCount_0f7a4 40 = .ok (.istore_n 0, 1) := by decide +kernel
theorem dJ6_bitCount_0f7a4_41 : decode cJ6_bitCount_0f7a4 41 = .ok (.iload_n 0, 1) := by decide +kernel
theorem dJ6_bitCount_0f7a4_42 : decode cJ6_bitCount_0f7a4 42 = .ok (.iload_n 0, 1) := by decide +kernel
theorem dJ6_bitCount_0f7a4_43 : decode cJ6_bitCount_0f7a4 43 = .ok (.bipush 16, 2) := by decide +kernel
theorem dJ6_bitCount_0f7a4_45 : decode cJ6_bitCount_0f7a4 45 = .ok (.iushr, 1) := by decide +kernel
theorem dJ6_bitCount_0f7a4_46 : decode cJ6_bitCount_0f7a4 46 = .ok (.iadd, 1) := by decide +kernel
theorem dJ6_bitCount_0f7a4_47 : decode cJ6_bitCount_0f7a4 47 = .ok (.istore_n 0, 1) := by decide +kernel
theorem dJ6_bitCount_0f7a4_48 : decode cJ6_bitCount_0f7a4 48 = .ok (.iload_n 0, 1) := by decide +kernel
theorem dJ6_bitCount_0f7a4_49 : decode cJ6_bitCount_0f7a4 49 = .ok (.bipush 63, 2) := by decide +kernel
theorem dJ6_bitCount_0f7a4_51 : decode cJ6_bitCount_0f7a4 51 = .ok (.iand, 1) := by decide +kernel
theorem dJ6_bitCount_0f7a4_52 : decode cJ6_bitCount_0f7a4 52 = .ok (.ireturn, 1) := by decide +kernel
theorem dJ9_abs_0f7a4_0 : decode cJ9_abs_0f7a4 0 = .ok (.iload_n 0, 1) := by decide +kernel
theorem dJ9_abs_0f7a4_1 : decode cJ9_abs_0f7a4 1 = .ok (.ifCond .ge 8, 3) := by decide +kernel
theorem dJ9_abs_0f7a4_4 : decode cJ9_abs_0f7a4 4 = .ok (.iload_n 0, 1) := by decide +kernel
theorem dJ9_abs_0f7a4_5 : decode cJ9_abs_0f7a4 5 = .ok (.ineg, 1) := by decide +kernel
theorem dJ9_abs_0f7a4_6 : decode cJ9_abs_0f7a4 6 = .ok (.goto 4, 3) := by decide +kernel
theorem dJ9_abs_0f7a4_9 : decode cJ9_abs_0f7a4 9 = .ok (.iload_n 0, 1) := by decide +kernel
theorem dJ9_abs_0f7a4_10 : decode cJ9_abs_0f7a4 10 = .ok (.ireturn, 1) := by decide +kernel
theorem dJ9_max_7cf53_0 : decode cJ9_max_7cf53 0 = .ok (.iload_n 0, 1) := by decide +kernel
theorem dJ9_max_7cf53_1 : decode cJ9_max_7cf53 1 = .ok (.iload_n 1, 1) := by decide +kernel
theorem dJ9_max_7cf53_2 : decode cJ9_max_7cf53 2 = .ok (.if_icmp .lt 7, 3) := by decide +kernel
theorem dJ9_max_7cf53_5 : decode cJ9_max_7cf53 5 = .ok (.iload_n 0, 1) := by decide +kernel
theorem dJ9_max_7cf53_6 : decode cJ9_max_7cf53 6 = .ok (.goto 4, 3) := by decide +kernel
theorem dJ9_max_7cf53_9 : decode cJ9_max_7cf53 9 = .ok (.iload_n 1, 1) := by decide +kernel
theorem dJ9_max_7cf53_10 : decode cJ9_max_7cf53 10 = .ok (.ireturn, 1) := by decide +kernel
theorem dJ9_min_7cf53_0 : decode cJ9_min_7cf53 0 = .ok (.iload_n 0, 1) := by decide +kernel
theorem dJ9_min_7cf53_1 : decode cJ9_min_7cf53 1 = .ok (.iload_n 1, 1) := by decide +kernel
theorem dJ9_min_7cf53_2 : decode cJ9_min_7cf53 2 = .ok (.if_icmp .gt 7, 3) := by decide +kernel
theorem dJ9_min_7cf53_5 : decode cJ9_min_7cf53 5 = .ok (.iload_n 0, 1) := by decide +kernel
theorem dJ9_min_7cf53_6 : decode cJ9_min_7cf53 6 = .ok (.goto 4, 3) := by decide +kernel
theorem dJ9_min_7cf53_9 : decode cJ9_min_7cf53 9 = .ok (.iload_n 1, 1) := by decide +kernel
theorem dJ9_min_7cf53_10 : decode cJ9_min_7cf53 10 = .ok (.ireturn, 1) := by decide +kernel
theorem dL_law_0 : decode cL_law 0 = .ok (.new 7, 3) := by decide +kernel
theorem dL_law_3 : decode cL_law 3 = .ok (.dup, 1) := by decide +kernel
theorem dL_law_4 : decode cL_law 4 = .ok (.invokespecial 9, 3) := by decide +kernel
theorem dL_law_7 : decode cL_law 7 = .ok (.astore_n 1, 1) := by decide +kernel
theorem dL_law_8 : decode cL_law 8 = .ok (.new 10, 3) := by decide +kernel
theorem dL_law_11 : decode cL_law 11 = .ok (.dup, 1) := by decide +kernel
theorem dL_law_12 : decode cL_law 12 = .ok (.invokespecial 12, 3) := by decide +kernel
theorem dL_law_15 : decode cL_law 15 = .ok (.astore_n 2, 1) := by decide +kernel
theorem dL_law_16 : decode cL_law 16 = .ok (.iconst 0, 1) := by decide +kernel
theorem dL_law_17 : decode cL_law 17 = .ok (.istore_n 3, 1) := by decide +kernel
theorem dL_law_18 : decode cL_law 18 = .ok (.iload_n 3, 1) := by decide +kernel
theorem dL_law_19 : decode cL_law 19 = .ok (.aload_n 0, 1) := by decide +kernel
theorem dL_law_20 : decode cL_law 20 = .ok (.arraylength, 1) := by decide +kernel
theorem dL_law_21 : decode cL_law 21 = .ok (.iconst 4, 1) := by decide +kernel
theorem dL_law_22 : decode cL_law 22 = .ok (.isub, 1) := by decide +kernel
theorem dL_law_23 : decode cL_law 23 = .ok (.if_icmp .gt 736, 3) := by decide +kernel
theorem dL_law_26 : decode cL_law 26 = .ok (.aload_n 0, 1) := by decide +kernel
theorem dL_law_27 : decode cL_law 27 = .ok (.iload_n 3, 1) := by decide +kernel
theorem dL_law_28 : decode cL_law 28 = .ok (.iaload, 1) := by decide +kernel
theorem dL_law_29 : decode cL_law 29 = .ok (.bipush 31, 2) := by decide +kernel
theorem dL_law_31 : decode cL_law 31 = .ok (.iand, 1) := by decide +kernel
theorem dL_law_32 : decode cL_law 32 = .ok (.tableswitch 721 0 24 #[116, 149, 172, 215, 248, 271, 294, 317, 340, 383, 416, 449, 472, 505, 528, 551, 584, 597, 610, 623, 636, 649, 672, 685, 708], 116) := by decide +kernel
theorem dL_law_148 : decode cL_law 148 = .ok (.aload_n 1, 1) := by decide +kernel
theorem dL_law_149 : decode cL_law 149 = .ok (.aload_n 0, 1) := by decide +kernel
theorem dL_law_150 : decode cL_law 150 = .ok (.iload_n 3, 1) := by decide +kernel
theorem dL_law_151 : decode cL_law 151 = .ok (.iconst 1, 1) := by decide +kernel
theorem dL_law_152 : decode cL_law 152 = .ok (.iadd, 1) := by decide +kernel
theorem dL_law_153 : decode cL_law 153 = .ok (.iaload, 1) := by decide +kernel
theorem dL_law_154 : decode cL_law 154 = .ok (.aload_n 0, 1) := by decide +kernel
theorem dL_law_155 : decode cL_law 155 = .ok (.iload_n 3, 1) := by decide +kernel
theorem dL_law_156 : decode cL_law 156 = .ok (.iconst 2, 1) := by decide +kernel
theorem dL_law_157 : decode cL_law 157 = .ok (.iadd, 1) := by decide +kernel
theorem dL_law_158 : decode cL_law 158 = .ok (.iaload, 1) := by decide +kernel
theorem dL_law_159 : decode cL_law 159 = .ok (.invokevirtual 13, 3) := by decide +kernel
theorem dL_law_162 : decode cL_law 162 = .ok (.aload_n 2, 1) := by decide +kernel
theorem dL_law_163 : decode cL_law 163 = .ok (.aload_n 0, 1) := by decide +kernel
theorem dL_law_164 : decode cL_law 164 = .ok (.iload_n 3, 1) := by decide +kernel
theorem dL_law_165 : decode cL_law 165 = .ok (.iconst 1, 1) := by decide +kernel
theorem dL_law_166 : decode cL_law 166 = .ok (.iadd, 1) := by decide +kernel
theorem dL_law_167 : decode cL_law 167 = .ok (.iaload, 1) := by decide +kernel
theorem dL_law_168 : decode cL_law 168 = .ok (.aload_n 0, 1) := by decide +kernel
theorem dL_law_169 : decode cL_law 169 = .ok (.iload_n 3, 1) := by decide +kernel
theorem dL_law_170 : decode cL_law 170 = .ok (.iconst 2, 1) := by decide +kernel
theorem dL_law_171 : decode cL_law 171 = .ok (.iadd, 1) := by decide +kernel
theorem dL_law_172 : decode cL_law 172 = .ok (.iaload, 1) := by decide +kernel
theorem dL_law_173 : decode cL_law 173 = .ok (.invokevirtual 17, 3) := by decide +kernel
theorem dL_law_176 : decode cL_law 176 = .ok (.if_icmp .eq 577, 3) := by decide +kernel
theorem dL_law_179 : decode cL_law 179 = .ok (.iconst 0, 1) := by decide +kernel
theorem dL_law_180 : decode cL_law 180 = .ok (.ireturn, 1) := by decide +kernel
theorem dL_law_181 : decode cL_law 181 = .ok (.aload_n 1, 1) := by decide +kernel
theorem dL_law_182 : decode cL_law 182 = .ok (.aload_n 0, 1) := by decide +kernel
theorem dL_law_183 : decode cL_law 183 = .ok (.iload_n 3, 1) := by decide +kernel
theorem dL_law_184 : decode cL_law 184 = .ok (.iconst 1, 1) := by decide +kernel
theorem dL_law_185 : decode cL_law 185 = .ok (.iadd, 1) := by decide +kernel
theorem dL_law_186 : decode cL_law 186 = .ok (.iaload, 1) := by decide +kernel
theorem dL_law_187 : decode cL_law 187 = .ok (.invokevirtual 18, 3) := by decide +kernel
theorem dL_law_190 : decode cL_law 190 = .ok (.aload_n 2, 1) := by decide +kernel
theorem dL_law_191 : decode cL_law 191 = .ok (.aload_n 0, 1) := by decide +kernel
theorem dL_law_192 : decode cL_law 192 = .ok (.iload_n 3, 1) := by decide +kernel
theorem dL_law_193 : decode cL_law 193 = .ok (.iconst 1, 1) := by decide +kernel
theorem dL_law_194 : decode cL_law 194 = .ok (.iadd, 1) := by decide +kernel
theorem dL_law_195 : decode cL_law 195 = .ok (.iaload, 1) := by decide +kernel
theorem dL_law_196 : decode cL_law 196 = .ok (.invokevirtual 22, 3) := by decide +kernel
theorem dL_law_199 : decode cL_law 199 = .ok (.if_icmp .eq 554, 3) := by decide +kernel
theorem dL_law_202 : decode cL_law 202 = .ok (.iconst 0, 1) := by decide +kernel
theorem dL_law_203 : decode cL_law 203 = .ok (.ireturn, 1) := by decide +kernel
theorem dL_law_204 : decode cL_law 204 = .ok (.aload_n 1, 1) := by decide +kernel
theorem dL_law_205 : decode cL_law 205 = .ok (.aload_n 0, 1) := by decide +kernel
theorem dL_law_206 : decode cL_law 206 = .ok (.iload_n 3, 1) := by decide +kernel
theorem dL_law_207 : decode cL_law 207 = .ok (.iconst 1, 1) := by decide +kernel
theorem dL_law_208 : decode cL_law 208 = .ok (.iadd, 1) := by decide +kernel
theorem dL_law_209 : decode cL_law 209 = .ok (.iaload, 1) := by decide +kernel
theorem dL_law_210 : decode cL_law 210 = .ok (.aload_n 0, 1) := by decide +kernel
theorem dL_law_211 : decode cL_law 211 = .ok (.iload_n 3, 1) := by decide +kernel
theorem dL_law_212 : decode cL_law 212 = .ok (.iconst 2, 1) := by decide +kernel
theorem dL_law_213 : decode cL_law 213 = .ok (.iadd, 1) := by decide +kernel
theorem dL_law_214 : decode cL_law 214 = .ok (.iaload, 1) := by decide +kernel
theorem dL_law_215 : decode cL_law 215 = .ok (.aload_n 0, 1) := by decide +kernel
theorem dL_law_216 : decode cL_law 216 = .ok (.iload_n 3, 1) := by decide +kernel
theorem dL_law_217 : decode cL_law 217 = .ok (.iconst 3, 1) := by decide +kernel
theorem dL_law_218 : decode cL_law 218 = .ok (.iadd, 1) := by decide +kernel
theorem dL_law_219 : decode cL_law 219 = .ok (.iaload, 1) := by decide +kernel
theorem dL_law_220 : decode cL_law 220 = .ok (.invokevirtual 23, 3) := by decide +kernel
theorem dL_law_223 : decode cL_law 223 = .ok (.aload_n 2, 1) := by decide +kernel
theorem dL_law_224 : decode cL_law 224 = .ok (.aload_n 0, 1) := by decide +kernel
theorem dL_law_225 : decode cL_law 225 = .ok (.iload_n 3, 1) := by decide +kernel
theorem dL_law_226 : decode cL_law 226 = .ok (.iconst 1, 1) := by decide +kernel
theorem dL_law_227 : decode cL_law 227 = .ok (.iadd, 1) := by decide +kernel
theorem dL_law_228 : decode cL_law 228 = .ok (.iaload, 1) := by decide +kernel
theorem dL_law_229 : decode cL_law 229 = .ok (.aload_n 0, 1) := by decide +kernel
theorem dL_law_230 : decode cL_law 230 = .ok (.iload_n 3, 1) := by decide +kernel
theorem dL_law_231 : decode cL_law 231 = .ok (.iconst 2, 1) := by decide +kernel
theorem dL_law_232 : decode cL_law 232 = .ok (.iadd, 1) := by decide +kernel
theorem dL_law_233 : decode cL_law 233 = .ok (.iaload, 1) := by decide +kernel
theorem dL_law_234 : decode cL_law 234 = .ok (.aload_n 0, 1) := by decide +kernel
theorem dL_law_235 : decode cL_law 235 = .ok (.iload_n 3, 1) := by decide +kernel
theorem dL_law_236 : decode cL_law 236 = .ok (.iconst 3, 1) := by decide +kernel
theorem dL_law_237 : decode cL_law 237 = .ok (.iadd, 1) := by decide +kernel
theorem dL_law_238 : decode cL_law 238 = .ok (.iaload, 1) := by decide +kernel
theorem dL_law_239 : decode cL_law 239 = .ok (.invokevirtual 27, 3) := by decide +kernel
theorem dL_law_242 : decode cL_law 242 = .ok (.if_icmp .eq 511, 3) := by decide +kernel
theorem dL_law_245 : decode cL_law 245 = .ok (.iconst 0, 1) := by decide +kernel
theorem dL_law_246 : decode cL_law 246 = .ok (.ireturn, 1) := by decide +kernel
theorem dL_law_247 : decode cL_law 247 = .ok (.aload_n 1, 1) := by decide +kernel
theorem dL_law_248 : decode cL_law 248 = .ok (.aload_n 0, 1) := by decide +kernel
theorem dL_law_249 : decode cL_law 249 = .ok (.iload_n 3, 1) := by decide +kernel
theorem dL_law_250 : decode cL_law 250 = .ok (.iconst 1, 1) := by decide +kernel
theorem dL_law_251 : decode cL_law 251 = .ok (.iadd, 1) := by decide +kernel
theorem dL_law_252 : decode cL_law 252 = .ok (.iaload, 1) := by decide +kernel
theorem dL_law_253 : decode cL_law 253 = .ok (.aload_n 0, 1) := by decide +kernel
theorem dL_law_254 : decode cL_law 254 = .ok (.iload_n 3, 1) := by decide +kernel
theorem dL_law_255 : decode cL_law 255 = .ok (.iconst 2, 1) := by decide +kernel
theorem dL_law_256 : decode cL_law 256 = .ok (.iadd, 1) := by decide +kernel
theorem dL_law_257 : decode cL_law 257 = .ok (.iaload, 1) := by decide +kernel
theorem dL_law_258 : decode cL_law 258 = .ok (.invokevirtual 28, 3) := by decide +kernel
theorem dL_law_261 : decode cL_law 261 = .ok (.aload_n 2, 1) := by decide +kernel
theorem dL_law_262 : decode cL_law 262 = .ok (.aload_n 0, 1) := by decide +kernel
theorem dL_law_263 : decode cL_law 263 = .ok (.iload_n 3, 1) := by decide +kernel
theorem dL_law_264 : decode cL_law 264 = .ok (.iconst 1, 1) := by decide +kernel
theorem dL_law_265 : decode cL_law 265 = .ok (.iadd, 1) := by decide +kernel
theorem dL_law_266 : decode cL_law 266 = .ok (.iaload, 1) := by decide +kernel
theorem dL_law_267 : decode cL_law 267 = .ok (.aload_n 0, 1) := by decide +kernel
theorem dL_law_268 : decode cL_law 268 = .ok (.iload_n 3, 1) := by decide +kernel
theorem dL_law_269 : decode cL_law 269 = .ok (.iconst 2, 1) := by decide +kernel
theorem dL_law_270 : decode cL_law 270 = .ok (.iadd, 1) := by decide +kernel
theorem dL_law_271 : decode cL_law 271 = .ok (.iaload, 1) := by decide +kernel
theorem dL_law_272 : decode cL_law 272 = .ok (.invokevirtual 31, 3) := by decide +kernel
theorem dL_law_275 : decode cL_law 275 = .ok (.if_icmp .eq 478, 3) := by decide +kernel
theorem dL_law_278 : decode cL_law 278 = .ok (.iconst 0, 1) := by decide +kernel
theorem dL_law_279 : decode cL_law 279 = .ok (.ireturn, 1) := by decide +kernel
theorem dL_law_280 : decode cL_law 280 = .ok (.aload_n 1, 1) := by decide +kernel
theorem dL_law_281 : decode cL_law 281 = .ok (.aload_n 0, 1) := by decide +kernel
theorem dL_law_282 : decode cL_law 282 = .ok (.iload_n 3, 1) := by decide +kernel
theorem dL_law_283 : decode cL_law 283 = .ok (.iconst 1, 1) := by decide +kernel
theorem dL_law_284 : decode cL_law 284 = .ok (.iadd, 1) := by decide +kernel
theorem dL_law_285 : decode cL_law 285 = .ok (.iaload, 1) := by decide +kernel
theorem dL_law_286 : decode cL_law 286 = .ok (.invokevirtual 32, 3) := by decide +kernel
theorem dL_law_289 : decode cL_law 289 = .ok (.aload_n 2, 1) := by decide +kernel
theorem dL_law_290 : decode cL_law 290 = .ok (.aload_n 0, 1) := by decide +kernel
theorem dL_law_291 : decode cL_law 291 = .ok (.iload_n 3, 1) := by decide +kernel
theorem dL_law_292 : decode cL_law 292 = .ok (.iconst 1, 1) := by decide +kernel
theorem dL_law_293 : decode cL_law 293 = .ok (.iadd, 1) := by decide +kernel
theorem dL_law_294 : decode cL_law 294 = .ok (.iaload, 1) := by decide +kernel
theorem dL_law_295 : decode cL_law 295 = .ok (.invokevirtual 35, 3) := by decide +kernel
theorem dL_law_298 : decode cL_law 298 = .ok (.if_icmp .eq 455, 3) := by decide +kernel
theorem dL_law_301 : decode cL_law 301 = .ok (.iconst 0, 1) := by decide +kernel
theorem dL_law_302 : decode cL_law 302 = .ok (.ireturn, 1) := by decide +kernel
theorem dL_law_303 : decode cL_law 303 = .ok (.aload_n 1, 1) := by decide +kernel
theorem dL_law_304 : decode cL_law 304 = .ok (.aload_n 0, 1) := by decide +kernel
theorem dL_law_305 : decode cL_law 305 = .ok (.iload_n 3, 1) := by decide +kernel
theorem dL_law_306 : decode cL_law 306 = .ok (.iconst 1, 1) := by decide +kernel
theorem dL_law_307 : decode cL_law 307 = .ok (.iadd, 1) := by decide +kernel
theorem dL_law_308 : decode cL_law 308 = .ok (.iaload, 1) := by decide +kernel
theorem dL_law_309 : decode cL_law 309 = .ok (.invokevirtual 36, 3) := by decide +kernel
theorem dL_law_312 : decode cL_law 312 = .ok (.aload_n 2, 1) := by decide +kernel
theorem dL_law_313 : decode cL_law 313 = .ok (.aload_n 0, 1) := by decide +kernel
theorem dL_law_314 : decode cL_law 314 = .ok (.iload_n 3, 1) := by decide +kernel
theorem dL_law_315 : decode cL_law 315 = .ok (.iconst 1, 1) := by decide +kernel
theorem dL_law_316 : decode cL_law 316 = .ok (.iadd, 1) := by decide +kernel
theorem dL_law_317 : decode cL_law 317 = .ok (.iaload, 1) := by decide +kernel
theorem dL_law_318 : decode cL_law 318 = .ok (.invokevirtual 39, 3) := by decide +kernel
theorem dL_law_321 : decode cL_law 321 = .ok (.if_icmp .eq 432, 3) := by decide +kernel
theorem dL_law_324 : decode cL_law 324 = .ok (.iconst 0, 1) := by decide +kernel
theorem dL_law_325 : decode cL_law 325 = .ok (.ireturn, 1) := by decide +kernel
theorem dL_law_326 : decode cL_law 326 = .ok (.aload_n 1, 1) := by decide +kernel
theorem dL_law_327 : decode cL_law 327 = .ok (.aload_n 0, 1) := by decide +kernel
theorem dL_law_328 : decode cL_law 328 = .ok (.iload_n 3, 1) := by decide +kernel
theorem dL_law_329 : decode cL_law 329 = .ok (.iconst 1, 1) := by decide +kernel
theorem dL_law_330 : decode cL_law 330 = .ok (.iadd, 1) := by decide +kernel
theorem dL_law_331 : decode cL_law 331 = .ok (.iaload, 1) := by decide +kernel
theorem dL_law_332 : decode cL_law 332 = .ok (.invokevirtual 40, 3) := by decide +kernel
theorem dL_law_335 : decode cL_law 335 = .ok (.aload_n 2, 1) := by decide +kernel
theorem dL_law_336 : decode cL_law 336 = .ok (.aload_n 0, 1) := by decide +kernel
theorem dL_law_337 : decode cL_law 337 = .ok (.iload_n 3, 1) := by decide +kernel
theorem dL_law_338 : decode cL_law 338 = .ok (.iconst 1, 1) := by decide +kernel
theorem dL_law_339 : decode cL_law 339 = .ok (.iadd, 1) := by decide +kernel
theorem dL_law_340 : decode cL_law 340 = .ok (.iaload, 1) := by decide +kernel
theorem dL_law_341 : decode cL_law 341 = .ok (.invokevirtual 43, 3) := by decide +kernel
theorem dL_law_344 : decode cL_law 344 = .ok (.if_icmp .eq 409, 3) := by decide +kernel
theorem dL_law_347 : decode cL_law 347 = .ok (.iconst 0, 1) := by decide +kernel
theorem dL_law_348 : decode cL_law 348 = .ok (.ireturn, 1) := by decide +kernel
theorem dL_law_349 : decode cL_law 349 = .ok (.aload_n 1, 1) := by decide +kernel
theorem dL_law_350 : decode cL_law 350 = .ok (.aload_n 0, 1) := by decide +kernel
theorem dL_law_351 : decode cL_law 351 = .ok (.iload_n 3, 1) := by decide +kernel
theorem dL_law_352 : decode cL_law 352 = .ok (.iconst 1, 1) := by decide +kernel
theorem dL_law_353 : decode cL_law 353 = .ok (.iadd, 1) := by decide +kernel
theorem dL_law_354 : decode cL_law 354 = .ok (.iaload, 1) := by decide +kernel
theorem dL_law_355 : decode cL_law 355 = .ok (.invokevirtual 44, 3) := by decide +kernel
theorem dL_law_358 : decode cL_law 358 = .ok (.aload_n 2, 1) := by decide +kernel
theorem dL_law_359 : decode cL_law 359 = .ok (.aload_n 0, 1) := by decide +kernel
theorem dL_law_360 : decode cL_law 360 = .ok (.iload_n 3, 1) := by decide +kernel
theorem dL_law_361 : decode cL_law 361 = .ok (.iconst 1, 1) := by decide +kernel
theorem dL_law_362 : decode cL_law 362 = .ok (.iadd, 1) := by decide +kernel
theorem dL_law_363 : decode cL_law 363 = .ok (.iaload, 1) := by decide +kernel
theorem dL_law_364 : decode cL_law 364 = .ok (.invokevirtual 47, 3) := by decide +kernel
theorem dL_law_367 : decode cL_law 367 = .ok (.if_icmp .eq 386, 3) := by decide +kernel
theorem dL_law_370 : decode cL_law 370 = .ok (.iconst 0, 1) := by decide +kernel
theorem dL_law_371 : decode cL_law 371 = .ok (.ireturn, 1) := by decide +kernel
theorem dL_law_372 : decode cL_law 372 = .ok (.aload_n 1, 1) := by decide +kernel
theorem dL_law_373 : decode cL_law 373 = .ok (.aload_n 0, 1) := by decide +kernel
theorem dL_law_374 : decode cL_law 374 = .ok (.iload_n 3, 1) := by decide +kernel
theorem dL_law_375 : decode cL_law 375 = .ok (.iconst 1, 1) := by decide +kernel
theorem dL_law_376 : decode cL_law 376 = .ok (.iadd, 1) := by decide +kernel
theorem dL_law_377 : decode cL_law 377 = .ok (.iaload, 1) := by decide +kernel
theorem dL_law_378 : decode cL_law 378 = .ok (.aload_n 0, 1) := by decide +kernel
theorem dL_law_379 : decode cL_law 379 = .ok (.iload_n 3, 1) := by decide +kernel
theorem dL_law_380 : decode cL_law 380 = .ok (.iconst 2, 1) := by decide +kernel
theorem dL_law_381 : decode cL_law 381 = .ok (.iadd, 1) := by decide +kernel
theorem dL_law_382 : decode cL_law 382 = .ok (.iaload, 1) := by decide +kernel
theorem dL_law_383 : decode cL_law 383 = .ok (.aload_n 0, 1) := by decide +kernel
theorem dL_law_384 : decode cL_law 384 = .ok (.iload_n 3, 1) := by decide +kernel
theorem dL_law_385 : decode cL_law 385 = .ok (.iconst 3, 1) := by decide +kernel
theorem dL_law_386 : decode cL_law 386 = .ok (.iadd, 1) := by decide +kernel
theorem dL_law_387 : decode cL_law 387 = .ok (.iaload, 1) := by decide +kernel
theorem dL_law_388 : decode cL_law 388 = .ok (.invokevirtual 48, 3) := by decide +kernel
theorem dL_law_391 : decode cL_law 391 = .ok (.aload_n 2, 1) := by decide +kernel
theorem dL_law_392 : decode cL_law 392 = .ok (.aload_n 0, 1) := by decide +kernel
theorem dL_law_393 : decode cL_law 393 = .ok (.iload_n 3, 1) := by decide +kernel
theorem dL_law_394 : decode cL_law 394 = .ok (.iconst 1, 1) := by decide +kernel
theorem dL_law_395 : decode cL_law 395 = .ok (.iadd, 1) := by decide +kernel
theorem dL_law_396 : decode cL_law 396 = .ok (.iaload, 1) := by decide +kernel
theorem dL_law_397 : decode cL_law 397 = .ok (.aload_n 0, 1) := by decide +kernel
theorem dL_law_398 : decode cL_law 398 = .ok (.iload_n 3, 1) := by decide +kernel
theorem dL_law_399 : decode cL_law 399 = .ok (.iconst 2, 1) := by decide +kernel
theorem dL_law_400 : decode cL_law 400 = .ok (.iadd, 1) := by decide +kernel
theorem dL_law_401 : decode cL_law 401 = .ok (.iaload, 1) := by decide +kernel
theorem dL_law_402 : decode cL_law 402 = .ok (.aload_n 0, 1) := by decide +kernel
theorem dL_law_403 : decode cL_law 403 = .ok (.iload_n 3, 1) := by decide +kernel
theorem dL_law_404 : decode cL_law 404 = .ok (.iconst 3, 1) := by decide +kernel
theorem dL_law_405 : decode cL_law 405 = .ok (.iadd, 1) := by decide +kernel
theorem dL_law_406 : decode cL_law 406 = .ok (.iaload, 1) := by decide +kernel
theorem dL_law_407 : decode cL_law 407 = .ok (.invokevirtual 51, 3) := by decide +kernel
theorem dL_law_410 : decode cL_law 410 = .ok (.if_icmp .eq 343, 3) := by decide +kernel
theorem dL_law_413 : decode cL_law 413 = .ok (.iconst 0, 1) := by decide +kernel
theorem dL_law_414 : decode cL_law 414 = .ok (.ireturn, 1) := by decide +kernel
theorem dL_law_415 : decode cL_law 415 = .ok (.aload_n 1, 1) := by decide +kernel
theorem dL_law_416 : decode cL_law 416 = .ok (.aload_n 0, 1) := by decide +kernel
theorem dL_law_417 : decode cL_law 417 = .ok (.iload_n 3, 1) := by decide +kernel
theorem dL_law_418 : decode cL_law 418 = .ok (.iconst 1, 1) := by decide +kernel
theorem dL_law_419 : decode cL_law 419 = .ok (.iadd, 1) := by decide +kernel
theorem dL_law_420 : decode cL_law 420 = .ok (.iaload, 1) := by decide +kernel
theorem dL_law_421 : decode cL_law 421 = .ok (.aload_n 0, 1) := by decide +kernel
theorem dL_law_422 : decode cL_law 422 = .ok (.iload_n 3, 1) := by decide +kernel
theorem dL_law_423 : decode cL_law 423 = .ok (.iconst 2, 1) := by decide +kernel
theorem dL_law_424 : decode cL_law 424 = .ok (.iadd, 1) := by decide +kernel
theorem dL_law_425 : decode cL_law 425 = .ok (.iaload, 1) := by decide +kernel
theorem dL_law_426 : decode cL_law 426 = .ok (.invokevirtual 52, 3) := by decide +kernel
theorem dL_law_429 : decode cL_law 429 = .ok (.aload_n 2, 1) := by decide +kernel
theorem dL_law_430 : decode cL_law 430 = .ok (.aload_n 0, 1) := by decide +kernel
theorem dL_law_431 : decode cL_law 431 = .ok (.iload_n 3, 1) := by decide +kernel
theorem dL_law_432 : decode cL_law 432 = .ok (.iconst 1, 1) := by decide +kernel
theorem dL_law_433 : decode cL_law 433 = .ok (.iadd, 1) := by decide +kernel
theorem dL_law_434 : decode cL_law 434 = .ok (.iaload, 1) := by decide +kernel
theorem dL_law_435 : decode cL_law 435 = .ok (.aload_n 0, 1) := by decide +kernel
theorem dL_law_436 : decode cL_law 436 = .ok (.iload_n 3, 1) := by decide +kernel
theorem dL_law_437 : decode cL_law 437 = .ok (.iconst 2, 1) := by decide +kernel
theorem dL_law_438 : decode cL_law 438 = .ok (.iadd, 1) := by decide +kernel
theorem dL_law_439 : decode cL_law 439 = .ok (.iaload, 1) := by decide +kernel
theorem dL_law_440 : decode cL_law 440 = .ok (.invokevirtual 55, 3) := by decide +kernel
theorem dL_law_443 : decode cL_law 443 = .ok (.if_icmp .eq 310, 3) := by decide +kernel
theorem dL_law_446 : decode cL_law 446 = .ok (.iconst 0, 1) := by decide +kernel
theorem dL_law_447 : decode cL_law 447 = .ok (.ireturn, 1) := by decide +kernel
theorem dL_law_448 : decode cL_law 448 = .ok (.aload_n 1, 1) := by decide +kernel
theorem dL_law_449 : decode cL_law 449 = .ok (.aload_n 0, 1) := by decide +kernel
theorem dL_law_450 : decode cL_law 450 = .ok (.iload_n 3, 1) := by decide +kernel
theorem dL_law_451 : decode cL_law 451 = .ok (.iconst 1, 1) := by decide +kernel
theorem dL_law_452 : decode cL_law 452 = .ok (.iadd, 1) := by decide +kernel
theorem dL_law_453 : decode cL_law 453 = .ok (.iaload, 1) := by decide +kernel
theorem dL_law_454 : decode cL_law 454 = .ok (.aload_n 0, 1) := by decide +kernel
theorem dL_law_455 : decode cL_law 455 = .ok (.iload_n 3, 1) := by decide +kernel
theorem dL_law_456 : decode cL_law 456 = .ok (.iconst 2, 1) := by decide +kernel
theorem dL_law_457 : decode cL_law 457 = .ok (.iadd, 1) := by decide +kernel
theorem dL_law_458 : decode cL_law 458 = .ok (.iaload, 1) := by decide +kernel
theorem dL_law_459 : decode cL_law 459 = .ok (.invokevirtual 56, 3) := by decide +kernel
theorem dL_law_462 : decode cL_law 462 = .ok (.aload_n 2, 1) := by decide +kernel
theorem dL_law_463 : decode cL_law 463 = .ok (.aload_n 0, 1) := by decide +kernel
theorem dL_law_464 : decode cL_law 464 = .ok (.iload_n 3, 1) := by decide +kernel
theorem dL_law_465 : decode cL_law 465 = .ok (.iconst 1, 1) := by decide +kernel
theorem dL_law_466 : decode cL_law 466 = .ok (.iadd, 1) := by decide +kernel
theorem dL_law_467 : decode cL_law 467 = .ok (.iaload, 1) := by decide +kernel
theorem dL_law_468 : decode cL_law 468 = .ok (.aload_n 0, 1) := by decide +kernel
theorem dL_law_469 : decode cL_law 469 = .ok (.iload_n 3, 1) := by decide +kernel
theorem dL_law_470 : decode cL_law 470 = .ok (.iconst 2, 1) := by decide +kernel
theorem dL_law_471 : decode cL_law 471 = .ok (.iadd, 1) := by decide +kernel
theorem dL_law_472 : decode cL_law 472 = .ok (.iaload, 1) := by decide +kernel
theorem dL_law_473 : decode cL_law 473 = .ok (.invokevirtual 59, 3) := by decide +kernel
theorem dL_law_476 : decode cL_law 476 = .ok (.if_icmp .eq 277, 3) := by decide +kernel
theorem dL_law_479 : decode cL_law 479 = .ok (.iconst 0, 1) := by decide +kernel
theorem dL_law_480 : decode cL_law 480 = .ok (.ireturn, 1) := by decide +kernel
theorem dL_law_481 : decode cL_law 481 = .ok (.aload_n 1, 1) := by decide +kernel
theorem dL_law_482 : decode cL_law 482 = .ok (.aload_n 0, 1) := by decide +kernel
theorem dL_law_483 : decode cL_law 483 = .ok (.iload_n 3, 1) := by decide +kernel
theorem dL_law_484 : decode cL_law 484 = .ok (.iconst 1, 1) := by decide +kernel
theorem dL_law_485 : decode cL_law 485 = .ok (.iadd, 1) := by decide +kernel
theorem dL_law_486 : decode cL_law 486 = .ok (.iaload, 1) := by decide +kernel
theorem dL_law_487 : decode cL_law 487 = .ok (.invokevirtual 60, 3) := by decide +kernel
theorem dL_law_490 : decode cL_law 490 = .ok (.aload_n 2, 1) := by decide +kernel
theorem dL_law_491 : decode cL_law 491 = .ok (.aload_n 0, 1) := by decide +kernel
theorem dL_law_492 : decode cL_law 492 = .ok (.iload_n 3, 1) := by decide +kernel
theorem dL_law_493 : decode cL_law 493 = .ok (.iconst 1, 1) := by decide +kernel
theorem dL_law_494 : decode cL_law 494 = .ok (.iadd, 1) := by decide +kernel
theorem dL_law_495 : decode cL_law 495 = .ok (.iaload, 1) := by decide +kernel
theorem dL_law_496 : decode cL_law 496 = .ok (.invokevirtual 63, 3) := by decide +kernel
theorem dL_law_499 : decode cL_law 499 = .ok (.if_icmp .eq 254, 3) := by decide +kernel
theorem dL_law_502 : decode cL_law 502 = .ok (.iconst 0, 1) := by decide +kernel
theorem dL_law_503 : decode cL_law 503 = .ok (.ireturn, 1) := by decide +kernel
theorem dL_law_504 : decode cL_law 504 = .ok (.aload_n 1, 1) := by decide +kernel
theorem dL_law_505 : decode cL_law 505 = .ok (.aload_n 0, 1) := by decide +kernel
theorem dL_law_506 : decode cL_law 506 = .ok (.iload_n 3, 1) := by decide +kernel
theorem dL_law_507 : decode cL_law 507 = .ok (.iconst 1, 1) := by decide +kernel
theorem dL_law_508 : decode cL_law 508 = .ok (.iadd, 1) := by decide +kernel
theorem dL_law_509 : decode cL_law 509 = .ok (.iaload, 1) := by decide +kernel
theorem dL_law_510 : decode cL_law 510 = .ok (.aload_n 0, 1) := by decide +kernel
theorem dL_law_511 : decode cL_law 511 = .ok (.iload_n 3, 1) := by decide +kernel
theorem dL_law_512 : decode cL_law 512 = .ok (.iconst 2, 1) := by decide +kernel
theorem dL_law_513 : decode cL_law 513 = .ok (.iadd, 1) := by decide +kernel
theorem dL_law_514 : decode cL_law 514 = .ok (.iaload, 1) := by decide +kernel
theorem dL_law_515 : decode cL_law 515 = .ok (.invokevirtual 64, 3) := by decide +kernel
theorem dL_law_518 : decode cL_law 518 = .ok (.aload_n 2, 1) := by decide +kernel
theorem dL_law_519 : decode cL_law 519 = .ok (.aload_n 0, 1) := by decide +kernel
theorem dL_law_520 : decode cL_law 520 = .ok (.iload_n 3, 1) := by decide +kernel
theorem dL_law_521 : decode cL_law 521 = .ok (.iconst 1, 1) := by decide +kernel
theorem dL_law_522 : decode cL_law 522 = .ok (.iadd, 1) := by decide +kernel
theorem dL_law_523 : decode cL_law 523 = .ok (.iaload, 1) := by decide +kernel
theorem dL_law_524 : decode cL_law 524 = .ok (.aload_n 0, 1) := by decide +kernel
theorem dL_law_525 : decode cL_law 525 = .ok (.iload_n 3, 1) := by decide +kernel
theorem dL_law_526 : decode cL_law 526 = .ok (.iconst 2, 1) := by decide +kernel
theorem dL_law_527 : decode cL_law 527 = .ok (.iadd, 1) := by decide +kernel
theorem dL_law_528 : decode cL_law 528 = .ok (.iaload, 1) := by decide +kernel
theorem dL_law_529 : decode cL_law 529 = .ok (.invokevirtual 67, 3) := by decide +kernel
theorem dL_law_532 : decode cL_law 532 = .ok (.if_icmp .eq 221, 3) := by decide +kernel
theorem dL_law_535 : decode cL_law 535 = .ok (.iconst 0, 1) := by decide +kernel
theorem dL_law_536 : decode cL_law 536 = .ok (.ireturn, 1) := by decide +kernel
theorem dL_law_537 : decode cL_law 537 = .ok (.aload_n 1, 1) := by decide +kernel
theorem dL_law_538 : decode cL_law 538 = .ok (.aload_n 0, 1) := by decide +kernel
theorem dL_law_539 : decode cL_law 539 = .ok (.iload_n 3, 1) := by decide +kernel
theorem dL_law_540 : decode cL_law 540 = .ok (.iconst 1, 1) := by decide +kernel
theorem dL_law_541 : decode cL_law 541 = .ok (.iadd, 1) := by decide +kernel
theorem dL_law_542 : decode cL_law 542 = .ok (.iaload, 1) := by decide +kernel
theorem dL_law_543 : decode cL_law 543 = .ok (.invokevirtual 68, 3) := by decide +kernel
theorem dL_law_546 : decode cL_law 546 = .ok (.aload_n 2, 1) := by decide +kernel
theorem dL_law_547 : decode cL_law 547 = .ok (.aload_n 0, 1) := by decide +kernel
theorem dL_law_548 : decode cL_law 548 = .ok (.iload_n 3, 1) := by decide +kernel
theorem dL_law_549 : decode cL_law 549 = .ok (.iconst 1, 1) := by decide +kernel
theorem dL_law_550 : decode cL_law 550 = .ok (.iadd, 1) := by decide +kernel
theorem dL_law_551 : decode cL_law 551 = .ok (.iaload, 1) := by decide +kernel
theorem dL_law_552 : decode cL_law 552 = .ok (.invokevirtual 71, 3) := by decide +kernel
theorem dL_law_555 : decode cL_law 555 = .ok (.if_icmp .eq 198, 3) := by decide +kernel
theorem dL_law_558 : decode cL_law 558 = .ok (.iconst 0, 1) := by decide +kernel
theorem dL_law_559 : decode cL_law 559 = .ok (.ireturn, 1) := by decide +kernel
theorem dL_law_560 : decode cL_law 560 = .ok (.aload_n 1, 1) := by decide +kernel
theorem dL_law_561 : decode cL_law 561 = .ok (.aload_n 0, 1) := by decide +kernel
theorem dL_law_562 : decode cL_law 562 = .ok (.iload_n 3, 1) := by decide +kernel
theorem dL_law_563 : decode cL_law 563 = .ok (.iconst 1, 1) := by decide +kernel
theorem dL_law_564 : decode cL_law 564 = .ok (.iadd, 1) := by decide +kernel
theorem dL_law_565 : decode cL_law 565 = .ok (.iaload, 1) := by decide +kernel
theorem dL_law_566 : decode cL_law 566 = .ok (.invokevirtual 72, 3) := by decide +kernel
theorem dL_law_569 : decode cL_law 569 = .ok (.aload_n 2, 1) := by decide +kernel
theorem dL_law_570 : decode cL_law 570 = .ok (.aload_n 0, 1) := by decide +kernel
theorem dL_law_571 : decode cL_law 571 = .ok (.iload_n 3, 1) := by decide +kernel
theorem dL_law_572 : decode cL_law 572 = .ok (.iconst 1, 1) := by decide +kernel
theorem dL_law_573 : decode cL_law 573 = .ok (.iadd, 1) := by decide +kernel
theorem dL_law_574 : decode cL_law 574 = .ok (.iaload, 1) := by decide +kernel
theorem dL_law_575 : decode cL_law 575 = .ok (.invokevirtual 75, 3) := by decide +kernel
theorem dL_law_578 : decode cL_law 578 = .ok (.if_icmp .eq 175, 3) := by decide +kernel
theorem dL_law_581 : decode cL_law 581 = .ok (.iconst 0, 1) := by decide +kernel
theorem dL_law_582 : decode cL_law 582 = .ok (.ireturn, 1) := by decide +kernel
theorem dL_law_583 : decode cL_law 583 = .ok (.aload_n 1, 1) := by decide +kernel
theorem dL_law_584 : decode cL_law 584 = .ok (.aload_n 0, 1) := by decide +kernel
theorem dL_law_585 : decode cL_law 585 = .ok (.iload_n 3, 1) := by decide +kernel
theorem dL_law_586 : decode cL_law 586 = .ok (.iconst 1, 1) := by decide +kernel
theorem dL_law_587 : decode cL_law 587 = .ok (.iadd, 1) := by decide +kernel
theorem dL_law_588 : decode cL_law 588 = .ok (.iaload, 1) := by decide +kernel
theorem dL_law_589 : decode cL_law 589 = .ok (.aload_n 0, 1) := by decide +kernel
theorem dL_law_590 : decode cL_law 590 = .ok (.iload_n 3, 1) := by decide +kernel
theorem dL_law_591 : decode cL_law 591 = .ok (.iconst 2, 1) := by decide +kernel
theorem dL_law_592 : decode cL_law 592 = .ok (.iadd, 1) := by decide +kernel
theorem dL_law_593 : decode cL_law 593 = .ok (.iaload, 1) := by decide +kernel
theorem dL_law_594 : decode cL_law 594 = .ok (.invokevirtual 76, 3) := by decide +kernel
theorem dL_law_597 : decode cL_law 597 = .ok (.aload_n 2, 1) := by decide +kernel
theorem dL_law_598 : decode cL_law 598 = .ok (.aload_n 0, 1) := by decide +kernel
theorem dL_law_599 : decode cL_law 599 = .ok (.iload_n 3, 1) := by decide +kernel
theorem dL_law_600 : decode cL_law 600 = .ok (.iconst 1, 1) := by decide +kernel
theorem dL_law_601 : decode cL_law 601 = .ok (.iadd, 1) := by decide +kernel
theorem dL_law_602 : decode cL_law 602 = .ok (.iaload, 1) := by decide +kernel
theorem dL_law_603 : decode cL_law 603 = .ok (.aload_n 0, 1) := by decide +kernel
theorem dL_law_604 : decode cL_law 604 = .ok (.iload_n 3, 1) := by decide +kernel
theorem dL_law_605 : decode cL_law 605 = .ok (.iconst 2, 1) := by decide +kernel
theorem dL_law_606 : decode cL_law 606 = .ok (.iadd, 1) := by decide +kernel
theorem dL_law_607 : decode cL_law 607 = .ok (.iaload, 1) := by decide +kernel
theorem dL_law_608 : decode cL_law 608 = .ok (.invokevirtual 79, 3) := by decide +kernel
theorem dL_law_611 : decode cL_law 611 = .ok (.if_icmp .eq 142, 3) := by decide +kernel
theorem dL_law_614 : decode cL_law 614 = .ok (.iconst 0, 1) := by decide +kernel
theorem dL_law_615 : decode cL_law 615 = .ok (.ireturn, 1) := by decide +kernel
theorem dL_law_616 : decode cL_law 616 = .ok (.aload_n 1, 1) := by decide +kernel
theorem dL_law_617 : decode cL_law 617 = .ok (.invokevirtual 80, 3) := by decide +kernel
theorem dL_law_620 : decode cL_law 620 = .ok (.aload_n 2, 1) := by decide +kernel
theorem dL_law_621 : decode cL_law 621 = .ok (.invokevirtual 84, 3) := by decide +kernel
theorem dL_law_624 : decode cL_law 624 = .ok (.if_icmp .eq 129, 3) := by decide +kernel
theorem dL_law_627 : decode cL_law 627 = .ok (.iconst 0, 1) := by decide +kernel
theorem dL_law_628 : decode cL_law 628 = .ok (.ireturn, 1) := by decide +kernel
theorem dL_law_629 : decode cL_law 629 = .ok (.aload_n 1, 1) := by decide +kernel
theorem dL_law_630 : decode cL_law 630 = .ok (.invokevirtual 85, 3) := by decide +kernel
theorem dL_law_633 : decode cL_law 633 = .ok (.aload_n 2, 1) := by decide +kernel
theorem dL_law_634 : decode cL_law 634 = .ok (.invokevirtual 88, 3) := by decide +kernel
theorem dL_law_637 : decode cL_law 637 = .ok (.if_icmp .eq 116, 3) := by decide +kernel
theorem dL_law_640 : decode cL_law 640 = .ok (.iconst 0, 1) := by decide +kernel
theorem dL_law_641 : decode cL_law 641 = .ok (.ireturn, 1) := by decide +kernel
theorem dL_law_642 : decode cL_law 642 = .ok (.aload_n 1, 1) := by decide +kernel
theorem dL_law_643 : decode cL_law 643 = .ok (.invokevirtual 89, 3) := by decide +kernel
theorem dL_law_646 : decode cL_law 646 = .ok (.aload_n 2, 1) := by decide +kernel
theorem dL_law_647 : decode cL_law 647 = .ok (.invokevirtual 92, 3) := by decide +kernel
theorem dL_law_650 : decode cL_law 650 = .ok (.if_icmp .eq 103, 3) := by decide +kernel
theorem dL_law_653 : decode cL_law 653 = .ok (.iconst 0, 1) := by decide +kernel
theorem dL_law_654 : decode cL_law 654 = .ok (.ireturn, 1) := by decide +kernel
theorem dL_law_655 : decode cL_law 655 = .ok (.aload_n 1, 1) := by decide +kernel
theorem dL_law_656 : decode cL_law 656 = .ok (.invokevirtual 93, 3) := by decide +kernel
theorem dL_law_659 : decode cL_law 659 = .ok (.aload_n 2, 1) := by decide +kernel
theorem dL_law_660 : decode cL_law 660 = .ok (.invokevirtual 96, 3) := by decide +kernel
theorem dL_law_663 : decode cL_law 663 = .ok (.if_icmp .eq 90, 3) := by decide +kernel
theorem dL_law_666 : decode cL_law 666 = .ok (.iconst 0, 1) := by decide +kernel
theorem dL_law_667 : decode cL_law 667 = .ok (.ireturn, 1) := by decide +kernel
theorem dL_law_668 : decode cL_law 668 = .ok (.aload_n 1, 1) := by decide +kernel
theorem dL_law_669 : decode cL_law 669 = .ok (.invokevirtual 97, 3) := by decide +kernel
theorem dL_law_672 : decode cL_law 672 = .ok (.aload_n 2, 1) := by decide +kernel
theorem dL_law_673 : decode cL_law 673 = .ok (.invokevirtual 100, 3) := by decide +kernel
theorem dL_law_676 : decode cL_law 676 = .ok (.if_icmp .eq 77, 3) := by decide +kernel
theorem dL_law_679 : decode cL_law 679 = .ok (.iconst 0, 1) := by decide +kernel
theorem dL_law_680 : decode cL_law 680 = .ok (.ireturn, 1) := by decide +kernel
theorem dL_law_681 : decode cL_law 681 = .ok (.aload_n 1, 1) := by decide +kernel
theorem dL_law_682 : decode cL_law 682 = .ok (.aload_n 0, 1) := by decide +kernel
theorem dL_law_683 : decode cL_law 683 = .ok (.iload_n 3, 1) := by decide +kernel
theorem dL_law_684 : decode cL_law 684 = .ok (.iconst 1, 1) := by decide +kernel
theorem dL_law_685 : decode cL_law 685 = .ok (.iadd, 1) := by decide +kernel
theorem dL_law_686 : decode cL_law 686 = .ok (.iaload, 1) := by decide +kernel
theorem dL_law_687 : decode cL_law 687 = .ok (.invokevirtual 101, 3) := by decide +kernel
theorem dL_law_690 : decode cL_law 690 = .ok (.aload_n 2, 1) := by decide +kernel
theorem dL_law_691 : decode cL_law 691 = .ok (.aload_n 0, 1) := by decide +kernel
theorem dL_law_692 : decode cL_law 692 = .ok (.iload_n 3, 1) := by decide +kernel
theorem dL_law_693 : decode cL_law 693 = .ok (.iconst 1, 1) := by decide +kernel
theorem dL_law_694 : decode cL_law 694 = .ok (.iadd, 1) := by decide +kernel
theorem dL_law_695 : decode cL_law 695 = .ok (.iaload, 1) := by decide +kernel
theorem dL_law_696 : decode cL_law 696 = .ok (.invokevirtual 104, 3) := by decide +kernel
theorem dL_law_699 : decode cL_law 699 = .ok (.if_icmp .eq 54, 3) := by decide +kernel
theorem dL_law_702 : decode cL_law 702 = .ok (.iconst 0, 1) := by decide +kernel
theorem dL_law_703 : decode cL_law 703 = .ok (.ireturn, 1) := by decide +kernel
theorem dL_law_704 : decode cL_law 704 = .ok (.aload_n 1, 1) := by decide +kernel
theorem dL_law_705 : decode cL_law 705 = .ok (.invokevirtual 105, 3) := by decide +kernel
theorem dL_law_708 : decode cL_law 708 = .ok (.aload_n 2, 1) := by decide +kernel
theorem dL_law_709 : decode cL_law 709 = .ok (.invokevirtual 108, 3) := by decide +kernel
theorem dL_law_712 : decode cL_law 712 = .ok (.if_icmp .eq 41, 3) := by decide +kernel
theorem dL_law_715 : decode cL_law 715 = .ok (.iconst 0, 1) := by decide +kernel
theorem dL_law_716 : decode cL_law 716 = .ok (.ireturn, 1) := by decide +kernel
theorem dL_law_717 : decode cL_law 717 = .ok (.aload_n 1, 1) := by decide +kernel
theorem dL_law_718 : decode cL_law 718 = .ok (.aload_n 0, 1) := by decide +kernel
theorem dL_law_719 : decode cL_law 719 = .ok (.iload_n 3, 1) := by decide +kernel
theorem dL_law_720 : decode cL_law 720 = .ok (.iconst 1, 1) := by decide +kernel
theorem dL_law_721 : decode cL_law 721 = .ok (.iadd, 1) := by decide +kernel
theorem dL_law_722 : decode cL_law 722 = .ok (.iaload, 1) := by decide +kernel
theorem dL_law_723 : decode cL_law 723 = .ok (.invokevirtual 109, 3) := by decide +kernel
theorem dL_law_726 : decode cL_law 726 = .ok (.aload_n 2, 1) := by decide +kernel
theorem dL_law_727 : decode cL_law 727 = .ok (.aload_n 0, 1) := by decide +kernel
theorem dL_law_728 : decode cL_law 728 = .ok (.iload_n 3, 1) := by decide +kernel
theorem dL_law_729 : decode cL_law 729 = .ok (.iconst 1, 1) := by decide +kernel
theorem dL_law_730 : decode cL_law 730 = .ok (.iadd, 1) := by decide +kernel
theorem dL_law_731 : decode cL_law 731 = .ok (.iaload, 1) := by decide +kernel
theorem dL_law_732 : decode cL_law 732 = .ok (.invokevirtual 112, 3) := by decide +kernel
theorem dL_law_735 : decode cL_law 735 = .ok (.if_icmp .eq 18, 3) := by decide +kernel
theorem dL_law_738 : decode cL_law 738 = .ok (.iconst 0, 1) := by decide +kernel
theorem dL_law_739 : decode cL_law 739 = .ok (.ireturn, 1) := by decide +kernel
theorem dL_law_740 : decode cL_law 740 = .ok (.aload_n 1, 1) := by decide +kernel
theorem dL_law_741 : decode cL_law 741 = .ok (.invokevirtual 113, 3) := by decide +kernel
theorem dL_law_744 : decode cL_law 744 = .ok (.aload_n 2, 1) := by decide +kernel
theorem dL_law_745 : decode cL_law 745 = .ok (.invokevirtual 116, 3) := by decide +kernel
theorem dL_law_748 : decode cL_law 748 = .ok (.if_icmp .eq 5, 3) := by decide +kernel
theorem dL_law_751 : decode cL_law 751 = .ok (.iconst 0, 1) := by decide +kernel
theorem dL_law_752 : decode cL_law 752 = .ok (.ireturn, 1) := by decide +kernel
theorem dL_law_753 : decode cL_law 753 = .ok (.iinc 3 4, 3) := by decide +kernel
theorem dL_law_756 : decode cL_law 756 = .ok (.goto (-738), 3) := by decide +kernel
theorem dL_law_759 : decode cL_law 759 = .ok (.iconst 1, 1) := by decide +kernel
theorem dL_law_760 : decode cL_law 760 = .ok (.ireturn, 1) := by decide +kernel
end
section
theorem zz_last : True := trivial
end
