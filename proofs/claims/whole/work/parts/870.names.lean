/-- a private method of a class that the tables say can be made, by its rows of tables_1 -/
def lw_okq (q : MethodName × Nat) : Prop := (q.1.cls ≠ "java/lang/invoke/MethodHandle" ∧ q.1.cls ≠ "java/lang/invoke/VarHandle") ∧ Cond.instantiable q.1.cls q.2 ∈ tables_1 ∧ Cond.privateMethod q.1 ∈ tables_1 ∧ Cond.instanceMethod q.1 ∈ tables_1
theorem lw_p0 : lw_okq (⟨"ThirdHands", "feedNumber", "(I)V"⟩, 16) := ⟨⟨by decide +kernel, by decide +kernel⟩, List.mem_of_getElem? (i := 27) (by decide +kernel), List.mem_of_getElem? (i := 626) (by decide +kernel), List.mem_of_getElem? (i := 627) (by decide +kernel)⟩
theorem lw_p1 : lw_okq (⟨"ThirdHands", "takeTape", "()I"⟩, 16) := ⟨⟨by decide +kernel, by decide +kernel⟩, List.mem_of_getElem? (i := 27) (by decide +kernel), List.mem_of_getElem? (i := 638) (by decide +kernel), List.mem_of_getElem? (i := 639) (by decide +kernel)⟩
theorem lw_p2 : lw_okq (⟨"ThirdHands$Tokens", "takeRun", "(II)V"⟩, 9) := ⟨⟨by decide +kernel, by decide +kernel⟩, List.mem_of_getElem? (i := 35) (by decide +kernel), List.mem_of_getElem? (i := 659) (by decide +kernel), List.mem_of_getElem? (i := 660) (by decide +kernel)⟩
theorem lw_p3 : lw_okq (⟨"ThirdHands$Tokens", "takeWord", "(I)V"⟩, 9) := ⟨⟨by decide +kernel, by decide +kernel⟩, List.mem_of_getElem? (i := 35) (by decide +kernel), List.mem_of_getElem? (i := 663) (by decide +kernel), List.mem_of_getElem? (i := 664) (by decide +kernel)⟩
theorem lw_p4 : lw_okq (⟨"ThirdHands$Village", "clear", "()V"⟩, 18) := ⟨⟨by decide +kernel, by decide +kernel⟩, List.mem_of_getElem? (i := 124) (by decide +kernel), List.mem_of_getElem? (i := 671) (by decide +kernel), List.mem_of_getElem? (i := 672) (by decide +kernel)⟩
theorem lw_p5 : lw_okq (⟨"ThirdHands$Village", "line", "(LThirdHands$Tokens;)Z"⟩, 18) := ⟨⟨by decide +kernel, by decide +kernel⟩, List.mem_of_getElem? (i := 124) (by decide +kernel), List.mem_of_getElem? (i := 675) (by decide +kernel), List.mem_of_getElem? (i := 676) (by decide +kernel)⟩
theorem lw_p6 : lw_okq (⟨"ThirdHands$Village", "whoLine", "(LThirdHands$Tokens;)Z"⟩, 18) := ⟨⟨by decide +kernel, by decide +kernel⟩, List.mem_of_getElem? (i := 124) (by decide +kernel), List.mem_of_getElem? (i := 683) (by decide +kernel), List.mem_of_getElem? (i := 684) (by decide +kernel)⟩
theorem lw_p7 : lw_okq (⟨"ThirdHands$Village", "isNewName", "(LThirdHands$Tokens;)Z"⟩, 18) := ⟨⟨by decide +kernel, by decide +kernel⟩, List.mem_of_getElem? (i := 124) (by decide +kernel), List.mem_of_getElem? (i := 692) (by decide +kernel), List.mem_of_getElem? (i := 693) (by decide +kernel)⟩
theorem lw_p8 : lw_okq (⟨"ThirdHands$Village", "join", "(I)V"⟩, 18) := ⟨⟨by decide +kernel, by decide +kernel⟩, List.mem_of_getElem? (i := 124) (by decide +kernel), List.mem_of_getElem? (i := 717) (by decide +kernel), List.mem_of_getElem? (i := 718) (by decide +kernel)⟩
theorem lw_p9 : lw_okq (⟨"ThirdHands$Village", "sortLine", "(LThirdHands$Tokens;)Z"⟩, 18) := ⟨⟨by decide +kernel, by decide +kernel⟩, List.mem_of_getElem? (i := 124) (by decide +kernel), List.mem_of_getElem? (i := 721) (by decide +kernel), List.mem_of_getElem? (i := 722) (by decide +kernel)⟩
theorem lw_p10 : lw_okq (⟨"ThirdHands$Village", "makesLine", "(LThirdHands$Tokens;)Z"⟩, 18) := ⟨⟨by decide +kernel, by decide +kernel⟩, List.mem_of_getElem? (i := 124) (by decide +kernel), List.mem_of_getElem? (i := 725) (by decide +kernel), List.mem_of_getElem? (i := 726) (by decide +kernel)⟩
theorem lw_p11 : lw_okq (⟨"ThirdHands$Village", "takePerson", "(LThirdHands$Tokens;I)I"⟩, 18) := ⟨⟨by decide +kernel, by decide +kernel⟩, List.mem_of_getElem? (i := 124) (by decide +kernel), List.mem_of_getElem? (i := 729) (by decide +kernel), List.mem_of_getElem? (i := 730) (by decide +kernel)⟩
theorem lw_p12 : lw_okq (⟨"ThirdHands$Village", "takeSort", "(LThirdHands$Tokens;)I"⟩, 18) := ⟨⟨by decide +kernel, by decide +kernel⟩, List.mem_of_getElem? (i := 124) (by decide +kernel), List.mem_of_getElem? (i := 737) (by decide +kernel), List.mem_of_getElem? (i := 738) (by decide +kernel)⟩
theorem lw_p13 : lw_okq (⟨"ThirdHands$Village", "addUnit", "(IIIII)V"⟩, 18) := ⟨⟨by decide +kernel, by decide +kernel⟩, List.mem_of_getElem? (i := 124) (by decide +kernel), List.mem_of_getElem? (i := 741) (by decide +kernel), List.mem_of_getElem? (i := 742) (by decide +kernel)⟩
theorem lw_p14 : lw_okq (⟨"ThirdHands$Village", "wantsLine", "(LThirdHands$Tokens;)Z"⟩, 18) := ⟨⟨by decide +kernel, by decide +kernel⟩, List.mem_of_getElem? (i := 124) (by decide +kernel), List.mem_of_getElem? (i := 745) (by decide +kernel), List.mem_of_getElem? (i := 746) (by decide +kernel)⟩
theorem lw_p15 : lw_okq (⟨"ThirdHands$Village", "givesLine", "(LThirdHands$Tokens;)Z"⟩, 18) := ⟨⟨by decide +kernel, by decide +kernel⟩, List.mem_of_getElem? (i := 124) (by decide +kernel), List.mem_of_getElem? (i := 749) (by decide +kernel), List.mem_of_getElem? (i := 750) (by decide +kernel)⟩
def lw_privs_1 : List (MethodName × Nat) := [(⟨"ThirdHands", "feedNumber", "(I)V"⟩, 16), (⟨"ThirdHands", "takeTape", "()I"⟩, 16), (⟨"ThirdHands$Tokens", "takeRun", "(II)V"⟩, 9), (⟨"ThirdHands$Tokens", "takeWord", "(I)V"⟩, 9), (⟨"ThirdHands$Village", "clear", "()V"⟩, 18), (⟨"ThirdHands$Village", "line", "(LThirdHands$Tokens;)Z"⟩, 18), (⟨"ThirdHands$Village", "whoLine", "(LThirdHands$Tokens;)Z"⟩, 18), (⟨"ThirdHands$Village", "isNewName", "(LThirdHands$Tokens;)Z"⟩, 18), (⟨"ThirdHands$Village", "join", "(I)V"⟩, 18), (⟨"ThirdHands$Village", "sortLine", "(LThirdHands$Tokens;)Z"⟩, 18), (⟨"ThirdHands$Village", "makesLine", "(LThirdHands$Tokens;)Z"⟩, 18), (⟨"ThirdHands$Village", "takePerson", "(LThirdHands$Tokens;I)I"⟩, 18), (⟨"ThirdHands$Village", "takeSort", "(LThirdHands$Tokens;)I"⟩, 18), (⟨"ThirdHands$Village", "addUnit", "(IIIII)V"⟩, 18), (⟨"ThirdHands$Village", "wantsLine", "(LThirdHands$Tokens;)Z"⟩, 18), (⟨"ThirdHands$Village", "givesLine", "(LThirdHands$Tokens;)Z"⟩, 18)]
theorem lw_r1 : ∀ q ∈ lw_privs_1, lw_okq q := List.forall_mem_cons.mpr ⟨lw_p0, List.forall_mem_cons.mpr ⟨lw_p1, List.forall_mem_cons.mpr ⟨lw_p2, List.forall_mem_cons.mpr ⟨lw_p3, List.forall_mem_cons.mpr ⟨lw_p4, List.forall_mem_cons.mpr ⟨lw_p5, List.forall_mem_cons.mpr ⟨lw_p6, List.forall_mem_cons.mpr ⟨lw_p7, List.forall_mem_cons.mpr ⟨lw_p8, List.forall_mem_cons.mpr ⟨lw_p9, List.forall_mem_cons.mpr ⟨lw_p10, List.forall_mem_cons.mpr ⟨lw_p11, List.forall_mem_cons.mpr ⟨lw_p12, List.forall_mem_cons.mpr ⟨lw_p13, List.forall_mem_cons.mpr ⟨lw_p14, List.forall_mem_cons.mpr ⟨lw_p15, fun _ h => absurd h List.not_mem_nil⟩⟩⟩⟩⟩⟩⟩⟩⟩⟩⟩⟩⟩⟩⟩⟩
theorem lw_p16 : lw_okq (⟨"ThirdHands$Village", "lawLine", "(LThirdHands$Tokens;)Z"⟩, 18) := ⟨⟨by decide +kernel, by decide +kernel⟩, List.mem_of_getElem? (i := 124) (by decide +kernel), List.mem_of_getElem? (i := 753) (by decide +kernel), List.mem_of_getElem? (i := 754) (by decide +kernel)⟩
theorem lw_p17 : lw_okq (⟨"ThirdHands", "asTold", "()LThirdHands$Meeting;"⟩, 16) := ⟨⟨by decide +kernel, by decide +kernel⟩, List.mem_of_getElem? (i := 27) (by decide +kernel), List.mem_of_getElem? (i := 800) (by decide +kernel), List.mem_of_getElem? (i := 801) (by decide +kernel)⟩
theorem lw_p18 : lw_okq (⟨"ThirdHands$Ways", "measureRooms", "()V"⟩, 16) := ⟨⟨by decide +kernel, by decide +kernel⟩, List.mem_of_getElem? (i := 317) (by decide +kernel), List.mem_of_getElem? (i := 831) (by decide +kernel), List.mem_of_getElem? (i := 832) (by decide +kernel)⟩
theorem lw_p19 : lw_okq (⟨"ThirdHands$Ways", "onward", "(I)V"⟩, 16) := ⟨⟨by decide +kernel, by decide +kernel⟩, List.mem_of_getElem? (i := 317) (by decide +kernel), List.mem_of_getElem? (i := 844) (by decide +kernel), List.mem_of_getElem? (i := 845) (by decide +kernel)⟩
theorem lw_p20 : lw_okq (⟨"ThirdHands$Ways", "arrive", "(I)V"⟩, 16) := ⟨⟨by decide +kernel, by decide +kernel⟩, List.mem_of_getElem? (i := 317) (by decide +kernel), List.mem_of_getElem? (i := 848) (by decide +kernel), List.mem_of_getElem? (i := 849) (by decide +kernel)⟩
theorem lw_p21 : lw_okq (⟨"ThirdHands$Ways", "step", "(III)V"⟩, 16) := ⟨⟨by decide +kernel, by decide +kernel⟩, List.mem_of_getElem? (i := 317) (by decide +kernel), List.mem_of_getElem? (i := 862) (by decide +kernel), List.mem_of_getElem? (i := 863) (by decide +kernel)⟩
theorem lw_p22 : lw_okq (⟨"ThirdHands$Meeting", "choose", "(I)V"⟩, 9) := ⟨⟨by decide +kernel, by decide +kernel⟩, List.mem_of_getElem? (i := 315) (by decide +kernel), List.mem_of_getElem? (i := 866) (by decide +kernel), List.mem_of_getElem? (i := 867) (by decide +kernel)⟩
theorem lw_p23 : lw_okq (⟨"ThirdHands$Meeting", "takenAsking", "(II)J"⟩, 9) := ⟨⟨by decide +kernel, by decide +kernel⟩, List.mem_of_getElem? (i := 315) (by decide +kernel), List.mem_of_getElem? (i := 871) (by decide +kernel), List.mem_of_getElem? (i := 872) (by decide +kernel)⟩
theorem lw_p24 : lw_okq (⟨"ThirdHands$Meeting", "solve", "()V"⟩, 9) := ⟨⟨by decide +kernel, by decide +kernel⟩, List.mem_of_getElem? (i := 315) (by decide +kernel), List.mem_of_getElem? (i := 880) (by decide +kernel), List.mem_of_getElem? (i := 881) (by decide +kernel)⟩
theorem lw_p25 : lw_okq (⟨"ThirdHands$Meeting", "bestOfSort", "(I)J"⟩, 9) := ⟨⟨by decide +kernel, by decide +kernel⟩, List.mem_of_getElem? (i := 315) (by decide +kernel), List.mem_of_getElem? (i := 884) (by decide +kernel), List.mem_of_getElem? (i := 885) (by decide +kernel)⟩
theorem lw_p26 : lw_okq (⟨"ThirdHands$Meeting", "meetBy", "(II)V"⟩, 9) := ⟨⟨by decide +kernel, by decide +kernel⟩, List.mem_of_getElem? (i := 315) (by decide +kernel), List.mem_of_getElem? (i := 898) (by decide +kernel), List.mem_of_getElem? (i := 899) (by decide +kernel)⟩
theorem lw_p27 : lw_okq (⟨"ThirdHands$Meeting", "appraise", "(I)I"⟩, 9) := ⟨⟨by decide +kernel, by decide +kernel⟩, List.mem_of_getElem? (i := 315) (by decide +kernel), List.mem_of_getElem? (i := 902) (by decide +kernel), List.mem_of_getElem? (i := 903) (by decide +kernel)⟩
theorem lw_p28 : lw_okq (⟨"ThirdHands$Meeting", "lookAround", "()V"⟩, 9) := ⟨⟨by decide +kernel, by decide +kernel⟩, List.mem_of_getElem? (i := 315) (by decide +kernel), List.mem_of_getElem? (i := 957) (by decide +kernel), List.mem_of_getElem? (i := 958) (by decide +kernel)⟩
theorem lw_p29 : lw_okq (⟨"ThirdHands$Plan", "readAct", "(LThirdHands$Tokens;LThirdHands$Village;)Z"⟩, 5) := ⟨⟨by decide +kernel, by decide +kernel⟩, List.mem_of_getElem? (i := 227) (by decide +kernel), List.mem_of_getElem? (i := 1010) (by decide +kernel), List.mem_of_getElem? (i := 1011) (by decide +kernel)⟩
theorem lw_p30 : lw_okq (⟨"ThirdHands$Plan", "add", "(III)V"⟩, 5) := ⟨⟨by decide +kernel, by decide +kernel⟩, List.mem_of_getElem? (i := 227) (by decide +kernel), List.mem_of_getElem? (i := 1019) (by decide +kernel), List.mem_of_getElem? (i := 1020) (by decide +kernel)⟩
theorem lw_p31 : lw_okq (⟨"ThirdHands$Plan", "next", "(I)I"⟩, 5) := ⟨⟨by decide +kernel, by decide +kernel⟩, List.mem_of_getElem? (i := 227) (by decide +kernel), List.mem_of_getElem? (i := 1039) (by decide +kernel), List.mem_of_getElem? (i := 1040) (by decide +kernel)⟩
def lw_privs_2 : List (MethodName × Nat) := [(⟨"ThirdHands$Village", "lawLine", "(LThirdHands$Tokens;)Z"⟩, 18), (⟨"ThirdHands", "asTold", "()LThirdHands$Meeting;"⟩, 16), (⟨"ThirdHands$Ways", "measureRooms", "()V"⟩, 16), (⟨"ThirdHands$Ways", "onward", "(I)V"⟩, 16), (⟨"ThirdHands$Ways", "arrive", "(I)V"⟩, 16), (⟨"ThirdHands$Ways", "step", "(III)V"⟩, 16), (⟨"ThirdHands$Meeting", "choose", "(I)V"⟩, 9), (⟨"ThirdHands$Meeting", "takenAsking", "(II)J"⟩, 9), (⟨"ThirdHands$Meeting", "solve", "()V"⟩, 9), (⟨"ThirdHands$Meeting", "bestOfSort", "(I)J"⟩, 9), (⟨"ThirdHands$Meeting", "meetBy", "(II)V"⟩, 9), (⟨"ThirdHands$Meeting", "appraise", "(I)I"⟩, 9), (⟨"ThirdHands$Meeting", "lookAround", "()V"⟩, 9), (⟨"ThirdHands$Plan", "readAct", "(LThirdHands$Tokens;LThirdHands$Village;)Z"⟩, 5), (⟨"ThirdHands$Plan", "add", "(III)V"⟩, 5), (⟨"ThirdHands$Plan", "next", "(I)I"⟩, 5)]
theorem lw_r2 : ∀ q ∈ lw_privs_2, lw_okq q := List.forall_mem_cons.mpr ⟨lw_p16, List.forall_mem_cons.mpr ⟨lw_p17, List.forall_mem_cons.mpr ⟨lw_p18, List.forall_mem_cons.mpr ⟨lw_p19, List.forall_mem_cons.mpr ⟨lw_p20, List.forall_mem_cons.mpr ⟨lw_p21, List.forall_mem_cons.mpr ⟨lw_p22, List.forall_mem_cons.mpr ⟨lw_p23, List.forall_mem_cons.mpr ⟨lw_p24, List.forall_mem_cons.mpr ⟨lw_p25, List.forall_mem_cons.mpr ⟨lw_p26, List.forall_mem_cons.mpr ⟨lw_p27, List.forall_mem_cons.mpr ⟨lw_p28, List.forall_mem_cons.mpr ⟨lw_p29, List.forall_mem_cons.mpr ⟨lw_p30, List.forall_mem_cons.mpr ⟨lw_p31, fun _ h => absurd h List.not_mem_nil⟩⟩⟩⟩⟩⟩⟩⟩⟩⟩⟩⟩⟩⟩⟩⟩
theorem lw_p32 : lw_okq (⟨"ThirdHands$Day", "begin", "(LThirdHands$Village;)V"⟩, 12) := ⟨⟨by decide +kernel, by decide +kernel⟩, List.mem_of_getElem? (i := 460) (by decide +kernel), List.mem_of_getElem? (i := 1052) (by decide +kernel), List.mem_of_getElem? (i := 1053) (by decide +kernel)⟩
theorem lw_p33 : lw_okq (⟨"ThirdHands$Day", "doAct", "(LThirdHands$Village;III)I"⟩, 12) := ⟨⟨by decide +kernel, by decide +kernel⟩, List.mem_of_getElem? (i := 460) (by decide +kernel), List.mem_of_getElem? (i := 1057) (by decide +kernel), List.mem_of_getElem? (i := 1058) (by decide +kernel)⟩
theorem lw_p34 : lw_okq (⟨"ThirdHands$Day", "give", "(LThirdHands$Village;II)I"⟩, 12) := ⟨⟨by decide +kernel, by decide +kernel⟩, List.mem_of_getElem? (i := 460) (by decide +kernel), List.mem_of_getElem? (i := 1061) (by decide +kernel), List.mem_of_getElem? (i := 1062) (by decide +kernel)⟩
theorem lw_p35 : lw_okq (⟨"ThirdHands$Day", "giver", "(LThirdHands$Village;II)I"⟩, 12) := ⟨⟨by decide +kernel, by decide +kernel⟩, List.mem_of_getElem? (i := 460) (by decide +kernel), List.mem_of_getElem? (i := 1065) (by decide +kernel), List.mem_of_getElem? (i := 1066) (by decide +kernel)⟩
theorem lw_p36 : lw_okq (⟨"ThirdHands$Day", "use", "(LThirdHands$Village;I)I"⟩, 12) := ⟨⟨by decide +kernel, by decide +kernel⟩, List.mem_of_getElem? (i := 460) (by decide +kernel), List.mem_of_getElem? (i := 1072) (by decide +kernel), List.mem_of_getElem? (i := 1073) (by decide +kernel)⟩
theorem lw_p37 : lw_okq (⟨"ThirdHands$Day", "wantMet", "(LThirdHands$Village;I)I"⟩, 12) := ⟨⟨by decide +kernel, by decide +kernel⟩, List.mem_of_getElem? (i := 460) (by decide +kernel), List.mem_of_getElem? (i := 1076) (by decide +kernel), List.mem_of_getElem? (i := 1077) (by decide +kernel)⟩
theorem lw_p38 : lw_okq (⟨"ThirdHands$Day", "close", "(LThirdHands$Village;)V"⟩, 12) := ⟨⟨by decide +kernel, by decide +kernel⟩, List.mem_of_getElem? (i := 460) (by decide +kernel), List.mem_of_getElem? (i := 1081) (by decide +kernel), List.mem_of_getElem? (i := 1082) (by decide +kernel)⟩
theorem lw_p39 : lw_okq (⟨"ThirdHands", "supposing", "()LThirdHands$Meeting;"⟩, 16) := ⟨⟨by decide +kernel, by decide +kernel⟩, List.mem_of_getElem? (i := 27) (by decide +kernel), List.mem_of_getElem? (i := 1097) (by decide +kernel), List.mem_of_getElem? (i := 1098) (by decide +kernel)⟩
theorem lw_p40 : lw_okq (⟨"ThirdHands", "askAnew", "(LThirdHands$Meeting;)Z"⟩, 16) := ⟨⟨by decide +kernel, by decide +kernel⟩, List.mem_of_getElem? (i := 27) (by decide +kernel), List.mem_of_getElem? (i := 1111) (by decide +kernel), List.mem_of_getElem? (i := 1112) (by decide +kernel)⟩
theorem lw_p41 : lw_okq (⟨"ThirdHands$Meeting", "timesMet", "(I)I"⟩, 9) := ⟨⟨by decide +kernel, by decide +kernel⟩, List.mem_of_getElem? (i := 315) (by decide +kernel), List.mem_of_getElem? (i := 1119) (by decide +kernel), List.mem_of_getElem? (i := 1120) (by decide +kernel)⟩
theorem lw_p42 : lw_okq (⟨"ThirdHands$Ring", "painsFrom", "(I)I"⟩, 4) := ⟨⟨by decide +kernel, by decide +kernel⟩, List.mem_of_getElem? (i := 513) (by decide +kernel), List.mem_of_getElem? (i := 1158) (by decide +kernel), List.mem_of_getElem? (i := 1159) (by decide +kernel)⟩
theorem lw_p43 : lw_okq (⟨"ThirdHands$Ring", "at", "(I)I"⟩, 4) := ⟨⟨by decide +kernel, by decide +kernel⟩, List.mem_of_getElem? (i := 513) (by decide +kernel), List.mem_of_getElem? (i := 1162) (by decide +kernel), List.mem_of_getElem? (i := 1163) (by decide +kernel)⟩
theorem lw_p44 : lw_okq (⟨"ThirdHands$Ring", "spot", "(I)I"⟩, 4) := ⟨⟨by decide +kernel, by decide +kernel⟩, List.mem_of_getElem? (i := 513) (by decide +kernel), List.mem_of_getElem? (i := 1166) (by decide +kernel), List.mem_of_getElem? (i := 1167) (by decide +kernel)⟩
theorem lw_p45 : lw_okq (⟨"ThirdHands$Ring", "madeBy", "(I)I"⟩, 4) := ⟨⟨by decide +kernel, by decide +kernel⟩, List.mem_of_getElem? (i := 513) (by decide +kernel), List.mem_of_getElem? (i := 1175) (by decide +kernel), List.mem_of_getElem? (i := 1176) (by decide +kernel)⟩
theorem lw_p46 : lw_okq (⟨"ThirdHands$Ring", "goes", "(II)Z"⟩, 4) := ⟨⟨by decide +kernel, by decide +kernel⟩, List.mem_of_getElem? (i := 513) (by decide +kernel), List.mem_of_getElem? (i := 1180) (by decide +kernel), List.mem_of_getElem? (i := 1181) (by decide +kernel)⟩
theorem lw_p47 : lw_okq (⟨"ThirdHands$Ring", "send", "(II)V"⟩, 4) := ⟨⟨by decide +kernel, by decide +kernel⟩, List.mem_of_getElem? (i := 513) (by decide +kernel), List.mem_of_getElem? (i := 1186) (by decide +kernel), List.mem_of_getElem? (i := 1187) (by decide +kernel)⟩
def lw_privs_3 : List (MethodName × Nat) := [(⟨"ThirdHands$Day", "begin", "(LThirdHands$Village;)V"⟩, 12), (⟨"ThirdHands$Day", "doAct", "(LThirdHands$Village;III)I"⟩, 12), (⟨"ThirdHands$Day", "give", "(LThirdHands$Village;II)I"⟩, 12), (⟨"ThirdHands$Day", "giver", "(LThirdHands$Village;II)I"⟩, 12), (⟨"ThirdHands$Day", "use", "(LThirdHands$Village;I)I"⟩, 12), (⟨"ThirdHands$Day", "wantMet", "(LThirdHands$Village;I)I"⟩, 12), (⟨"ThirdHands$Day", "close", "(LThirdHands$Village;)V"⟩, 12), (⟨"ThirdHands", "supposing", "()LThirdHands$Meeting;"⟩, 16), (⟨"ThirdHands", "askAnew", "(LThirdHands$Meeting;)Z"⟩, 16), (⟨"ThirdHands$Meeting", "timesMet", "(I)I"⟩, 9), (⟨"ThirdHands$Ring", "painsFrom", "(I)I"⟩, 4), (⟨"ThirdHands$Ring", "at", "(I)I"⟩, 4), (⟨"ThirdHands$Ring", "spot", "(I)I"⟩, 4), (⟨"ThirdHands$Ring", "madeBy", "(I)I"⟩, 4), (⟨"ThirdHands$Ring", "goes", "(II)Z"⟩, 4), (⟨"ThirdHands$Ring", "send", "(II)V"⟩, 4)]
theorem lw_r3 : ∀ q ∈ lw_privs_3, lw_okq q := List.forall_mem_cons.mpr ⟨lw_p32, List.forall_mem_cons.mpr ⟨lw_p33, List.forall_mem_cons.mpr ⟨lw_p34, List.forall_mem_cons.mpr ⟨lw_p35, List.forall_mem_cons.mpr ⟨lw_p36, List.forall_mem_cons.mpr ⟨lw_p37, List.forall_mem_cons.mpr ⟨lw_p38, List.forall_mem_cons.mpr ⟨lw_p39, List.forall_mem_cons.mpr ⟨lw_p40, List.forall_mem_cons.mpr ⟨lw_p41, List.forall_mem_cons.mpr ⟨lw_p42, List.forall_mem_cons.mpr ⟨lw_p43, List.forall_mem_cons.mpr ⟨lw_p44, List.forall_mem_cons.mpr ⟨lw_p45, List.forall_mem_cons.mpr ⟨lw_p46, List.forall_mem_cons.mpr ⟨lw_p47, fun _ h => absurd h List.not_mem_nil⟩⟩⟩⟩⟩⟩⟩⟩⟩⟩⟩⟩⟩⟩⟩⟩
theorem lw_p48 : lw_okq (⟨"ThirdHands$Ring", "worth", "(II)I"⟩, 4) := ⟨⟨by decide +kernel, by decide +kernel⟩, List.mem_of_getElem? (i := 513) (by decide +kernel), List.mem_of_getElem? (i := 1190) (by decide +kernel), List.mem_of_getElem? (i := 1191) (by decide +kernel)⟩
theorem lw_p49 : lw_okq (⟨"ThirdHands", "mendedMost", "(LThirdHands$Meeting;I)I"⟩, 16) := ⟨⟨by decide +kernel, by decide +kernel⟩, List.mem_of_getElem? (i := 27) (by decide +kernel), List.mem_of_getElem? (i := 1235) (by decide +kernel), List.mem_of_getElem? (i := 1236) (by decide +kernel)⟩
theorem lw_p50 : lw_okq (⟨"ThirdHands", "livesBy", "(LThirdHands$Meeting;I)Z"⟩, 16) := ⟨⟨by decide +kernel, by decide +kernel⟩, List.mem_of_getElem? (i := 27) (by decide +kernel), List.mem_of_getElem? (i := 1248) (by decide +kernel), List.mem_of_getElem? (i := 1249) (by decide +kernel)⟩
theorem lw_p51 : lw_okq (⟨"ThirdHands", "stopsBy", "(LThirdHands$Meeting;I)Z"⟩, 16) := ⟨⟨by decide +kernel, by decide +kernel⟩, List.mem_of_getElem? (i := 27) (by decide +kernel), List.mem_of_getElem? (i := 1261) (by decide +kernel), List.mem_of_getElem? (i := 1262) (by decide +kernel)⟩
theorem lw_p52 : lw_okq (⟨"ThirdHands$Book", "sort", "(I)I"⟩, 7) := ⟨⟨by decide +kernel, by decide +kernel⟩, List.mem_of_getElem? (i := 257) (by decide +kernel), List.mem_of_getElem? (i := 1285) (by decide +kernel), List.mem_of_getElem? (i := 1286) (by decide +kernel)⟩
theorem lw_p53 : lw_okq (⟨"ThirdHands$Book", "areTrue", "(IIILThirdHands$Village;)Z"⟩, 7) := ⟨⟨by decide +kernel, by decide +kernel⟩, List.mem_of_getElem? (i := 257) (by decide +kernel), List.mem_of_getElem? (i := 1290) (by decide +kernel), List.mem_of_getElem? (i := 1291) (by decide +kernel)⟩
theorem lw_p54 : lw_okq (⟨"java/lang/Throwable", "fillInStackTrace", "(I)Ljava/lang/Throwable;"⟩, 6) := ⟨⟨by decide +kernel, by decide +kernel⟩, List.mem_of_getElem? (i := 1362) (by decide +kernel), List.mem_of_getElem? (i := 1360) (by decide +kernel), List.mem_of_getElem? (i := 1361) (by decide +kernel)⟩
theorem lw_p55 : lw_okq (⟨"ThirdHandsModel", "four", "(I)V"⟩, 80) := ⟨⟨by decide +kernel, by decide +kernel⟩, List.mem_of_getElem? (i := 1418) (by decide +kernel), List.mem_of_getElem? (i := 1416) (by decide +kernel), List.mem_of_getElem? (i := 1417) (by decide +kernel)⟩
theorem lw_p56 : lw_okq (⟨"ThirdHandsModel", "taken", "(I)V"⟩, 80) := ⟨⟨by decide +kernel, by decide +kernel⟩, List.mem_of_getElem? (i := 1418) (by decide +kernel), List.mem_of_getElem? (i := 1693) (by decide +kernel), List.mem_of_getElem? (i := 1694) (by decide +kernel)⟩
theorem lw_p57 : lw_okq (⟨"ThirdHandsModel", "next", "()V"⟩, 80) := ⟨⟨by decide +kernel, by decide +kernel⟩, List.mem_of_getElem? (i := 1418) (by decide +kernel), List.mem_of_getElem? (i := 1697) (by decide +kernel), List.mem_of_getElem? (i := 1698) (by decide +kernel)⟩
theorem lw_p58 : lw_okq (⟨"ThirdHandsModel", "peek", "()I"⟩, 80) := ⟨⟨by decide +kernel, by decide +kernel⟩, List.mem_of_getElem? (i := 1418) (by decide +kernel), List.mem_of_getElem? (i := 1701) (by decide +kernel), List.mem_of_getElem? (i := 1702) (by decide +kernel)⟩
theorem lw_p59 : lw_okq (⟨"ThirdHandsModel", "line", "()Z"⟩, 80) := ⟨⟨by decide +kernel, by decide +kernel⟩, List.mem_of_getElem? (i := 1418) (by decide +kernel), List.mem_of_getElem? (i := 1711) (by decide +kernel), List.mem_of_getElem? (i := 1712) (by decide +kernel)⟩
theorem lw_p60 : lw_okq (⟨"ThirdHandsModel", "isWord", "(J)Z"⟩, 80) := ⟨⟨by decide +kernel, by decide +kernel⟩, List.mem_of_getElem? (i := 1418) (by decide +kernel), List.mem_of_getElem? (i := 1715) (by decide +kernel), List.mem_of_getElem? (i := 1716) (by decide +kernel)⟩
theorem lw_p61 : lw_okq (⟨"ThirdHandsModel", "readWho", "()Z"⟩, 80) := ⟨⟨by decide +kernel, by decide +kernel⟩, List.mem_of_getElem? (i := 1418) (by decide +kernel), List.mem_of_getElem? (i := 1719) (by decide +kernel), List.mem_of_getElem? (i := 1720) (by decide +kernel)⟩
theorem lw_p62 : lw_okq (⟨"ThirdHandsModel", "bad", "(I)Z"⟩, 80) := ⟨⟨by decide +kernel, by decide +kernel⟩, List.mem_of_getElem? (i := 1418) (by decide +kernel), List.mem_of_getElem? (i := 1723) (by decide +kernel), List.mem_of_getElem? (i := 1724) (by decide +kernel)⟩
theorem lw_p63 : lw_okq (⟨"ThirdHandsModel", "fresh", "()Z"⟩, 80) := ⟨⟨by decide +kernel, by decide +kernel⟩, List.mem_of_getElem? (i := 1418) (by decide +kernel), List.mem_of_getElem? (i := 1727) (by decide +kernel), List.mem_of_getElem? (i := 1728) (by decide +kernel)⟩
def lw_privs_4 : List (MethodName × Nat) := [(⟨"ThirdHands$Ring", "worth", "(II)I"⟩, 4), (⟨"ThirdHands", "mendedMost", "(LThirdHands$Meeting;I)I"⟩, 16), (⟨"ThirdHands", "livesBy", "(LThirdHands$Meeting;I)Z"⟩, 16), (⟨"ThirdHands", "stopsBy", "(LThirdHands$Meeting;I)Z"⟩, 16), (⟨"ThirdHands$Book", "sort", "(I)I"⟩, 7), (⟨"ThirdHands$Book", "areTrue", "(IIILThirdHands$Village;)Z"⟩, 7), (⟨"java/lang/Throwable", "fillInStackTrace", "(I)Ljava/lang/Throwable;"⟩, 6), (⟨"ThirdHandsModel", "four", "(I)V"⟩, 80), (⟨"ThirdHandsModel", "taken", "(I)V"⟩, 80), (⟨"ThirdHandsModel", "next", "()V"⟩, 80), (⟨"ThirdHandsModel", "peek", "()I"⟩, 80), (⟨"ThirdHandsModel", "line", "()Z"⟩, 80), (⟨"ThirdHandsModel", "isWord", "(J)Z"⟩, 80), (⟨"ThirdHandsModel", "readWho", "()Z"⟩, 80), (⟨"ThirdHandsModel", "bad", "(I)Z"⟩, 80), (⟨"ThirdHandsModel", "fresh", "()Z"⟩, 80)]
theorem lw_r4 : ∀ q ∈ lw_privs_4, lw_okq q := List.forall_mem_cons.mpr ⟨lw_p48, List.forall_mem_cons.mpr ⟨lw_p49, List.forall_mem_cons.mpr ⟨lw_p50, List.forall_mem_cons.mpr ⟨lw_p51, List.forall_mem_cons.mpr ⟨lw_p52, List.forall_mem_cons.mpr ⟨lw_p53, List.forall_mem_cons.mpr ⟨lw_p54, List.forall_mem_cons.mpr ⟨lw_p55, List.forall_mem_cons.mpr ⟨lw_p56, List.forall_mem_cons.mpr ⟨lw_p57, List.forall_mem_cons.mpr ⟨lw_p58, List.forall_mem_cons.mpr ⟨lw_p59, List.forall_mem_cons.mpr ⟨lw_p60, List.forall_mem_cons.mpr ⟨lw_p61, List.forall_mem_cons.mpr ⟨lw_p62, List.forall_mem_cons.mpr ⟨lw_p63, fun _ h => absurd h List.not_mem_nil⟩⟩⟩⟩⟩⟩⟩⟩⟩⟩⟩⟩⟩⟩⟩⟩
theorem lw_p64 : lw_okq (⟨"ThirdHandsModel", "isName", "()Z"⟩, 80) := ⟨⟨by decide +kernel, by decide +kernel⟩, List.mem_of_getElem? (i := 1418) (by decide +kernel), List.mem_of_getElem? (i := 1731) (by decide +kernel), List.mem_of_getElem? (i := 1732) (by decide +kernel)⟩
theorem lw_p65 : lw_okq (⟨"ThirdHandsModel", "find", "(II)I"⟩, 80) := ⟨⟨by decide +kernel, by decide +kernel⟩, List.mem_of_getElem? (i := 1418) (by decide +kernel), List.mem_of_getElem? (i := 1735) (by decide +kernel), List.mem_of_getElem? (i := 1736) (by decide +kernel)⟩
theorem lw_p66 : lw_okq (⟨"ThirdHandsModel", "takes", "(II)Z"⟩, 80) := ⟨⟨by decide +kernel, by decide +kernel⟩, List.mem_of_getElem? (i := 1418) (by decide +kernel), List.mem_of_getElem? (i := 1739) (by decide +kernel), List.mem_of_getElem? (i := 1740) (by decide +kernel)⟩
theorem lw_p67 : lw_okq (⟨"ThirdHandsModel", "readSort", "()Z"⟩, 80) := ⟨⟨by decide +kernel, by decide +kernel⟩, List.mem_of_getElem? (i := 1418) (by decide +kernel), List.mem_of_getElem? (i := 1746) (by decide +kernel), List.mem_of_getElem? (i := 1747) (by decide +kernel)⟩
theorem lw_p68 : lw_okq (⟨"ThirdHandsModel", "readMakes", "()Z"⟩, 80) := ⟨⟨by decide +kernel, by decide +kernel⟩, List.mem_of_getElem? (i := 1418) (by decide +kernel), List.mem_of_getElem? (i := 1750) (by decide +kernel), List.mem_of_getElem? (i := 1751) (by decide +kernel)⟩
theorem lw_p69 : lw_okq (⟨"ThirdHandsModel", "takesWho", "(I)Z"⟩, 80) := ⟨⟨by decide +kernel, by decide +kernel⟩, List.mem_of_getElem? (i := 1418) (by decide +kernel), List.mem_of_getElem? (i := 1754) (by decide +kernel), List.mem_of_getElem? (i := 1755) (by decide +kernel)⟩
theorem lw_p70 : lw_okq (⟨"ThirdHandsModel", "takesSort", "()Z"⟩, 80) := ⟨⟨by decide +kernel, by decide +kernel⟩, List.mem_of_getElem? (i := 1418) (by decide +kernel), List.mem_of_getElem? (i := 1758) (by decide +kernel), List.mem_of_getElem? (i := 1759) (by decide +kernel)⟩
theorem lw_p71 : lw_okq (⟨"ThirdHandsModel", "readWants", "()Z"⟩, 80) := ⟨⟨by decide +kernel, by decide +kernel⟩, List.mem_of_getElem? (i := 1418) (by decide +kernel), List.mem_of_getElem? (i := 1762) (by decide +kernel), List.mem_of_getElem? (i := 1763) (by decide +kernel)⟩
theorem lw_p72 : lw_okq (⟨"ThirdHandsModel", "readGives", "()Z"⟩, 80) := ⟨⟨by decide +kernel, by decide +kernel⟩, List.mem_of_getElem? (i := 1418) (by decide +kernel), List.mem_of_getElem? (i := 1766) (by decide +kernel), List.mem_of_getElem? (i := 1767) (by decide +kernel)⟩
theorem lw_p73 : lw_okq (⟨"ThirdHandsModel", "readLaw", "()Z"⟩, 80) := ⟨⟨by decide +kernel, by decide +kernel⟩, List.mem_of_getElem? (i := 1418) (by decide +kernel), List.mem_of_getElem? (i := 1770) (by decide +kernel), List.mem_of_getElem? (i := 1771) (by decide +kernel)⟩
theorem lw_p74 : lw_okq (⟨"ThirdHandsModel", "sign", "(I)Z"⟩, 80) := ⟨⟨by decide +kernel, by decide +kernel⟩, List.mem_of_getElem? (i := 1418) (by decide +kernel), List.mem_of_getElem? (i := 1774) (by decide +kernel), List.mem_of_getElem? (i := 1775) (by decide +kernel)⟩
theorem lw_p75 : lw_okq (⟨"ThirdHandsModel", "isSign", "(I)Z"⟩, 80) := ⟨⟨by decide +kernel, by decide +kernel⟩, List.mem_of_getElem? (i := 1418) (by decide +kernel), List.mem_of_getElem? (i := 1778) (by decide +kernel), List.mem_of_getElem? (i := 1779) (by decide +kernel)⟩
theorem lw_p76 : lw_okq (⟨"ThirdHandsModel", "isUnit", "(I)Z"⟩, 80) := ⟨⟨by decide +kernel, by decide +kernel⟩, List.mem_of_getElem? (i := 1418) (by decide +kernel), List.mem_of_getElem? (i := 1790) (by decide +kernel), List.mem_of_getElem? (i := 1791) (by decide +kernel)⟩
theorem lw_p77 : lw_okq (⟨"ThirdHandsModel", "throwsIf", "(Z)Z"⟩, 80) := ⟨⟨by decide +kernel, by decide +kernel⟩, List.mem_of_getElem? (i := 1418) (by decide +kernel), List.mem_of_getElem? (i := 1794) (by decide +kernel), List.mem_of_getElem? (i := 1795) (by decide +kernel)⟩
theorem lw_p78 : lw_okq (⟨"ThirdHandsModel", "spoils", "(I)I"⟩, 80) := ⟨⟨by decide +kernel, by decide +kernel⟩, List.mem_of_getElem? (i := 1418) (by decide +kernel), List.mem_of_getElem? (i := 1798) (by decide +kernel), List.mem_of_getElem? (i := 1799) (by decide +kernel)⟩
theorem lw_p79 : lw_okq (⟨"ThirdHandsModel", "sortOf", "(I)I"⟩, 80) := ⟨⟨by decide +kernel, by decide +kernel⟩, List.mem_of_getElem? (i := 1418) (by decide +kernel), List.mem_of_getElem? (i := 1802) (by decide +kernel), List.mem_of_getElem? (i := 1803) (by decide +kernel)⟩
def lw_privs_5 : List (MethodName × Nat) := [(⟨"ThirdHandsModel", "isName", "()Z"⟩, 80), (⟨"ThirdHandsModel", "find", "(II)I"⟩, 80), (⟨"ThirdHandsModel", "takes", "(II)Z"⟩, 80), (⟨"ThirdHandsModel", "readSort", "()Z"⟩, 80), (⟨"ThirdHandsModel", "readMakes", "()Z"⟩, 80), (⟨"ThirdHandsModel", "takesWho", "(I)Z"⟩, 80), (⟨"ThirdHandsModel", "takesSort", "()Z"⟩, 80), (⟨"ThirdHandsModel", "readWants", "()Z"⟩, 80), (⟨"ThirdHandsModel", "readGives", "()Z"⟩, 80), (⟨"ThirdHandsModel", "readLaw", "()Z"⟩, 80), (⟨"ThirdHandsModel", "sign", "(I)Z"⟩, 80), (⟨"ThirdHandsModel", "isSign", "(I)Z"⟩, 80), (⟨"ThirdHandsModel", "isUnit", "(I)Z"⟩, 80), (⟨"ThirdHandsModel", "throwsIf", "(Z)Z"⟩, 80), (⟨"ThirdHandsModel", "spoils", "(I)I"⟩, 80), (⟨"ThirdHandsModel", "sortOf", "(I)I"⟩, 80)]
theorem lw_r5 : ∀ q ∈ lw_privs_5, lw_okq q := List.forall_mem_cons.mpr ⟨lw_p64, List.forall_mem_cons.mpr ⟨lw_p65, List.forall_mem_cons.mpr ⟨lw_p66, List.forall_mem_cons.mpr ⟨lw_p67, List.forall_mem_cons.mpr ⟨lw_p68, List.forall_mem_cons.mpr ⟨lw_p69, List.forall_mem_cons.mpr ⟨lw_p70, List.forall_mem_cons.mpr ⟨lw_p71, List.forall_mem_cons.mpr ⟨lw_p72, List.forall_mem_cons.mpr ⟨lw_p73, List.forall_mem_cons.mpr ⟨lw_p74, List.forall_mem_cons.mpr ⟨lw_p75, List.forall_mem_cons.mpr ⟨lw_p76, List.forall_mem_cons.mpr ⟨lw_p77, List.forall_mem_cons.mpr ⟨lw_p78, List.forall_mem_cons.mpr ⟨lw_p79, fun _ h => absurd h List.not_mem_nil⟩⟩⟩⟩⟩⟩⟩⟩⟩⟩⟩⟩⟩⟩⟩⟩
theorem lw_p80 : lw_okq (⟨"ThirdHandsModel", "isWant", "(I)Z"⟩, 80) := ⟨⟨by decide +kernel, by decide +kernel⟩, List.mem_of_getElem? (i := 1418) (by decide +kernel), List.mem_of_getElem? (i := 1810) (by decide +kernel), List.mem_of_getElem? (i := 1811) (by decide +kernel)⟩
theorem lw_p81 : lw_okq (⟨"ThirdHandsModel", "isWho", "(I)Z"⟩, 80) := ⟨⟨by decide +kernel, by decide +kernel⟩, List.mem_of_getElem? (i := 1418) (by decide +kernel), List.mem_of_getElem? (i := 1818) (by decide +kernel), List.mem_of_getElem? (i := 1819) (by decide +kernel)⟩
theorem lw_p82 : lw_okq (⟨"ThirdHandsModel", "asTold", "()V"⟩, 80) := ⟨⟨by decide +kernel, by decide +kernel⟩, List.mem_of_getElem? (i := 1418) (by decide +kernel), List.mem_of_getElem? (i := 1826) (by decide +kernel), List.mem_of_getElem? (i := 1827) (by decide +kernel)⟩
theorem lw_p83 : lw_okq (⟨"ThirdHandsModel", "weigh", "()V"⟩, 80) := ⟨⟨by decide +kernel, by decide +kernel⟩, List.mem_of_getElem? (i := 1418) (by decide +kernel), List.mem_of_getElem? (i := 1830) (by decide +kernel), List.mem_of_getElem? (i := 1831) (by decide +kernel)⟩
theorem lw_p84 : lw_okq (⟨"ThirdHandsModel", "areFirsts", "(I)Z"⟩, 80) := ⟨⟨by decide +kernel, by decide +kernel⟩, List.mem_of_getElem? (i := 1418) (by decide +kernel), List.mem_of_getElem? (i := 1834) (by decide +kernel), List.mem_of_getElem? (i := 1835) (by decide +kernel)⟩
theorem lw_p85 : lw_okq (⟨"ThirdHandsModel", "weighUnit", "(I)V"⟩, 80) := ⟨⟨by decide +kernel, by decide +kernel⟩, List.mem_of_getElem? (i := 1418) (by decide +kernel), List.mem_of_getElem? (i := 1841) (by decide +kernel), List.mem_of_getElem? (i := 1842) (by decide +kernel)⟩
theorem lw_p86 : lw_okq (⟨"ThirdHandsModel", "begin", "(I)V"⟩, 80) := ⟨⟨by decide +kernel, by decide +kernel⟩, List.mem_of_getElem? (i := 1418) (by decide +kernel), List.mem_of_getElem? (i := 1846) (by decide +kernel), List.mem_of_getElem? (i := 1847) (by decide +kernel)⟩
theorem lw_p87 : lw_okq (⟨"ThirdHandsModel", "nextRow", "(II)Z"⟩, 80) := ⟨⟨by decide +kernel, by decide +kernel⟩, List.mem_of_getElem? (i := 1418) (by decide +kernel), List.mem_of_getElem? (i := 1850) (by decide +kernel), List.mem_of_getElem? (i := 1851) (by decide +kernel)⟩
theorem lw_p88 : lw_okq (⟨"ThirdHandsModel", "away", "(I)V"⟩, 80) := ⟨⟨by decide +kernel, by decide +kernel⟩, List.mem_of_getElem? (i := 1418) (by decide +kernel), List.mem_of_getElem? (i := 1854) (by decide +kernel), List.mem_of_getElem? (i := 1855) (by decide +kernel)⟩
theorem lw_p89 : lw_okq (⟨"ThirdHandsModel", "mayCome", "(III)Z"⟩, 80) := ⟨⟨by decide +kernel, by decide +kernel⟩, List.mem_of_getElem? (i := 1418) (by decide +kernel), List.mem_of_getElem? (i := 1858) (by decide +kernel), List.mem_of_getElem? (i := 1859) (by decide +kernel)⟩
theorem lw_p90 : lw_okq (⟨"ThirdHandsModel", "isFirst", "(II)Z"⟩, 80) := ⟨⟨by decide +kernel, by decide +kernel⟩, List.mem_of_getElem? (i := 1418) (by decide +kernel), List.mem_of_getElem? (i := 1862) (by decide +kernel), List.mem_of_getElem? (i := 1863) (by decide +kernel)⟩
theorem lw_p91 : lw_okq (⟨"ThirdHandsModel", "put", "(III)V"⟩, 80) := ⟨⟨by decide +kernel, by decide +kernel⟩, List.mem_of_getElem? (i := 1418) (by decide +kernel), List.mem_of_getElem? (i := 1866) (by decide +kernel), List.mem_of_getElem? (i := 1867) (by decide +kernel)⟩
theorem lw_p92 : lw_okq (⟨"ThirdHandsModel", "lastHour", "(II)I"⟩, 80) := ⟨⟨by decide +kernel, by decide +kernel⟩, List.mem_of_getElem? (i := 1418) (by decide +kernel), List.mem_of_getElem? (i := 1870) (by decide +kernel), List.mem_of_getElem? (i := 1871) (by decide +kernel)⟩
theorem lw_p93 : lw_okq (⟨"ThirdHandsModel", "isWay", "(II)Z"⟩, 80) := ⟨⟨by decide +kernel, by decide +kernel⟩, List.mem_of_getElem? (i := 1418) (by decide +kernel), List.mem_of_getElem? (i := 1874) (by decide +kernel), List.mem_of_getElem? (i := 1875) (by decide +kernel)⟩
theorem lw_p94 : lw_okq (⟨"ThirdHandsModel", "mostMet", "()I"⟩, 80) := ⟨⟨by decide +kernel, by decide +kernel⟩, List.mem_of_getElem? (i := 1418) (by decide +kernel), List.mem_of_getElem? (i := 1886) (by decide +kernel), List.mem_of_getElem? (i := 1887) (by decide +kernel)⟩
theorem lw_p95 : lw_okq (⟨"ThirdHandsModel", "meets", "()V"⟩, 80) := ⟨⟨by decide +kernel, by decide +kernel⟩, List.mem_of_getElem? (i := 1418) (by decide +kernel), List.mem_of_getElem? (i := 1890) (by decide +kernel), List.mem_of_getElem? (i := 1891) (by decide +kernel)⟩
def lw_privs_6 : List (MethodName × Nat) := [(⟨"ThirdHandsModel", "isWant", "(I)Z"⟩, 80), (⟨"ThirdHandsModel", "isWho", "(I)Z"⟩, 80), (⟨"ThirdHandsModel", "asTold", "()V"⟩, 80), (⟨"ThirdHandsModel", "weigh", "()V"⟩, 80), (⟨"ThirdHandsModel", "areFirsts", "(I)Z"⟩, 80), (⟨"ThirdHandsModel", "weighUnit", "(I)V"⟩, 80), (⟨"ThirdHandsModel", "begin", "(I)V"⟩, 80), (⟨"ThirdHandsModel", "nextRow", "(II)Z"⟩, 80), (⟨"ThirdHandsModel", "away", "(I)V"⟩, 80), (⟨"ThirdHandsModel", "mayCome", "(III)Z"⟩, 80), (⟨"ThirdHandsModel", "isFirst", "(II)Z"⟩, 80), (⟨"ThirdHandsModel", "put", "(III)V"⟩, 80), (⟨"ThirdHandsModel", "lastHour", "(II)I"⟩, 80), (⟨"ThirdHandsModel", "isWay", "(II)Z"⟩, 80), (⟨"ThirdHandsModel", "mostMet", "()I"⟩, 80), (⟨"ThirdHandsModel", "meets", "()V"⟩, 80)]
theorem lw_r6 : ∀ q ∈ lw_privs_6, lw_okq q := List.forall_mem_cons.mpr ⟨lw_p80, List.forall_mem_cons.mpr ⟨lw_p81, List.forall_mem_cons.mpr ⟨lw_p82, List.forall_mem_cons.mpr ⟨lw_p83, List.forall_mem_cons.mpr ⟨lw_p84, List.forall_mem_cons.mpr ⟨lw_p85, List.forall_mem_cons.mpr ⟨lw_p86, List.forall_mem_cons.mpr ⟨lw_p87, List.forall_mem_cons.mpr ⟨lw_p88, List.forall_mem_cons.mpr ⟨lw_p89, List.forall_mem_cons.mpr ⟨lw_p90, List.forall_mem_cons.mpr ⟨lw_p91, List.forall_mem_cons.mpr ⟨lw_p92, List.forall_mem_cons.mpr ⟨lw_p93, List.forall_mem_cons.mpr ⟨lw_p94, List.forall_mem_cons.mpr ⟨lw_p95, fun _ h => absurd h List.not_mem_nil⟩⟩⟩⟩⟩⟩⟩⟩⟩⟩⟩⟩⟩⟩⟩⟩
theorem lw_p96 : lw_okq (⟨"ThirdHandsModel", "bestDay", "()V"⟩, 80) := ⟨⟨by decide +kernel, by decide +kernel⟩, List.mem_of_getElem? (i := 1418) (by decide +kernel), List.mem_of_getElem? (i := 1905) (by decide +kernel), List.mem_of_getElem? (i := 1906) (by decide +kernel)⟩
theorem lw_p97 : lw_okq (⟨"ThirdHandsModel", "act", "()Z"⟩, 80) := ⟨⟨by decide +kernel, by decide +kernel⟩, List.mem_of_getElem? (i := 1418) (by decide +kernel), List.mem_of_getElem? (i := 1923) (by decide +kernel), List.mem_of_getElem? (i := 1924) (by decide +kernel)⟩
theorem lw_p98 : lw_okq (⟨"ThirdHandsModel", "keepPlan", "()V"⟩, 80) := ⟨⟨by decide +kernel, by decide +kernel⟩, List.mem_of_getElem? (i := 1418) (by decide +kernel), List.mem_of_getElem? (i := 1927) (by decide +kernel), List.mem_of_getElem? (i := 1928) (by decide +kernel)⟩
theorem lw_p99 : lw_okq (⟨"ThirdHandsModel", "draw", "(I)I"⟩, 80) := ⟨⟨by decide +kernel, by decide +kernel⟩, List.mem_of_getElem? (i := 1418) (by decide +kernel), List.mem_of_getElem? (i := 1935) (by decide +kernel), List.mem_of_getElem? (i := 1936) (by decide +kernel)⟩
theorem lw_p100 : lw_okq (⟨"ThirdHandsModel", "does", "(I)I"⟩, 80) := ⟨⟨by decide +kernel, by decide +kernel⟩, List.mem_of_getElem? (i := 1418) (by decide +kernel), List.mem_of_getElem? (i := 1948) (by decide +kernel), List.mem_of_getElem? (i := 1949) (by decide +kernel)⟩
theorem lw_p101 : lw_okq (⟨"ThirdHandsModel", "whyNoUse", "(I)I"⟩, 80) := ⟨⟨by decide +kernel, by decide +kernel⟩, List.mem_of_getElem? (i := 1418) (by decide +kernel), List.mem_of_getElem? (i := 1952) (by decide +kernel), List.mem_of_getElem? (i := 1953) (by decide +kernel)⟩
theorem lw_p102 : lw_okq (⟨"ThirdHandsModel", "whyNot", "(I)I"⟩, 80) := ⟨⟨by decide +kernel, by decide +kernel⟩, List.mem_of_getElem? (i := 1418) (by decide +kernel), List.mem_of_getElem? (i := 1956) (by decide +kernel), List.mem_of_getElem? (i := 1957) (by decide +kernel)⟩
theorem lw_p103 : lw_okq (⟨"ThirdHandsModel", "wantFor", "(II)I"⟩, 80) := ⟨⟨by decide +kernel, by decide +kernel⟩, List.mem_of_getElem? (i := 1418) (by decide +kernel), List.mem_of_getElem? (i := 1960) (by decide +kernel), List.mem_of_getElem? (i := 1961) (by decide +kernel)⟩
theorem lw_p104 : lw_okq (⟨"ThirdHandsModel", "giver", "(II)I"⟩, 80) := ⟨⟨by decide +kernel, by decide +kernel⟩, List.mem_of_getElem? (i := 1418) (by decide +kernel), List.mem_of_getElem? (i := 1964) (by decide +kernel), List.mem_of_getElem? (i := 1965) (by decide +kernel)⟩
theorem lw_p105 : lw_okq (⟨"ThirdHandsModel", "lesserFirst", "(I)I"⟩, 80) := ⟨⟨by decide +kernel, by decide +kernel⟩, List.mem_of_getElem? (i := 1418) (by decide +kernel), List.mem_of_getElem? (i := 1968) (by decide +kernel), List.mem_of_getElem? (i := 1969) (by decide +kernel)⟩
theorem lw_p106 : lw_okq (⟨"ThirdHandsModel", "forbids", "(III)Z"⟩, 80) := ⟨⟨by decide +kernel, by decide +kernel⟩, List.mem_of_getElem? (i := 1418) (by decide +kernel), List.mem_of_getElem? (i := 1972) (by decide +kernel), List.mem_of_getElem? (i := 1973) (by decide +kernel)⟩
theorem lw_p107 : lw_okq (⟨"ThirdHandsModel", "asksBest", "(I)I"⟩, 80) := ⟨⟨by decide +kernel, by decide +kernel⟩, List.mem_of_getElem? (i := 1418) (by decide +kernel), List.mem_of_getElem? (i := 1996) (by decide +kernel), List.mem_of_getElem? (i := 1997) (by decide +kernel)⟩
theorem lw_p108 : lw_okq (⟨"ThirdHandsModel", "isRing", "()Z"⟩, 80) := ⟨⟨by decide +kernel, by decide +kernel⟩, List.mem_of_getElem? (i := 1418) (by decide +kernel), List.mem_of_getElem? (i := 2016) (by decide +kernel), List.mem_of_getElem? (i := 2017) (by decide +kernel)⟩
theorem lw_p109 : lw_okq (⟨"ThirdHandsModel", "octet", "(I)I"⟩, 80) := ⟨⟨by decide +kernel, by decide +kernel⟩, List.mem_of_getElem? (i := 1418) (by decide +kernel), List.mem_of_getElem? (i := 2020) (by decide +kernel), List.mem_of_getElem? (i := 2021) (by decide +kernel)⟩
theorem lw_p110 : lw_okq (⟨"ThirdHandsModel", "goesRound", "()Z"⟩, 80) := ⟨⟨by decide +kernel, by decide +kernel⟩, List.mem_of_getElem? (i := 1418) (by decide +kernel), List.mem_of_getElem? (i := 2024) (by decide +kernel), List.mem_of_getElem? (i := 2025) (by decide +kernel)⟩
theorem lw_p111 : lw_okq (⟨"ThirdHandsModel", "gain", "()V"⟩, 80) := ⟨⟨by decide +kernel, by decide +kernel⟩, List.mem_of_getElem? (i := 1418) (by decide +kernel), List.mem_of_getElem? (i := 2028) (by decide +kernel), List.mem_of_getElem? (i := 2029) (by decide +kernel)⟩
def lw_privs_7 : List (MethodName × Nat) := [(⟨"ThirdHandsModel", "bestDay", "()V"⟩, 80), (⟨"ThirdHandsModel", "act", "()Z"⟩, 80), (⟨"ThirdHandsModel", "keepPlan", "()V"⟩, 80), (⟨"ThirdHandsModel", "draw", "(I)I"⟩, 80), (⟨"ThirdHandsModel", "does", "(I)I"⟩, 80), (⟨"ThirdHandsModel", "whyNoUse", "(I)I"⟩, 80), (⟨"ThirdHandsModel", "whyNot", "(I)I"⟩, 80), (⟨"ThirdHandsModel", "wantFor", "(II)I"⟩, 80), (⟨"ThirdHandsModel", "giver", "(II)I"⟩, 80), (⟨"ThirdHandsModel", "lesserFirst", "(I)I"⟩, 80), (⟨"ThirdHandsModel", "forbids", "(III)Z"⟩, 80), (⟨"ThirdHandsModel", "asksBest", "(I)I"⟩, 80), (⟨"ThirdHandsModel", "isRing", "()Z"⟩, 80), (⟨"ThirdHandsModel", "octet", "(I)I"⟩, 80), (⟨"ThirdHandsModel", "goesRound", "()Z"⟩, 80), (⟨"ThirdHandsModel", "gain", "()V"⟩, 80)]
theorem lw_r7 : ∀ q ∈ lw_privs_7, lw_okq q := List.forall_mem_cons.mpr ⟨lw_p96, List.forall_mem_cons.mpr ⟨lw_p97, List.forall_mem_cons.mpr ⟨lw_p98, List.forall_mem_cons.mpr ⟨lw_p99, List.forall_mem_cons.mpr ⟨lw_p100, List.forall_mem_cons.mpr ⟨lw_p101, List.forall_mem_cons.mpr ⟨lw_p102, List.forall_mem_cons.mpr ⟨lw_p103, List.forall_mem_cons.mpr ⟨lw_p104, List.forall_mem_cons.mpr ⟨lw_p105, List.forall_mem_cons.mpr ⟨lw_p106, List.forall_mem_cons.mpr ⟨lw_p107, List.forall_mem_cons.mpr ⟨lw_p108, List.forall_mem_cons.mpr ⟨lw_p109, List.forall_mem_cons.mpr ⟨lw_p110, List.forall_mem_cons.mpr ⟨lw_p111, fun _ h => absurd h List.not_mem_nil⟩⟩⟩⟩⟩⟩⟩⟩⟩⟩⟩⟩⟩⟩⟩⟩
theorem lw_p112 : lw_okq (⟨"ThirdHandsModel", "unitBy", "(I)I"⟩, 80) := ⟨⟨by decide +kernel, by decide +kernel⟩, List.mem_of_getElem? (i := 1418) (by decide +kernel), List.mem_of_getElem? (i := 2032) (by decide +kernel), List.mem_of_getElem? (i := 2033) (by decide +kernel)⟩
theorem lw_p113 : lw_okq (⟨"ThirdHandsModel", "goesOn", "(II)Z"⟩, 80) := ⟨⟨by decide +kernel, by decide +kernel⟩, List.mem_of_getElem? (i := 1418) (by decide +kernel), List.mem_of_getElem? (i := 2036) (by decide +kernel), List.mem_of_getElem? (i := 2037) (by decide +kernel)⟩
theorem lw_p114 : lw_okq (⟨"ThirdHandsModel", "notesOf", "(I)V"⟩, 80) := ⟨⟨by decide +kernel, by decide +kernel⟩, List.mem_of_getElem? (i := 1418) (by decide +kernel), List.mem_of_getElem? (i := 2076) (by decide +kernel), List.mem_of_getElem? (i := 2077) (by decide +kernel)⟩
theorem lw_p115 : lw_okq (⟨"ThirdHandsModel", "areTrue", "(II)Z"⟩, 80) := ⟨⟨by decide +kernel, by decide +kernel⟩, List.mem_of_getElem? (i := 1418) (by decide +kernel), List.mem_of_getElem? (i := 2084) (by decide +kernel), List.mem_of_getElem? (i := 2085) (by decide +kernel)⟩
def lw_privs_8 : List (MethodName × Nat) := [(⟨"ThirdHandsModel", "unitBy", "(I)I"⟩, 80), (⟨"ThirdHandsModel", "goesOn", "(II)Z"⟩, 80), (⟨"ThirdHandsModel", "notesOf", "(I)V"⟩, 80), (⟨"ThirdHandsModel", "areTrue", "(II)Z"⟩, 80)]
theorem lw_r8 : ∀ q ∈ lw_privs_8, lw_okq q := List.forall_mem_cons.mpr ⟨lw_p112, List.forall_mem_cons.mpr ⟨lw_p113, List.forall_mem_cons.mpr ⟨lw_p114, List.forall_mem_cons.mpr ⟨lw_p115, fun _ h => absurd h List.not_mem_nil⟩⟩⟩⟩
def lw_privs : List (MethodName × Nat) := lw_privs_1 ++ (lw_privs_2 ++ (lw_privs_3 ++ (lw_privs_4 ++ (lw_privs_5 ++ (lw_privs_6 ++ (lw_privs_7 ++ (lw_privs_8)))))))
def lw_tbl : List Cond := k2_sels lw_privs ++ tables_1
theorem lw_privs_ok : ∀ q ∈ lw_privs, lw_okq q := by
  show ∀ q ∈ lw_privs_1 ++ (lw_privs_2 ++ (lw_privs_3 ++ (lw_privs_4 ++ (lw_privs_5 ++ (lw_privs_6 ++ (lw_privs_7 ++ (lw_privs_8))))))), lw_okq q
  exact List.forall_mem_append.mpr ⟨lw_r1, List.forall_mem_append.mpr ⟨lw_r2, List.forall_mem_append.mpr ⟨lw_r3, List.forall_mem_append.mpr ⟨lw_r4, List.forall_mem_append.mpr ⟨lw_r5, List.forall_mem_append.mpr ⟨lw_r6, List.forall_mem_append.mpr ⟨lw_r7, lw_r8⟩⟩⟩⟩⟩⟩⟩
def RX0 : String := "ThirdHands$Book"
def TX0 : u_T := fun k => match k with
  | 0 => ("ThirdHands$Book", "notes", "I", false)
  | 1 => ("ThirdHands$Book", "unit", "[I", true)
  | 2 => ("ThirdHands$Book", "from", "[I", true)
  | 3 => ("ThirdHands$Book", "to", "[I", true)
  | 4 => ("ThirdHands$Book", "hour", "[I", true)
  | 5 => ("ThirdHands$Book", "sorted", "[I", true)
  | _ => ("ThirdHands$Book", "rank", "[I", true)
def tyX0 : Nat → FieldType := fun k => match k with
  | 0 => .int
  | 1 => .array .int
  | 2 => .array .int
  | 3 => .array .int
  | 4 => .array .int
  | 5 => .array .int
  | _ => .array .int
abbrev wsX00 : List Cond := u_ws RX0 TX0 7
theorem nmX0 : ∀ a, a < 7 → ∀ b, b < 7 → a ≠ b → (TX0 a).2.1 ≠ (TX0 b).2.1 := by decide +kernel
theorem tyX0_ok : ∀ k, k < 7 → parseFieldDescriptor (TX0 k).2.2.1 = some (tyX0 k) := by decide +kernel
abbrev cX0_init : ByteArray := prog_2_method_1_code
def yX0_init : MethodName := ⟨RX0, "<init>", "()V"⟩
abbrev cX0_copy : ByteArray := prog_2_method_2_code
def yX0_copy : MethodName := ⟨RX0, "copy", "(LThirdHands$Book;)V"⟩
abbrev cX0_add : ByteArray := prog_2_method_3_code
def yX0_add : MethodName := ⟨RX0, "add", "(IIII)I"⟩
abbrev cX0_sort : ByteArray := prog_2_method_4_code
def yX0_sort : MethodName := ⟨RX0, "sort", "(I)I"⟩
abbrev cX0_found : ByteArray := prog_2_method_5_code
def yX0_found : MethodName := ⟨RX0, "found", "(ILThirdHands$Village;)I"⟩
abbrev cX0_areTrue : ByteArray := prog_2_method_6_code
def yX0_areTrue : MethodName := ⟨RX0, "areTrue", "(IIILThirdHands$Village;)Z"⟩
abbrev cX0_holder : ByteArray := prog_2_method_7_code
def yX0_holder : MethodName := ⟨RX0, "holder", "(IILThirdHands$Village;)I"⟩
def RX1 : String := "ThirdHands$Day"
def TX1 : u_T := fun k => match k with
  | 0 => ("ThirdHands$Day", "done", "Z", false)
  | 1 => ("ThirdHands$Day", "why", "I", false)
  | 2 => ("ThirdHands$Day", "hour", "I", false)
  | 3 => ("ThirdHands$Day", "met", "I", false)
  | 4 => ("ThirdHands$Day", "pains", "I", false)
  | 5 => ("ThirdHands$Day", "spoilt", "I", false)
  | 6 => ("ThirdHands$Day", "units", "I", false)
  | 7 => ("ThirdHands$Day", "usable", "I", false)
  | 8 => ("ThirdHands$Day", "who", "[I", true)
  | 9 => ("ThirdHands$Day", "nth", "[I", true)
  | 10 => ("ThirdHands$Day", "had", "[I", true)
  | _ => ("ThirdHands$Day", "due", "[I", true)
def tyX1 : Nat → FieldType := fun k => match k with
  | 0 => .boolean
  | 1 => .int
  | 2 => .int
  | 3 => .int
  | 4 => .int
  | 5 => .int
  | 6 => .int
  | 7 => .int
  | 8 => .array .int
  | 9 => .array .int
  | 10 => .array .int
  | _ => .array .int
abbrev wsX10 : List Cond := u_ws RX1 TX1 12
theorem nmX1 : ∀ a, a < 12 → ∀ b, b < 12 → a ≠ b → (TX1 a).2.1 ≠ (TX1 b).2.1 := by decide +kernel
theorem tyX1_ok : ∀ k, k < 12 → parseFieldDescriptor (TX1 k).2.2.1 = some (tyX1 k) := by decide +kernel
abbrev cX1_init : ByteArray := prog_3_method_1_code
def yX1_init : MethodName := ⟨RX1, "<init>", "()V"⟩
abbrev cX1_go : ByteArray := prog_3_method_2_code
def yX1_go : MethodName := ⟨RX1, "go", "(LThirdHands$Village;LThirdHands$Plan;)I"⟩
abbrev cX1_begin : ByteArray := prog_3_method_3_code
def yX1_begin : MethodName := ⟨RX1, "begin", "(LThirdHands$Village;)V"⟩
abbrev cX1_close : ByteArray := prog_3_method_4_code
def yX1_close : MethodName := ⟨RX1, "close", "(LThirdHands$Village;)V"⟩
abbrev cX1_doAct : ByteArray := prog_3_method_5_code
def yX1_doAct : MethodName := ⟨RX1, "doAct", "(LThirdHands$Village;III)I"⟩
abbrev cX1_give : ByteArray := prog_3_method_6_code
def yX1_give : MethodName := ⟨RX1, "give", "(LThirdHands$Village;II)I"⟩
abbrev cX1_giver : ByteArray := prog_3_method_7_code
def yX1_giver : MethodName := ⟨RX1, "giver", "(LThirdHands$Village;II)I"⟩
abbrev cX1_use : ByteArray := prog_3_method_8_code
def yX1_use : MethodName := ⟨RX1, "use", "(LThirdHands$Village;I)I"⟩
abbrev cX1_wantMet : ByteArray := prog_3_method_9_code
def yX1_wantMet : MethodName := ⟨RX1, "wantMet", "(LThirdHands$Village;I)I"⟩
def RX2 : String := "ThirdHands$Image"
def TX2 : u_T := fun k => match k with
  | 0 => ("ThirdHands$Image", "there", "Z", false)
  | 1 => ("ThirdHands$Image", "village", "LThirdHands$Village;", true)
  | 2 => ("ThirdHands$Image", "plan", "LThirdHands$Plan;", true)
  | _ => ("ThirdHands$Image", "book", "LThirdHands$Book;", true)
def tyX2 : Nat → FieldType := fun k => match k with
  | 0 => .boolean
  | 1 => .object "ThirdHands$Village"
  | 2 => .object "ThirdHands$Plan"
  | _ => .object "ThirdHands$Book"
abbrev wsX20 : List Cond := u_ws RX2 TX2 4
theorem nmX2 : ∀ a, a < 4 → ∀ b, b < 4 → a ≠ b → (TX2 a).2.1 ≠ (TX2 b).2.1 := by decide +kernel
theorem tyX2_ok : ∀ k, k < 4 → parseFieldDescriptor (TX2 k).2.2.1 = some (tyX2 k) := by decide +kernel
abbrev cX2_init : ByteArray := prog_4_method_1_code
def yX2_init : MethodName := ⟨RX2, "<init>", "()V"⟩
def RX3 : String := "ThirdHands$Meeting"
def TX3 : u_T := fun k => match k with
  | 0 => ("ThirdHands$Meeting", "ways", "LThirdHands$Ways;", true)
  | 1 => ("ThirdHands$Meeting", "village", "LThirdHands$Village;", true)
  | 2 => ("ThirdHands$Meeting", "chosen", "[J", true)
  | 3 => ("ThirdHands$Meeting", "doers", "[I", true)
  | 4 => ("ThirdHands$Meeting", "around", "[I", true)
  | 5 => ("ThirdHands$Meeting", "sums", "[J", true)
  | 6 => ("ThirdHands$Meeting", "values", "[J", true)
  | 7 => ("ThirdHands$Meeting", "top", "J", false)
  | _ => ("ThirdHands$Meeting", "gets", "I", false)
def tyX3 : Nat → FieldType := fun k => match k with
  | 0 => .object "ThirdHands$Ways"
  | 1 => .object "ThirdHands$Village"
  | 2 => .array .long
  | 3 => .array .int
  | 4 => .array .int
  | 5 => .array .long
  | 6 => .array .long
  | 7 => .long
  | _ => .int
abbrev wsX30 : List Cond := u_ws RX3 TX3 9
theorem nmX3 : ∀ a, a < 9 → ∀ b, b < 9 → a ≠ b → (TX3 a).2.1 ≠ (TX3 b).2.1 := by decide +kernel
theorem tyX3_ok : ∀ k, k < 9 → parseFieldDescriptor (TX3 k).2.2.1 = some (tyX3 k) := by decide +kernel
abbrev cX3_init : ByteArray := prog_5_method_1_code
def yX3_init : MethodName := ⟨RX3, "<init>", "(LThirdHands$Ways;)V"⟩
abbrev cX3_find : ByteArray := prog_5_method_2_code
def yX3_find : MethodName := ⟨RX3, "find", "()V"⟩
abbrev cX3_weigh : ByteArray := prog_5_method_3_code
def yX3_weigh : MethodName := ⟨RX3, "weigh", "()V"⟩
abbrev cX3_choose : ByteArray := prog_5_method_4_code
def yX3_choose : MethodName := ⟨RX3, "choose", "(I)V"⟩
abbrev cX3_takenAsking : ByteArray := prog_5_method_5_code
def yX3_takenAsking : MethodName := ⟨RX3, "takenAsking", "(II)J"⟩
abbrev cX3_taken : ByteArray := prog_5_method_6_code
def yX3_taken : MethodName := ⟨RX3, "taken", "(II)J"⟩
abbrev cX3_lookAround : ByteArray := prog_5_method_7_code
def yX3_lookAround : MethodName := ⟨RX3, "lookAround", "()V"⟩
abbrev cX3_matched : ByteArray := prog_5_method_8_code
def yX3_matched : MethodName := ⟨RX3, "matched", "()I"⟩
abbrev cX3_barring : ByteArray := prog_5_method_9_code
def yX3_barring : MethodName := ⟨RX3, "barring", "()I"⟩
abbrev cX3_solve : ByteArray := prog_5_method_10_code
def yX3_solve : MethodName := ⟨RX3, "solve", "()V"⟩
abbrev cX3_bestOfSort : ByteArray := prog_5_method_11_code
def yX3_bestOfSort : MethodName := ⟨RX3, "bestOfSort", "(I)J"⟩
abbrev cX3_meetBy : ByteArray := prog_5_method_12_code
def yX3_meetBy : MethodName := ⟨RX3, "meetBy", "(II)V"⟩
abbrev cX3_appraise : ByteArray := prog_5_method_13_code
def yX3_appraise : MethodName := ⟨RX3, "appraise", "(I)I"⟩
abbrev cX3_digitOf : ByteArray := prog_5_method_14_code
def yX3_digitOf : MethodName := ⟨RX3, "digitOf", "(I)I"⟩
abbrev cX3_sum : ByteArray := prog_5_method_15_code
def yX3_sum : MethodName := ⟨RX3, "sum", "()I"⟩
abbrev cX3_metCount : ByteArray := prog_5_method_16_code
def yX3_metCount : MethodName := ⟨RX3, "metCount", "()I"⟩
abbrev cX3_unitFor : ByteArray := prog_5_method_17_code
def yX3_unitFor : MethodName := ⟨RX3, "unitFor", "(I)I"⟩
abbrev cX3_metWants : ByteArray := prog_5_method_18_code
def yX3_metWants : MethodName := ⟨RX3, "metWants", "()I"⟩
abbrev cX3_painsMet : ByteArray := prog_5_method_19_code
def yX3_painsMet : MethodName := ⟨RX3, "painsMet", "()I"⟩
abbrev cX3_timesMet : ByteArray := prog_5_method_20_code
def yX3_timesMet : MethodName := ⟨RX3, "timesMet", "(I)I"⟩
abbrev cX3_middleAsk : ByteArray := prog_5_method_21_code
def yX3_middleAsk : MethodName := ⟨RX3, "middleAsk", "(I)I"⟩
def RX4 : String := "ThirdHands$Plan"
def TX4 : u_T := fun k => match k with
  | 0 => ("ThirdHands$Plan", "acts", "I", false)
  | 1 => ("ThirdHands$Plan", "what", "[I", true)
  | 2 => ("ThirdHands$Plan", "unit", "[I", true)
  | 3 => ("ThirdHands$Plan", "whom", "[I", true)
  | _ => ("ThirdHands$Plan", "seed", "I", false)
def tyX4 : Nat → FieldType := fun k => match k with
  | 0 => .int
  | 1 => .array .int
  | 2 => .array .int
  | 3 => .array .int
  | _ => .int
abbrev wsX40 : List Cond := u_ws RX4 TX4 5
theorem nmX4 : ∀ a, a < 5 → ∀ b, b < 5 → a ≠ b → (TX4 a).2.1 ≠ (TX4 b).2.1 := by decide +kernel
theorem tyX4_ok : ∀ k, k < 5 → parseFieldDescriptor (TX4 k).2.2.1 = some (tyX4 k) := by decide +kernel
abbrev cX4_init : ByteArray := prog_6_method_1_code
def yX4_init : MethodName := ⟨RX4, "<init>", "()V"⟩
abbrev cX4_copy : ByteArray := prog_6_method_2_code
def yX4_copy : MethodName := ⟨RX4, "copy", "(LThirdHands$Plan;)V"⟩
abbrev cX4_add : ByteArray := prog_6_method_3_code
def yX4_add : MethodName := ⟨RX4, "add", "(III)V"⟩
abbrev cX4_read : ByteArray := prog_6_method_4_code
def yX4_read : MethodName := ⟨RX4, "read", "(LThirdHands$Tokens;LThirdHands$Village;)I"⟩
abbrev cX4_readAct : ByteArray := prog_6_method_5_code
def yX4_readAct : MethodName := ⟨RX4, "readAct", "(LThirdHands$Tokens;LThirdHands$Village;)Z"⟩
abbrev cX4_draw : ByteArray := prog_6_method_6_code
def yX4_draw : MethodName := ⟨RX4, "draw", "(IILThirdHands$Village;)V"⟩
abbrev cX4_next : ByteArray := prog_6_method_7_code
def yX4_next : MethodName := ⟨RX4, "next", "(I)I"⟩
def RX5 : String := "ThirdHands$Ring"
def TX5 : u_T := fun k => match k with
  | 0 => ("ThirdHands$Ring", "village", "LThirdHands$Village;", true)
  | 1 => ("ThirdHands$Ring", "order", "[I", true)
  | 2 => ("ThirdHands$Ring", "size", "I", false)
  | _ => ("ThirdHands$Ring", "gains", "[I", true)
def tyX5 : Nat → FieldType := fun k => match k with
  | 0 => .object "ThirdHands$Village"
  | 1 => .array .int
  | 2 => .int
  | _ => .array .int
abbrev wsX50 : List Cond := u_ws RX5 TX5 4
theorem nmX5 : ∀ a, a < 4 → ∀ b, b < 4 → a ≠ b → (TX5 a).2.1 ≠ (TX5 b).2.1 := by decide +kernel
theorem tyX5_ok : ∀ k, k < 4 → parseFieldDescriptor (TX5 k).2.2.1 = some (tyX5 k) := by decide +kernel
abbrev cX5_init : ByteArray := prog_7_method_1_code
def yX5_init : MethodName := ⟨RX5, "<init>", "(LThirdHands$Village;)V"⟩
abbrev cX5_take : ByteArray := prog_7_method_2_code
def yX5_take : MethodName := ⟨RX5, "take", "([II)Z"⟩
abbrev cX5_spot : ByteArray := prog_7_method_3_code
def yX5_spot : MethodName := ⟨RX5, "spot", "(I)I"⟩
abbrev cX5_at : ByteArray := prog_7_method_4_code
def yX5_at : MethodName := ⟨RX5, "at", "(I)I"⟩
abbrev cX5_painsFrom : ByteArray := prog_7_method_5_code
def yX5_painsFrom : MethodName := ⟨RX5, "painsFrom", "(I)I"⟩
abbrev cX5_closes : ByteArray := prog_7_method_6_code
def yX5_closes : MethodName := ⟨RX5, "closes", "()Z"⟩
abbrev cX5_reckon : ByteArray := prog_7_method_7_code
def yX5_reckon : MethodName := ⟨RX5, "reckon", "()V"⟩
abbrev cX5_madeBy : ByteArray := prog_7_method_8_code
def yX5_madeBy : MethodName := ⟨RX5, "madeBy", "(I)I"⟩
abbrev cX5_goes : ByteArray := prog_7_method_9_code
def yX5_goes : MethodName := ⟨RX5, "goes", "(II)Z"⟩
abbrev cX5_send : ByteArray := prog_7_method_10_code
def yX5_send : MethodName := ⟨RX5, "send", "(II)V"⟩
abbrev cX5_worth : ByteArray := prog_7_method_11_code
def yX5_worth : MethodName := ⟨RX5, "worth", "(II)I"⟩
abbrev cX5_losers : ByteArray := prog_7_method_12_code
def yX5_losers : MethodName := ⟨RX5, "losers", "()I"⟩
abbrev cX5_members : ByteArray := prog_7_method_13_code
def yX5_members : MethodName := ⟨RX5, "members", "()I"⟩
abbrev cX5_leave : ByteArray := prog_7_method_14_code
def yX5_leave : MethodName := ⟨RX5, "leave", "(I)V"⟩
def RX6 : String := "ThirdHands$Terms"
def TX6 : u_T := fun k => match k with
  | 0 => ("ThirdHands$Terms", "village", "LThirdHands$Village;", true)
  | 1 => ("ThirdHands$Terms", "n", "I", false)
  | 2 => ("ThirdHands$Terms", "back", "I", false)
  | 3 => ("ThirdHands$Terms", "asks", "[I", true)
  | 4 => ("ThirdHands$Terms", "pains", "[I", true)
  | 5 => ("ThirdHands$Terms", "hours", "[I", true)
  | 6 => ("ThirdHands$Terms", "hands", "I", false)
  | _ => ("ThirdHands$Terms", "givers", "I", false)
def tyX6 : Nat → FieldType := fun k => match k with
  | 0 => .object "ThirdHands$Village"
  | 1 => .int
  | 2 => .int
  | 3 => .array .int
  | 4 => .array .int
  | 5 => .array .int
  | 6 => .int
  | _ => .int
abbrev wsX60 : List Cond := u_ws RX6 TX6 8
theorem nmX6 : ∀ a, a < 8 → ∀ b, b < 8 → a ≠ b → (TX6 a).2.1 ≠ (TX6 b).2.1 := by decide +kernel
theorem tyX6_ok : ∀ k, k < 8 → parseFieldDescriptor (TX6 k).2.2.1 = some (tyX6 k) := by decide +kernel
abbrev cX6_init : ByteArray := prog_8_method_1_code
def yX6_init : MethodName := ⟨RX6, "<init>", "(LThirdHands$Village;)V"⟩
abbrev cX6_reset : ByteArray := prog_8_method_2_code
def yX6_reset : MethodName := ⟨RX6, "reset", "()V"⟩
def RX7 : String := "ThirdHands$Tokens"
def TX7 : u_T := fun k => match k with
  | 0 => ("ThirdHands$Tokens", "text", "[I", true)
  | 1 => ("ThirdHands$Tokens", "words", "[I", true)
  | 2 => ("ThirdHands$Tokens", "length", "I", false)
  | 3 => ("ThirdHands$Tokens", "readable", "I", false)
  | 4 => ("ThirdHands$Tokens", "next", "I", false)
  | 5 => ("ThirdHands$Tokens", "kind", "I", false)
  | 6 => ("ThirdHands$Tokens", "value", "I", false)
  | 7 => ("ThirdHands$Tokens", "place", "I", false)
  | _ => ("ThirdHands$Tokens", "fault", "I", false)
def tyX7 : Nat → FieldType := fun k => match k with
  | 0 => .array .int
  | 1 => .array .int
  | 2 => .int
  | 3 => .int
  | 4 => .int
  | 5 => .int
  | 6 => .int
  | 7 => .int
  | _ => .int
abbrev wsX70 : List Cond := u_ws RX7 TX7 9
theorem nmX7 : ∀ a, a < 9 → ∀ b, b < 9 → a ≠ b → (TX7 a).2.1 ≠ (TX7 b).2.1 := by decide +kernel
theorem tyX7_ok : ∀ k, k < 9 → parseFieldDescriptor (TX7 k).2.2.1 = some (tyX7 k) := by decide +kernel
abbrev cX7_init : ByteArray := prog_9_method_1_code
def yX7_init : MethodName := ⟨RX7, "<init>", "([I)V"⟩
abbrev cX7_start : ByteArray := prog_9_method_2_code
def yX7_start : MethodName := ⟨RX7, "start", "(II)V"⟩
abbrev cX7_advance : ByteArray := prog_9_method_3_code
def yX7_advance : MethodName := ⟨RX7, "advance", "()V"⟩
abbrev cX7_takeRun : ByteArray := prog_9_method_4_code
def yX7_takeRun : MethodName := ⟨RX7, "takeRun", "(II)V"⟩
abbrev cX7_takeWord : ByteArray := prog_9_method_5_code
def yX7_takeWord : MethodName := ⟨RX7, "takeWord", "(I)V"⟩
abbrev cX7_isDigit : ByteArray := prog_9_method_6_code
def yX7_isDigit : MethodName := ⟨RX7, "isDigit", "(I)Z"⟩
abbrev cX7_isLetter : ByteArray := prog_9_method_7_code
def yX7_isLetter : MethodName := ⟨RX7, "isLetter", "(I)Z"⟩
abbrev cX7_fail : ByteArray := prog_9_method_8_code
def yX7_fail : MethodName := ⟨RX7, "fail", "(I)Z"⟩
abbrev cX7_faultAnswer : ByteArray := prog_9_method_9_code
def yX7_faultAnswer : MethodName := ⟨RX7, "faultAnswer", "()I"⟩
abbrev cX7_word : ByteArray := prog_9_method_10_code
def yX7_word : MethodName := ⟨RX7, "word", "()I"⟩
abbrev cX7_skipWord : ByteArray := prog_9_method_11_code
def yX7_skipWord : MethodName := ⟨RX7, "skipWord", "(I)Z"⟩
abbrev cX7_isNumber : ByteArray := prog_9_method_12_code
def yX7_isNumber : MethodName := ⟨RX7, "isNumber", "(II)Z"⟩
abbrev cX7_isName : ByteArray := prog_9_method_13_code
def yX7_isName : MethodName := ⟨RX7, "isName", "()Z"⟩
abbrev cX7_takeValue : ByteArray := prog_9_method_14_code
def yX7_takeValue : MethodName := ⟨RX7, "takeValue", "()I"⟩
abbrev cX7_semicolon : ByteArray := prog_9_method_15_code
def yX7_semicolon : MethodName := ⟨RX7, "semicolon", "()Z"⟩
def RX8 : String := "ThirdHands$Told"
def TX8 : u_T := fun k => match k with
  | 0 => ("ThirdHands$Told", "hand", "[I", true)
  | 1 => ("ThirdHands$Told", "hands", "I", false)
  | 2 => ("ThirdHands$Told", "asks", "[I", true)
  | 3 => ("ThirdHands$Told", "askers", "I", false)
  | 4 => ("ThirdHands$Told", "gains", "[I", true)
  | 5 => ("ThirdHands$Told", "gainers", "I", false)
  | 6 => ("ThirdHands$Told", "middleGets", "I", false)
  | _ => ("ThirdHands$Told", "starving", "I", false)
def tyX8 : Nat → FieldType := fun k => match k with
  | 0 => .array .int
  | 1 => .int
  | 2 => .array .int
  | 3 => .int
  | 4 => .array .int
  | 5 => .int
  | 6 => .int
  | _ => .int
abbrev wsX80 : List Cond := u_ws RX8 TX8 8
theorem nmX8 : ∀ a, a < 8 → ∀ b, b < 8 → a ≠ b → (TX8 a).2.1 ≠ (TX8 b).2.1 := by decide +kernel
theorem tyX8_ok : ∀ k, k < 8 → parseFieldDescriptor (TX8 k).2.2.1 = some (tyX8 k) := by decide +kernel
abbrev cX8_init : ByteArray := prog_10_method_1_code
def yX8_init : MethodName := ⟨RX8, "<init>", "()V"⟩
abbrev cX8_keepWay : ByteArray := prog_10_method_2_code
def yX8_keepWay : MethodName := ⟨RX8, "keepWay", "(II)V"⟩
abbrev cX8_keepAsks : ByteArray := prog_10_method_3_code
def yX8_keepAsks : MethodName := ⟨RX8, "keepAsks", "([II)V"⟩
abbrev cX8_keepGains : ByteArray := prog_10_method_4_code
def yX8_keepGains : MethodName := ⟨RX8, "keepGains", "([II)V"⟩
def RX9 : String := "ThirdHands$Village"
def TX9 : u_T := fun k => match k with
  | 0 => ("ThirdHands$Village", "people", "I", false)
  | 1 => ("ThirdHands$Village", "names", "[I", true)
  | 2 => ("ThirdHands$Village", "towns", "[I", true)
  | 3 => ("ThirdHands$Village", "mates", "[I", true)
  | 4 => ("ThirdHands$Village", "asks", "[I", true)
  | 5 => ("ThirdHands$Village", "sorts", "I", false)
  | 6 => ("ThirdHands$Village", "sortNames", "[I", true)
  | 7 => ("ThirdHands$Village", "lives", "[I", true)
  | 8 => ("ThirdHands$Village", "units", "I", false)
  | 9 => ("ThirdHands$Village", "unit", "[I", true)
  | 10 => ("ThirdHands$Village", "lead", "[I", true)
  | 11 => ("ThirdHands$Village", "wants", "I", false)
  | 12 => ("ThirdHands$Village", "want", "[I", true)
  | 13 => ("ThirdHands$Village", "pains", "[I", true)
  | 14 => ("ThirdHands$Village", "hours", "[I", true)
  | 15 => ("ThirdHands$Village", "n", "I", false)
  | 16 => ("ThirdHands$Village", "back", "I", false)
  | _ => ("ThirdHands$Village", "lawTold", "Z", false)
def tyX9 : Nat → FieldType := fun k => match k with
  | 0 => .int
  | 1 => .array .int
  | 2 => .array .int
  | 3 => .array .int
  | 4 => .array .int
  | 5 => .int
  | 6 => .array .int
  | 7 => .array .int
  | 8 => .int
  | 9 => .array .int
  | 10 => .array .int
  | 11 => .int
  | 12 => .array .int
  | 13 => .array .int
  | 14 => .array .int
  | 15 => .int
  | 16 => .int
  | _ => .boolean
abbrev wsX90 : List Cond := u_ws RX9 TX9 18
theorem nmX9 : ∀ a, a < 18 → ∀ b, b < 18 → a ≠ b → (TX9 a).2.1 ≠ (TX9 b).2.1 := by decide +kernel
theorem tyX9_ok : ∀ k, k < 18 → parseFieldDescriptor (TX9 k).2.2.1 = some (tyX9 k) := by decide +kernel
abbrev cX9_init : ByteArray := prog_11_method_1_code
def yX9_init : MethodName := ⟨RX9, "<init>", "()V"⟩
abbrev cX9_copy : ByteArray := prog_11_method_2_code
def yX9_copy : MethodName := ⟨RX9, "copy", "(LThirdHands$Village;)V"⟩
abbrev cX9_clear : ByteArray := prog_11_method_3_code
def yX9_clear : MethodName := ⟨RX9, "clear", "()V"⟩
abbrev cX9_hasPerson : ByteArray := prog_11_method_4_code
def yX9_hasPerson : MethodName := ⟨RX9, "hasPerson", "(I)Z"⟩
abbrev cX9_hasUnit : ByteArray := prog_11_method_5_code
def yX9_hasUnit : MethodName := ⟨RX9, "hasUnit", "(I)Z"⟩
abbrev cX9_hasWant : ByteArray := prog_11_method_6_code
def yX9_hasWant : MethodName := ⟨RX9, "hasWant", "(I)Z"⟩
abbrev cX9_ofUnit : ByteArray := prog_11_method_7_code
def yX9_ofUnit : MethodName := ⟨RX9, "ofUnit", "(II)I"⟩
abbrev cX9_ofWant : ByteArray := prog_11_method_8_code
def yX9_ofWant : MethodName := ⟨RX9, "ofWant", "(II)I"⟩
abbrev cX9_firsts : ByteArray := prog_11_method_9_code
def yX9_firsts : MethodName := ⟨RX9, "firsts", "(I)I"⟩
abbrev cX9_allWants : ByteArray := prog_11_method_10_code
def yX9_allWants : MethodName := ⟨RX9, "allWants", "()I"⟩
abbrev cX9_wantsOf : ByteArray := prog_11_method_11_code
def yX9_wantsOf : MethodName := ⟨RX9, "wantsOf", "(I)I"⟩
abbrev cX9_wantsOfSort : ByteArray := prog_11_method_12_code
def yX9_wantsOfSort : MethodName := ⟨RX9, "wantsOfSort", "(I)I"⟩
abbrev cX9_lets : ByteArray := prog_11_method_13_code
def yX9_lets : MethodName := ⟨RX9, "lets", "(IIII)Z"⟩
abbrev cX9_read : ByteArray := prog_11_method_14_code
def yX9_read : MethodName := ⟨RX9, "read", "(LThirdHands$Tokens;)I"⟩
abbrev cX9_line : ByteArray := prog_11_method_15_code
def yX9_line : MethodName := ⟨RX9, "line", "(LThirdHands$Tokens;)Z"⟩
abbrev cX9_indexOf : ByteArray := prog_11_method_16_code
def yX9_indexOf : MethodName := ⟨RX9, "indexOf", "([III)I"⟩
abbrev cX9_isNewName : ByteArray := prog_11_method_17_code
def yX9_isNewName : MethodName := ⟨RX9, "isNewName", "(LThirdHands$Tokens;)Z"⟩
abbrev cX9_person : ByteArray := prog_11_method_18_code
def yX9_person : MethodName := ⟨RX9, "person", "(LThirdHands$Tokens;I)I"⟩
abbrev cX9_takePerson : ByteArray := prog_11_method_19_code
def yX9_takePerson : MethodName := ⟨RX9, "takePerson", "(LThirdHands$Tokens;I)I"⟩
abbrev cX9_takeSort : ByteArray := prog_11_method_20_code
def yX9_takeSort : MethodName := ⟨RX9, "takeSort", "(LThirdHands$Tokens;)I"⟩
abbrev cX9_whoLine : ByteArray := prog_11_method_21_code
def yX9_whoLine : MethodName := ⟨RX9, "whoLine", "(LThirdHands$Tokens;)Z"⟩
abbrev cX9_join : ByteArray := prog_11_method_22_code
def yX9_join : MethodName := ⟨RX9, "join", "(I)V"⟩
abbrev cX9_sortLine : ByteArray := prog_11_method_23_code
def yX9_sortLine : MethodName := ⟨RX9, "sortLine", "(LThirdHands$Tokens;)Z"⟩
abbrev cX9_makesLine : ByteArray := prog_11_method_24_code
def yX9_makesLine : MethodName := ⟨RX9, "makesLine", "(LThirdHands$Tokens;)Z"⟩
abbrev cX9_addUnit : ByteArray := prog_11_method_25_code
def yX9_addUnit : MethodName := ⟨RX9, "addUnit", "(IIIII)V"⟩
abbrev cX9_wantsLine : ByteArray := prog_11_method_26_code
def yX9_wantsLine : MethodName := ⟨RX9, "wantsLine", "(LThirdHands$Tokens;)Z"⟩
abbrev cX9_givesLine : ByteArray := prog_11_method_27_code
def yX9_givesLine : MethodName := ⟨RX9, "givesLine", "(LThirdHands$Tokens;)Z"⟩
abbrev cX9_lawLine : ByteArray := prog_11_method_28_code
def yX9_lawLine : MethodName := ⟨RX9, "lawLine", "(LThirdHands$Tokens;)Z"⟩
def RX10 : String := "ThirdHands$Ways"
def TX10 : u_T := fun k => match k with
  | 0 => ("ThirdHands$Ways", "terms", "LThirdHands$Terms;", true)
  | 1 => ("ThirdHands$Ways", "village", "LThirdHands$Village;", true)
  | 2 => ("ThirdHands$Ways", "watched", "I", false)
  | 3 => ("ThirdHands$Ways", "keys", "[J", true)
  | 4 => ("ThirdHands$Ways", "rooms", "[I", true)
  | 5 => ("ThirdHands$Ways", "counts", "[I", true)
  | 6 => ("ThirdHands$Ways", "least", "[I", true)
  | 7 => ("ThirdHands$Ways", "unit", "I", false)
  | 8 => ("ThirdHands$Ways", "firsts", "I", false)
  | 9 => ("ThirdHands$Ways", "wanters", "I", false)
  | 10 => ("ThirdHands$Ways", "room", "I", false)
  | 11 => ("ThirdHands$Ways", "hand", "[I", true)
  | 12 => ("ThirdHands$Ways", "had", "[I", true)
  | 13 => ("ThirdHands$Ways", "spent", "[I", true)
  | 14 => ("ThirdHands$Ways", "cost", "[I", true)
  | _ => ("ThirdHands$Ways", "times", "[I", true)
def tyX10 : Nat → FieldType := fun k => match k with
  | 0 => .object "ThirdHands$Terms"
  | 1 => .object "ThirdHands$Village"
  | 2 => .int
  | 3 => .array .long
  | 4 => .array .int
  | 5 => .array .int
  | 6 => .array .int
  | 7 => .int
  | 8 => .int
  | 9 => .int
  | 10 => .int
  | 11 => .array .int
  | 12 => .array .int
  | 13 => .array .int
  | 14 => .array .int
  | _ => .array .int
abbrev wsX100 : List Cond := u_ws RX10 TX10 16
theorem nmX10 : ∀ a, a < 16 → ∀ b, b < 16 → a ≠ b → (TX10 a).2.1 ≠ (TX10 b).2.1 := by decide +kernel
theorem tyX10_ok : ∀ k, k < 16 → parseFieldDescriptor (TX10 k).2.2.1 = some (tyX10 k) := by decide +kernel
abbrev cX10_init : ByteArray := prog_12_method_1_code
def yX10_init : MethodName := ⟨RX10, "<init>", "(LThirdHands$Terms;)V"⟩
abbrev cX10_cost : ByteArray := prog_12_method_2_code
def yX10_cost : MethodName := ⟨RX10, "cost", "(J)I"⟩
abbrev cX10_hours : ByteArray := prog_12_method_3_code
def yX10_hours : MethodName := ⟨RX10, "hours", "(J)I"⟩
abbrev cX10_path : ByteArray := prog_12_method_4_code
def yX10_path : MethodName := ⟨RX10, "path", "(J)I"⟩
abbrev cX10_handOf : ByteArray := prog_12_method_5_code
def yX10_handOf : MethodName := ⟨RX10, "handOf", "(III)I"⟩
abbrev cX10_asking : ByteArray := prog_12_method_6_code
def yX10_asking : MethodName := ⟨RX10, "asking", "(JI)J"⟩
abbrev cX10_pains : ByteArray := prog_12_method_7_code
def yX10_pains : MethodName := ⟨RX10, "pains", "(J)I"⟩
abbrev cX10_timesBetween : ByteArray := prog_12_method_8_code
def yX10_timesBetween : MethodName := ⟨RX10, "timesBetween", "(JI)I"⟩
abbrev cX10_walkAll : ByteArray := prog_12_method_9_code
def yX10_walkAll : MethodName := ⟨RX10, "walkAll", "()V"⟩
abbrev cX10_walkUnit : ByteArray := prog_12_method_10_code
def yX10_walkUnit : MethodName := ⟨RX10, "walkUnit", "(I)V"⟩
abbrev cX10_measureRooms : ByteArray := prog_12_method_11_code
def yX10_measureRooms : MethodName := ⟨RX10, "measureRooms", "()V"⟩
abbrev cX10_onward : ByteArray := prog_12_method_12_code
def yX10_onward : MethodName := ⟨RX10, "onward", "(I)V"⟩
abbrev cX10_step : ByteArray := prog_12_method_13_code
def yX10_step : MethodName := ⟨RX10, "step", "(III)V"⟩
abbrev cX10_arrive : ByteArray := prog_12_method_14_code
def yX10_arrive : MethodName := ⟨RX10, "arrive", "(I)V"⟩
def RX11 : String := "ThirdHands"
def TX11 : u_T := fun k => match k with
  | 0 => ("ThirdHands", "tape", "[I", true)
  | 1 => ("ThirdHands", "bytes", "I", false)
  | 2 => ("ThirdHands", "fault", "I", false)
  | 3 => ("ThirdHands", "tokens", "LThirdHands$Tokens;", true)
  | 4 => ("ThirdHands", "village", "LThirdHands$Village;", true)
  | 5 => ("ThirdHands", "draft", "LThirdHands$Village;", true)
  | 6 => ("ThirdHands", "plan", "LThirdHands$Plan;", true)
  | 7 => ("ThirdHands", "planDraft", "LThirdHands$Plan;", true)
  | 8 => ("ThirdHands", "book", "LThirdHands$Book;", true)
  | 9 => ("ThirdHands", "images", "[LThirdHands$Image;", true)
  | 10 => ("ThirdHands", "told", "LThirdHands$Meeting;", true)
  | 11 => ("ThirdHands", "trial", "LThirdHands$Meeting;", true)
  | 12 => ("ThirdHands", "stale", "Z", false)
  | 13 => ("ThirdHands", "day", "LThirdHands$Day;", true)
  | 14 => ("ThirdHands", "ringNow", "LThirdHands$Ring;", true)
  | _ => ("ThirdHands", "last", "LThirdHands$Told;", true)
def tyX11 : Nat → FieldType := fun k => match k with
  | 0 => .array .int
  | 1 => .int
  | 2 => .int
  | 3 => .object "ThirdHands$Tokens"
  | 4 => .object "ThirdHands$Village"
  | 5 => .object "ThirdHands$Village"
  | 6 => .object "ThirdHands$Plan"
  | 7 => .object "ThirdHands$Plan"
  | 8 => .object "ThirdHands$Book"
  | 9 => .array (.object "ThirdHands$Image")
  | 10 => .object "ThirdHands$Meeting"
  | 11 => .object "ThirdHands$Meeting"
  | 12 => .boolean
  | 13 => .object "ThirdHands$Day"
  | 14 => .object "ThirdHands$Ring"
  | _ => .object "ThirdHands$Told"
abbrev wsX110 : List Cond := u_ws RX11 TX11 16
theorem nmX11 : ∀ a, a < 16 → ∀ b, b < 16 → a ≠ b → (TX11 a).2.1 ≠ (TX11 b).2.1 := by decide +kernel
theorem tyX11_ok : ∀ k, k < 16 → parseFieldDescriptor (TX11 k).2.2.1 = some (tyX11 k) := by decide +kernel
abbrev cX11_init : ByteArray := prog_1_method_1_code
def yX11_init : MethodName := ⟨RX11, "<init>", "()V"⟩
abbrev cX11_feed : ByteArray := prog_1_method_2_code
def yX11_feed : MethodName := ⟨RX11, "feed", "(IIIII)I"⟩
abbrev cX11_feedNumber : ByteArray := prog_1_method_3_code
def yX11_feedNumber : MethodName := ⟨RX11, "feedNumber", "(I)V"⟩
abbrev cX11_end : ByteArray := prog_1_method_4_code
def yX11_end : MethodName := ⟨RX11, "end", "(I)Z"⟩
abbrev cX11_takeTape : ByteArray := prog_1_method_5_code
def yX11_takeTape : MethodName := ⟨RX11, "takeTape", "()I"⟩
abbrev cX11_village : ByteArray := prog_1_method_6_code
def yX11_village : MethodName := ⟨RX11, "village", "()I"⟩
abbrev cX11_fault : ByteArray := prog_1_method_7_code
def yX11_fault : MethodName := ⟨RX11, "fault", "()I"⟩
abbrev cX11_unit : ByteArray := prog_1_method_8_code
def yX11_unit : MethodName := ⟨RX11, "unit", "(II)I"⟩
abbrev cX11_want : ByteArray := prog_1_method_9_code
def yX11_want : MethodName := ⟨RX11, "want", "(II)I"⟩
abbrev cX11_giving : ByteArray := prog_1_method_10_code
def yX11_giving : MethodName := ⟨RX11, "giving", "(III)I"⟩
abbrev cX11_asTold : ByteArray := prog_1_method_11_code
def yX11_asTold : MethodName := ⟨RX11, "asTold", "()LThirdHands$Meeting;"⟩
abbrev cX11_supposing : ByteArray := prog_1_method_12_code
def yX11_supposing : MethodName := ⟨RX11, "supposing", "()LThirdHands$Meeting;"⟩
abbrev cX11_way : ByteArray := prog_1_method_13_code
def yX11_way : MethodName := ⟨RX11, "way", "(III)I"⟩
abbrev cX11_hand : ByteArray := prog_1_method_14_code
def yX11_hand : MethodName := ⟨RX11, "hand", "(I)I"⟩
abbrev cX11_most : ByteArray := prog_1_method_15_code
def yX11_most : MethodName := ⟨RX11, "most", "()I"⟩
abbrev cX11_bars : ByteArray := prog_1_method_16_code
def yX11_bars : MethodName := ⟨RX11, "bars", "()I"⟩
abbrev cX11_best : ByteArray := prog_1_method_17_code
def yX11_best : MethodName := ⟨RX11, "best", "(I)I"⟩
abbrev cX11_bestOf : ByteArray := prog_1_method_18_code
def yX11_bestOf : MethodName := ⟨RX11, "bestOf", "(I)I"⟩
abbrev cX11_plan : ByteArray := prog_1_method_19_code
def yX11_plan : MethodName := ⟨RX11, "plan", "()I"⟩
abbrev cX11_drawn : ByteArray := prog_1_method_20_code
def yX11_drawn : MethodName := ⟨RX11, "drawn", "(II)I"⟩
abbrev cX11_act : ByteArray := prog_1_method_21_code
def yX11_act : MethodName := ⟨RX11, "act", "(II)I"⟩
abbrev cX11_judge : ByteArray := prog_1_method_22_code
def yX11_judge : MethodName := ⟨RX11, "judge", "()I"⟩
abbrev cX11_judged : ByteArray := prog_1_method_23_code
def yX11_judged : MethodName := ⟨RX11, "judged", "(I)I"⟩
abbrev cX11_holds : ByteArray := prog_1_method_24_code
def yX11_holds : MethodName := ⟨RX11, "holds", "(II)I"⟩
abbrev cX11_ways : ByteArray := prog_1_method_25_code
def yX11_ways : MethodName := ⟨RX11, "ways", "(III)I"⟩
abbrev cX11_latest : ByteArray := prog_1_method_26_code
def yX11_latest : MethodName := ⟨RX11, "latest", "(II)I"⟩
abbrev cX11_rest : ByteArray := prog_1_method_27_code
def yX11_rest : MethodName := ⟨RX11, "rest", "()I"⟩
abbrev cX11_askAnew : ByteArray := prog_1_method_28_code
def yX11_askAnew : MethodName := ⟨RX11, "askAnew", "(LThirdHands$Meeting;)Z"⟩
abbrev cX11_restOf : ByteArray := prog_1_method_29_code
def yX11_restOf : MethodName := ⟨RX11, "restOf", "(I)I"⟩
abbrev cX11_middle : ByteArray := prog_1_method_30_code
def yX11_middle : MethodName := ⟨RX11, "middle", "(I)I"⟩
abbrev cX11_middleBy : ByteArray := prog_1_method_31_code
def yX11_middleBy : MethodName := ⟨RX11, "middleBy", "()I"⟩
abbrev cX11_ring : ByteArray := prog_1_method_32_code
def yX11_ring : MethodName := ⟨RX11, "ring", "()I"⟩
abbrev cX11_gain : ByteArray := prog_1_method_33_code
def yX11_gain : MethodName := ⟨RX11, "gain", "(I)I"⟩
abbrev cX11_lasts : ByteArray := prog_1_method_34_code
def yX11_lasts : MethodName := ⟨RX11, "lasts", "()I"⟩
abbrev cX11_quarrel : ByteArray := prog_1_method_35_code
def yX11_quarrel : MethodName := ⟨RX11, "quarrel", "(II)I"⟩
abbrev cX11_starves : ByteArray := prog_1_method_36_code
def yX11_starves : MethodName := ⟨RX11, "starves", "()I"⟩
abbrev cX11_mend : ByteArray := prog_1_method_37_code
def yX11_mend : MethodName := ⟨RX11, "mend", "()I"⟩
abbrev cX11_mendedMost : ByteArray := prog_1_method_38_code
def yX11_mendedMost : MethodName := ⟨RX11, "mendedMost", "(LThirdHands$Meeting;I)I"⟩
abbrev cX11_live : ByteArray := prog_1_method_39_code
def yX11_live : MethodName := ⟨RX11, "live", "()I"⟩
abbrev cX11_livesBy : ByteArray := prog_1_method_40_code
def yX11_livesBy : MethodName := ⟨RX11, "livesBy", "(LThirdHands$Meeting;I)Z"⟩
abbrev cX11_stop : ByteArray := prog_1_method_41_code
def yX11_stop : MethodName := ⟨RX11, "stop", "()I"⟩
abbrev cX11_stopsBy : ByteArray := prog_1_method_42_code
def yX11_stopsBy : MethodName := ⟨RX11, "stopsBy", "(LThirdHands$Meeting;I)Z"⟩
abbrev cX11_other : ByteArray := prog_1_method_43_code
def yX11_other : MethodName := ⟨RX11, "other", "(III)I"⟩
abbrev cX11_note : ByteArray := prog_1_method_44_code
def yX11_note : MethodName := ⟨RX11, "note", "(IIII)I"⟩
abbrev cX11_lies : ByteArray := prog_1_method_45_code
def yX11_lies : MethodName := ⟨RX11, "lies", "(II)I"⟩
abbrev cX11_image : ByteArray := prog_1_method_46_code
def yX11_image : MethodName := ⟨RX11, "image", "(I)Z"⟩
abbrev cX11_restore : ByteArray := prog_1_method_47_code
def yX11_restore : MethodName := ⟨RX11, "restore", "(I)Z"⟩
abbrev cX11_count : ByteArray := prog_1_method_48_code
def yX11_count : MethodName := ⟨RX11, "count", "(I)I"⟩
abbrev cX11_copyAll : ByteArray := prog_1_method_49_code
def yX11_copyAll : MethodName := ⟨RX11, "copyAll", "([I[I)V"⟩
abbrev cX11_has : ByteArray := prog_1_method_50_code
def yX11_has : MethodName := ⟨RX11, "has", "(II)Z"⟩
def RX12 : String := "ThirdHandsModel"
def TX12 : u_T := fun k => match k with
  | 0 => ("ThirdHandsModel", "thrown", "I", false)
  | 1 => ("ThirdHandsModel", "tape", "[B", true)
  | 2 => ("ThirdHandsModel", "length", "I", false)
  | 3 => ("ThirdHandsModel", "size", "I", false)
  | 4 => ("ThirdHandsModel", "p", "I", false)
  | 5 => ("ThirdHandsModel", "limit", "I", false)
  | 6 => ("ThirdHandsModel", "s", "[I", true)
  | 7 => ("ThirdHandsModel", "h", "[I", true)
  | 8 => ("ThirdHandsModel", "acts", "[I", true)
  | 9 => ("ThirdHandsModel", "names", "[J", true)
  | 10 => ("ThirdHandsModel", "reserved", "[J", true)
  | 11 => ("ThirdHandsModel", "token", "I", false)
  | 12 => ("ThirdHandsModel", "at", "I", false)
  | 13 => ("ThirdHandsModel", "span", "I", false)
  | 14 => ("ThirdHandsModel", "number", "I", false)
  | 15 => ("ThirdHandsModel", "fault", "I", false)
  | 16 => ("ThirdHandsModel", "faultAt", "I", false)
  | 17 => ("ThirdHandsModel", "word", "J", false)
  | 18 => ("ThirdHandsModel", "got", "I", false)
  | 19 => ("ThirdHandsModel", "hasLaw", "Z", false)
  | 20 => ("ThirdHandsModel", "lines", "I", false)
  | 21 => ("ThirdHandsModel", "gives", "[I", true)
  | 22 => ("ThirdHandsModel", "pains", "[I", true)
  | 23 => ("ThirdHandsModel", "hours", "[I", true)
  | 24 => ("ThirdHandsModel", "asks", "[I", true)
  | 25 => ("ThirdHandsModel", "law", "I", false)
  | 26 => ("ThirdHandsModel", "back", "I", false)
  | 27 => ("ThirdHandsModel", "hands", "I", false)
  | 28 => ("ThirdHandsModel", "row", "[I", true)
  | 29 => ("ThirdHandsModel", "tries", "[I", true)
  | 30 => ("ThirdHandsModel", "rowHours", "[I", true)
  | 31 => ("ThirdHandsModel", "rowPains", "[I", true)
  | 32 => ("ThirdHandsModel", "rowAsked", "[I", true)
  | 33 => ("ThirdHandsModel", "came", "[I", true)
  | 34 => ("ThirdHandsModel", "towns", "I", false)
  | 35 => ("ThirdHandsModel", "searched", "I", false)
  | 36 => ("ThirdHandsModel", "depth", "I", false)
  | 37 => ("ThirdHandsModel", "wayCost", "[I", true)
  | 38 => ("ThirdHandsModel", "wayHours", "[I", true)
  | 39 => ("ThirdHandsModel", "wayPains", "[I", true)
  | 40 => ("ThirdHandsModel", "wayHands", "[I", true)
  | 41 => ("ThirdHandsModel", "shownHands", "I", false)
  | 42 => ("ThirdHandsModel", "shownMany", "I", false)
  | 43 => ("ThirdHandsModel", "met", "[Z", true)
  | 44 => ("ThirdHandsModel", "sums", "[I", true)
  | 45 => ("ThirdHandsModel", "bestUnit", "[I", true)
  | 46 => ("ThirdHandsModel", "keys", "[J", true)
  | 47 => ("ThirdHandsModel", "bestSum", "I", false)
  | 48 => ("ThirdHandsModel", "bestMany", "I", false)
  | 49 => ("ThirdHandsModel", "bestPains", "I", false)
  | 50 => ("ThirdHandsModel", "coming", "I", false)
  | 51 => ("ThirdHandsModel", "seed", "I", false)
  | 52 => ("ThirdHandsModel", "holder", "[I", true)
  | 53 => ("ThirdHandsModel", "many", "[I", true)
  | 54 => ("ThirdHandsModel", "from", "[I", true)
  | 55 => ("ThirdHandsModel", "hadBy", "[I", true)
  | 56 => ("ThirdHandsModel", "unitTowns", "[I", true)
  | 57 => ("ThirdHandsModel", "judged", "[I", true)
  | 58 => ("ThirdHandsModel", "shown", "[I", true)
  | 59 => ("ThirdHandsModel", "hour", "I", false)
  | 60 => ("ThirdHandsModel", "wantsMet", "I", false)
  | 61 => ("ThirdHandsModel", "painsNow", "I", false)
  | 62 => ("ThirdHandsModel", "judgedUnits", "I", false)
  | 63 => ("ThirdHandsModel", "gets", "I", false)
  | 64 => ("ThirdHandsModel", "middleBy", "I", false)
  | 65 => ("ThirdHandsModel", "rested", "[I", true)
  | 66 => ("ThirdHandsModel", "restedMany", "I", false)
  | 67 => ("ThirdHandsModel", "ring", "[I", true)
  | 68 => ("ThirdHandsModel", "gains", "[I", true)
  | 69 => ("ThirdHandsModel", "gained", "[I", true)
  | 70 => ("ThirdHandsModel", "ringMany", "I", false)
  | 71 => ("ThirdHandsModel", "gainedMany", "I", false)
  | 72 => ("ThirdHandsModel", "starved", "I", false)
  | 73 => ("ThirdHandsModel", "of", "[I", true)
  | 74 => ("ThirdHandsModel", "sorted", "[I", true)
  | 75 => ("ThirdHandsModel", "ofMany", "I", false)
  | 76 => ("ThirdHandsModel", "lastOne", "I", false)
  | 77 => ("ThirdHandsModel", "kept", "[I", true)
  | 78 => ("ThirdHandsModel", "namesKept", "[J", true)
  | _ => ("ThirdHandsModel", "isKept", "[Z", true)
def tyX12 : Nat → FieldType := fun k => match k with
  | 0 => .int
  | 1 => .array .byte
  | 2 => .int
  | 3 => .int
  | 4 => .int
  | 5 => .int
  | 6 => .array .int
  | 7 => .array .int
  | 8 => .array .int
  | 9 => .array .long
  | 10 => .array .long
  | 11 => .int
  | 12 => .int
  | 13 => .int
  | 14 => .int
  | 15 => .int
  | 16 => .int
  | 17 => .long
  | 18 => .int
  | 19 => .boolean
  | 20 => .int
  | 21 => .array .int
  | 22 => .array .int
  | 23 => .array .int
  | 24 => .array .int
  | 25 => .int
  | 26 => .int
  | 27 => .int
  | 28 => .array .int
  | 29 => .array .int
  | 30 => .array .int
  | 31 => .array .int
  | 32 => .array .int
  | 33 => .array .int
  | 34 => .int
  | 35 => .int
  | 36 => .int
  | 37 => .array .int
  | 38 => .array .int
  | 39 => .array .int
  | 40 => .array .int
  | 41 => .int
  | 42 => .int
  | 43 => .array .boolean
  | 44 => .array .int
  | 45 => .array .int
  | 46 => .array .long
  | 47 => .int
  | 48 => .int
  | 49 => .int
  | 50 => .int
  | 51 => .int
  | 52 => .array .int
  | 53 => .array .int
  | 54 => .array .int
  | 55 => .array .int
  | 56 => .array .int
  | 57 => .array .int
  | 58 => .array .int
  | 59 => .int
  | 60 => .int
  | 61 => .int
  | 62 => .int
  | 63 => .int
  | 64 => .int
  | 65 => .array .int
  | 66 => .int
  | 67 => .array .int
  | 68 => .array .int
  | 69 => .array .int
  | 70 => .int
  | 71 => .int
  | 72 => .int
  | 73 => .array .int
  | 74 => .array .int
  | 75 => .int
  | 76 => .int
  | 77 => .array .int
  | 78 => .array .long
  | _ => .array .boolean
abbrev wsX120 : List Cond := u_ws RX12 TX12 80
theorem nmX12 : ∀ a, a < 80 → ∀ b, b < 80 → a ≠ b → (TX12 a).2.1 ≠ (TX12 b).2.1 := by decide +kernel
theorem tyX12_ok : ∀ k, k < 80 → parseFieldDescriptor (TX12 k).2.2.1 = some (tyX12 k) := by decide +kernel
abbrev cX12_thrown : ByteArray := prog_14_method_1_code
def yX12_thrown : MethodName := ⟨RX12, "thrown", "()I"⟩
abbrev cX12_throwsIf : ByteArray := prog_14_method_2_code
def yX12_throwsIf : MethodName := ⟨RX12, "throwsIf", "(Z)Z"⟩
abbrev cX12_feed : ByteArray := prog_14_method_3_code
def yX12_feed : MethodName := ⟨RX12, "feed", "(IIIII)I"⟩
abbrev cX12_four : ByteArray := prog_14_method_4_code
def yX12_four : MethodName := ⟨RX12, "four", "(I)V"⟩
abbrev cX12_end : ByteArray := prog_14_method_5_code
def yX12_end : MethodName := ⟨RX12, "end", "(I)Z"⟩
abbrev cX12_taken : ByteArray := prog_14_method_6_code
def yX12_taken : MethodName := ⟨RX12, "taken", "(I)V"⟩
abbrev cX12_isIn : ByteArray := prog_14_method_7_code
def yX12_isIn : MethodName := ⟨RX12, "isIn", "(III)Z"⟩
abbrev cX12_has : ByteArray := prog_14_method_8_code
def yX12_has : MethodName := ⟨RX12, "has", "(II)Z"⟩
abbrev cX12_count1 : ByteArray := prog_14_method_9_code
def yX12_count1 : MethodName := ⟨RX12, "count1", "(I)I"⟩
abbrev cX12_octet : ByteArray := prog_14_method_10_code
def yX12_octet : MethodName := ⟨RX12, "octet", "(I)I"⟩
abbrev cX12_init : ByteArray := prog_14_method_11_code
def yX12_init : MethodName := ⟨RX12, "<init>", "()V"⟩
abbrev cX12_peek : ByteArray := prog_14_method_12_code
def yX12_peek : MethodName := ⟨RX12, "peek", "()I"⟩
abbrev cX12_isSmall : ByteArray := prog_14_method_13_code
def yX12_isSmall : MethodName := ⟨RX12, "isSmall", "(I)Z"⟩
abbrev cX12_isDigit : ByteArray := prog_14_method_14_code
def yX12_isDigit : MethodName := ⟨RX12, "isDigit", "(I)Z"⟩
abbrev cX12_next : ByteArray := prog_14_method_15_code
def yX12_next : MethodName := ⟨RX12, "next", "()V"⟩
abbrev cX12_bad : ByteArray := prog_14_method_16_code
def yX12_bad : MethodName := ⟨RX12, "bad", "(I)Z"⟩
abbrev cX12_isWord : ByteArray := prog_14_method_17_code
def yX12_isWord : MethodName := ⟨RX12, "isWord", "(J)Z"⟩
abbrev cX12_isSign : ByteArray := prog_14_method_18_code
def yX12_isSign : MethodName := ⟨RX12, "isSign", "(I)Z"⟩
abbrev cX12_sign : ByteArray := prog_14_method_19_code
def yX12_sign : MethodName := ⟨RX12, "sign", "(I)Z"⟩
abbrev cX12_isName : ByteArray := prog_14_method_20_code
def yX12_isName : MethodName := ⟨RX12, "isName", "()Z"⟩
abbrev cX12_takes : ByteArray := prog_14_method_21_code
def yX12_takes : MethodName := ⟨RX12, "takes", "(II)Z"⟩
abbrev cX12_find : ByteArray := prog_14_method_22_code
def yX12_find : MethodName := ⟨RX12, "find", "(II)I"⟩
abbrev cX12_takesWho : ByteArray := prog_14_method_23_code
def yX12_takesWho : MethodName := ⟨RX12, "takesWho", "(I)Z"⟩
abbrev cX12_takesSort : ByteArray := prog_14_method_24_code
def yX12_takesSort : MethodName := ⟨RX12, "takesSort", "()Z"⟩
abbrev cX12_fresh : ByteArray := prog_14_method_25_code
def yX12_fresh : MethodName := ⟨RX12, "fresh", "()Z"⟩
abbrev cX12_line : ByteArray := prog_14_method_26_code
def yX12_line : MethodName := ⟨RX12, "line", "()Z"⟩
abbrev cX12_readWho : ByteArray := prog_14_method_27_code
def yX12_readWho : MethodName := ⟨RX12, "readWho", "()Z"⟩
abbrev cX12_readSort : ByteArray := prog_14_method_28_code
def yX12_readSort : MethodName := ⟨RX12, "readSort", "()Z"⟩
abbrev cX12_readMakes : ByteArray := prog_14_method_29_code
def yX12_readMakes : MethodName := ⟨RX12, "readMakes", "()Z"⟩
abbrev cX12_readWants : ByteArray := prog_14_method_30_code
def yX12_readWants : MethodName := ⟨RX12, "readWants", "()Z"⟩
abbrev cX12_readGives : ByteArray := prog_14_method_31_code
def yX12_readGives : MethodName := ⟨RX12, "readGives", "()Z"⟩
abbrev cX12_readLaw : ByteArray := prog_14_method_32_code
def yX12_readLaw : MethodName := ⟨RX12, "readLaw", "()Z"⟩
abbrev cX12_village : ByteArray := prog_14_method_33_code
def yX12_village : MethodName := ⟨RX12, "village", "()I"⟩
abbrev cX12_fault : ByteArray := prog_14_method_34_code
def yX12_fault : MethodName := ⟨RX12, "fault", "()I"⟩
abbrev cX12_isWho : ByteArray := prog_14_method_35_code
def yX12_isWho : MethodName := ⟨RX12, "isWho", "(I)Z"⟩
abbrev cX12_isUnit : ByteArray := prog_14_method_36_code
def yX12_isUnit : MethodName := ⟨RX12, "isUnit", "(I)Z"⟩
abbrev cX12_isWant : ByteArray := prog_14_method_37_code
def yX12_isWant : MethodName := ⟨RX12, "isWant", "(I)Z"⟩
abbrev cX12_sortOf : ByteArray := prog_14_method_38_code
def yX12_sortOf : MethodName := ⟨RX12, "sortOf", "(I)I"⟩
abbrev cX12_spoils : ByteArray := prog_14_method_39_code
def yX12_spoils : MethodName := ⟨RX12, "spoils", "(I)I"⟩
abbrev cX12_isFirst : ByteArray := prog_14_method_40_code
def yX12_isFirst : MethodName := ⟨RX12, "isFirst", "(II)Z"⟩
abbrev cX12_unit : ByteArray := prog_14_method_41_code
def yX12_unit : MethodName := ⟨RX12, "unit", "(II)I"⟩
abbrev cX12_want : ByteArray := prog_14_method_42_code
def yX12_want : MethodName := ⟨RX12, "want", "(II)I"⟩
abbrev cX12_giving : ByteArray := prog_14_method_43_code
def yX12_giving : MethodName := ⟨RX12, "giving", "(III)I"⟩
abbrev cX12_asTold : ByteArray := prog_14_method_44_code
def yX12_asTold : MethodName := ⟨RX12, "asTold", "()V"⟩
abbrev cX12_mayCome : ByteArray := prog_14_method_45_code
def yX12_mayCome : MethodName := ⟨RX12, "mayCome", "(III)Z"⟩
abbrev cX12_put : ByteArray := prog_14_method_46_code
def yX12_put : MethodName := ⟨RX12, "put", "(III)V"⟩
abbrev cX12_away : ByteArray := prog_14_method_47_code
def yX12_away : MethodName := ⟨RX12, "away", "(I)V"⟩
abbrev cX12_begin : ByteArray := prog_14_method_48_code
def yX12_begin : MethodName := ⟨RX12, "begin", "(I)V"⟩
abbrev cX12_nextRow : ByteArray := prog_14_method_49_code
def yX12_nextRow : MethodName := ⟨RX12, "nextRow", "(II)Z"⟩
abbrev cX12_lastHour : ByteArray := prog_14_method_50_code
def yX12_lastHour : MethodName := ⟨RX12, "lastHour", "(II)I"⟩
abbrev cX12_weighUnit : ByteArray := prog_14_method_51_code
def yX12_weighUnit : MethodName := ⟨RX12, "weighUnit", "(I)V"⟩
abbrev cX12_areFirsts : ByteArray := prog_14_method_52_code
def yX12_areFirsts : MethodName := ⟨RX12, "areFirsts", "(I)Z"⟩
abbrev cX12_weigh : ByteArray := prog_14_method_53_code
def yX12_weigh : MethodName := ⟨RX12, "weigh", "()V"⟩
abbrev cX12_isWay : ByteArray := prog_14_method_54_code
def yX12_isWay : MethodName := ⟨RX12, "isWay", "(II)Z"⟩
abbrev cX12_way : ByteArray := prog_14_method_55_code
def yX12_way : MethodName := ⟨RX12, "way", "(III)I"⟩
abbrev cX12_hand : ByteArray := prog_14_method_56_code
def yX12_hand : MethodName := ⟨RX12, "hand", "(I)I"⟩
abbrev cX12_meets : ByteArray := prog_14_method_57_code
def yX12_meets : MethodName := ⟨RX12, "meets", "()V"⟩
abbrev cX12_mostMet : ByteArray := prog_14_method_58_code
def yX12_mostMet : MethodName := ⟨RX12, "mostMet", "()I"⟩
abbrev cX12_most : ByteArray := prog_14_method_59_code
def yX12_most : MethodName := ⟨RX12, "most", "()I"⟩
abbrev cX12_bars : ByteArray := prog_14_method_60_code
def yX12_bars : MethodName := ⟨RX12, "bars", "()I"⟩
abbrev cX12_seventeen : ByteArray := prog_14_method_61_code
def yX12_seventeen : MethodName := ⟨RX12, "seventeen", "(I)J"⟩
abbrev cX12_bestDay : ByteArray := prog_14_method_62_code
def yX12_bestDay : MethodName := ⟨RX12, "bestDay", "()V"⟩
abbrev cX12_best : ByteArray := prog_14_method_63_code
def yX12_best : MethodName := ⟨RX12, "best", "(I)I"⟩
abbrev cX12_bestOf : ByteArray := prog_14_method_64_code
def yX12_bestOf : MethodName := ⟨RX12, "bestOf", "(I)I"⟩
abbrev cX12_act : ByteArray := prog_14_method_65_code
def yX12_act : MethodName := ⟨RX12, "act", "()Z"⟩
abbrev cX12_keepPlan : ByteArray := prog_14_method_66_code
def yX12_keepPlan : MethodName := ⟨RX12, "keepPlan", "()V"⟩
abbrev cX12_plan : ByteArray := prog_14_method_67_code
def yX12_plan : MethodName := ⟨RX12, "plan", "()I"⟩
abbrev cX12_draw : ByteArray := prog_14_method_68_code
def yX12_draw : MethodName := ⟨RX12, "draw", "(I)I"⟩
abbrev cX12_drawn : ByteArray := prog_14_method_69_code
def yX12_drawn : MethodName := ⟨RX12, "drawn", "(II)I"⟩
abbrev cX12_act_ : ByteArray := prog_14_method_70_code
def yX12_act_ : MethodName := ⟨RX12, "act", "(II)I"⟩
abbrev cX12_wantFor : ByteArray := prog_14_method_71_code
def yX12_wantFor : MethodName := ⟨RX12, "wantFor", "(II)I"⟩
abbrev cX12_lesserFirst : ByteArray := prog_14_method_72_code
def yX12_lesserFirst : MethodName := ⟨RX12, "lesserFirst", "(I)I"⟩
abbrev cX12_giver : ByteArray := prog_14_method_73_code
def yX12_giver : MethodName := ⟨RX12, "giver", "(II)I"⟩
abbrev cX12_forbids : ByteArray := prog_14_method_74_code
def yX12_forbids : MethodName := ⟨RX12, "forbids", "(III)Z"⟩
abbrev cX12_whyNot : ByteArray := prog_14_method_75_code
def yX12_whyNot : MethodName := ⟨RX12, "whyNot", "(I)I"⟩
abbrev cX12_whyNoUse : ByteArray := prog_14_method_76_code
def yX12_whyNoUse : MethodName := ⟨RX12, "whyNoUse", "(I)I"⟩
abbrev cX12_does : ByteArray := prog_14_method_77_code
def yX12_does : MethodName := ⟨RX12, "does", "(I)I"⟩
abbrev cX12_judge : ByteArray := prog_14_method_78_code
def yX12_judge : MethodName := ⟨RX12, "judge", "()I"⟩
abbrev cX12_judged : ByteArray := prog_14_method_79_code
def yX12_judged : MethodName := ⟨RX12, "judged", "(I)I"⟩
abbrev cX12_holds : ByteArray := prog_14_method_80_code
def yX12_holds : MethodName := ⟨RX12, "holds", "(II)I"⟩
abbrev cX12_ways : ByteArray := prog_14_method_81_code
def yX12_ways : MethodName := ⟨RX12, "ways", "(III)I"⟩
abbrev cX12_latest : ByteArray := prog_14_method_82_code
def yX12_latest : MethodName := ⟨RX12, "latest", "(II)I"⟩
abbrev cX12_asksBest : ByteArray := prog_14_method_83_code
def yX12_asksBest : MethodName := ⟨RX12, "asksBest", "(I)I"⟩
abbrev cX12_middle : ByteArray := prog_14_method_84_code
def yX12_middle : MethodName := ⟨RX12, "middle", "(I)I"⟩
abbrev cX12_middleBy : ByteArray := prog_14_method_85_code
def yX12_middleBy : MethodName := ⟨RX12, "middleBy", "()I"⟩
abbrev cX12_rest : ByteArray := prog_14_method_86_code
def yX12_rest : MethodName := ⟨RX12, "rest", "()I"⟩
abbrev cX12_restOf : ByteArray := prog_14_method_87_code
def yX12_restOf : MethodName := ⟨RX12, "restOf", "(I)I"⟩
abbrev cX12_isRing : ByteArray := prog_14_method_88_code
def yX12_isRing : MethodName := ⟨RX12, "isRing", "()Z"⟩
abbrev cX12_goesRound : ByteArray := prog_14_method_89_code
def yX12_goesRound : MethodName := ⟨RX12, "goesRound", "()Z"⟩
abbrev cX12_unitBy : ByteArray := prog_14_method_90_code
def yX12_unitBy : MethodName := ⟨RX12, "unitBy", "(I)I"⟩
abbrev cX12_goesOn : ByteArray := prog_14_method_91_code
def yX12_goesOn : MethodName := ⟨RX12, "goesOn", "(II)Z"⟩
abbrev cX12_gain : ByteArray := prog_14_method_92_code
def yX12_gain : MethodName := ⟨RX12, "gain", "()V"⟩
abbrev cX12_ring : ByteArray := prog_14_method_93_code
def yX12_ring : MethodName := ⟨RX12, "ring", "()I"⟩
abbrev cX12_gain_ : ByteArray := prog_14_method_94_code
def yX12_gain_ : MethodName := ⟨RX12, "gain", "(I)I"⟩
abbrev cX12_lasts : ByteArray := prog_14_method_95_code
def yX12_lasts : MethodName := ⟨RX12, "lasts", "()I"⟩
abbrev cX12_quarrel : ByteArray := prog_14_method_96_code
def yX12_quarrel : MethodName := ⟨RX12, "quarrel", "(II)I"⟩
abbrev cX12_starves : ByteArray := prog_14_method_97_code
def yX12_starves : MethodName := ⟨RX12, "starves", "()I"⟩
abbrev cX12_mend : ByteArray := prog_14_method_98_code
def yX12_mend : MethodName := ⟨RX12, "mend", "()I"⟩
abbrev cX12_live : ByteArray := prog_14_method_99_code
def yX12_live : MethodName := ⟨RX12, "live", "()I"⟩
abbrev cX12_stop : ByteArray := prog_14_method_100_code
def yX12_stop : MethodName := ⟨RX12, "stop", "()I"⟩
abbrev cX12_other : ByteArray := prog_14_method_101_code
def yX12_other : MethodName := ⟨RX12, "other", "(III)I"⟩
abbrev cX12_notesOf : ByteArray := prog_14_method_102_code
def yX12_notesOf : MethodName := ⟨RX12, "notesOf", "(I)V"⟩
abbrev cX12_note : ByteArray := prog_14_method_103_code
def yX12_note : MethodName := ⟨RX12, "note", "(IIII)I"⟩
abbrev cX12_areTrue : ByteArray := prog_14_method_104_code
def yX12_areTrue : MethodName := ⟨RX12, "areTrue", "(II)Z"⟩
abbrev cX12_lies : ByteArray := prog_14_method_105_code
def yX12_lies : MethodName := ⟨RX12, "lies", "(II)I"⟩
abbrev cX12_image : ByteArray := prog_14_method_106_code
def yX12_image : MethodName := ⟨RX12, "image", "(I)Z"⟩
abbrev cX12_restore : ByteArray := prog_14_method_107_code
def yX12_restore : MethodName := ⟨RX12, "restore", "(I)Z"⟩
abbrev cX12_count : ByteArray := prog_14_method_108_code
def yX12_count : MethodName := ⟨RX12, "count", "(I)I"⟩
def RJx145de : String := "java/io/Serializable"
def TJx145de : u_T := fun k => match k with
  | _ => ("", "", "", false)
def tyJx145de : Nat → FieldType := fun k => match k with
  | _ => .int
def RJx9f9b0 : String := "java/lang/CharSequence"
def TJx9f9b0 : u_T := fun k => match k with
  | _ => ("", "", "", false)
def tyJx9f9b0 : Nat → FieldType := fun k => match k with
  | _ => .int
def RJxb160c : String := "java/lang/Comparable"
def TJxb160c : u_T := fun k => match k with
  | _ => ("", "", "", false)
def tyJxb160c : Nat → FieldType := fun k => match k with
  | _ => .int
def RJ6 : String := "java/lang/Integer"
def TJ6 : u_T := fun k => match k with
  | _ => ("", "", "", false)
def tyJ6 : Nat → FieldType := fun k => match k with
  | _ => .int
abbrev cJ6_bitCount_0f7a4 : ByteArray := prog_19_method_49_code
def yJ6_bitCount_0f7a4 : MethodName := ⟨RJ6, "bitCount", "(I)I"⟩
def RJ9 : String := "java/lang/Math"
def TJ9 : u_T := fun k => match k with
  | _ => ("", "", "", false)
def tyJ9 : Nat → FieldType := fun k => match k with
  | _ => .int
abbrev cJ9_max_7cf53 : ByteArray := prog_20_method_65_code
def yJ9_max_7cf53 : MethodName := ⟨RJ9, "max", "(II)I"⟩
abbrev cJ9_max_f86c9 : ByteArray := prog_20_method_66_code
def yJ9_max_f86c9 : MethodName := ⟨RJ9, "max", "(JJ)J"⟩
abbrev cJ9_min_7cf53 : ByteArray := prog_20_method_69_code
def yJ9_min_7cf53 : MethodName := ⟨RJ9, "min", "(II)I"⟩
abbrev cJ9_min_f86c9 : ByteArray := prog_20_method_70_code
def yJ9_min_f86c9 : MethodName := ⟨RJ9, "min", "(JJ)J"⟩
def RJ0 : String := "java/lang/String"
def TJ0 : u_T := fun k => match k with
  | _ => ("", "", "", false)
def tyJ0 : Nat → FieldType := fun k => match k with
  | _ => .int
abbrev cJ0_length_8abf5 : ByteArray := prog_22_method_54_code
def yJ0_length_8abf5 : MethodName := ⟨RJ0, "length", "()I"⟩
abbrev cJ0_charAt_5068e : ByteArray := prog_22_method_56_code
def yJ0_charAt_5068e : MethodName := ⟨RJ0, "charAt", "(I)C"⟩
abbrev cJ0_coder_7d493 : ByteArray := prog_22_method_152_code
def yJ0_coder_7d493 : MethodName := ⟨RJ0, "coder", "()B"⟩
abbrev cJ0_isLatin1_aae02 : ByteArray := prog_22_method_154_code
def yJ0_isLatin1_aae02 : MethodName := ⟨RJ0, "isLatin1", "()Z"⟩
abbrev cJ0_checkIndex_df160 : ByteArray := prog_22_method_155_code
def yJ0_checkIndex_df160 : MethodName := ⟨RJ0, "checkIndex", "(II)V"⟩
def RJ1 : String := "java/lang/StringLatin1"
def TJ1 : u_T := fun k => match k with
  | _ => ("", "", "", false)
def tyJ1 : Nat → FieldType := fun k => match k with
  | _ => .int
abbrev cJ1_charAt_3b067 : ByteArray := prog_23_method_2_code
def yJ1_charAt_3b067 : MethodName := ⟨RJ1, "charAt", "([BI)C"⟩
def RJ2 : String := "java/lang/StringUTF16"
def TJ2 : u_T := fun k => match k with
  | _ => ("", "", "", false)
def tyJ2 : Nat → FieldType := fun k => match k with
  | _ => .int
abbrev cJ2_getChar_3b067 : ByteArray := prog_24_method_5_code
def yJ2_getChar_3b067 : MethodName := ⟨RJ2, "getChar", "([BI)C"⟩
abbrev cJ2_length_9d52b : ByteArray := prog_24_method_6_code
def yJ2_length_9d52b : MethodName := ⟨RJ2, "length", "([B)I"⟩
abbrev cJ2_charAt_3b067 : ByteArray := prog_24_method_83_code
def yJ2_charAt_3b067 : MethodName := ⟨RJ2, "charAt", "([BI)C"⟩
abbrev cJ2_checkIndex_2214a : ByteArray := prog_24_method_91_code
def yJ2_checkIndex_2214a : MethodName := ⟨RJ2, "checkIndex", "(I[B)V"⟩
def RJ10 : String := "java/lang/System"
def TJ10 : u_T := fun k => match k with
  | _ => ("", "", "", false)
def tyJ10 : Nat → FieldType := fun k => match k with
  | _ => .int
def RJxfd54e : String := "java/lang/constant/Constable"
def TJxfd54e : u_T := fun k => match k with
  | _ => ("", "", "", false)
def tyJxfd54e : Nat → FieldType := fun k => match k with
  | _ => .int
def RJx3cf43 : String := "java/lang/constant/ConstantDesc"
def TJx3cf43 : u_T := fun k => match k with
  | _ => ("", "", "", false)
def tyJx3cf43 : Nat → FieldType := fun k => match k with
  | _ => .int
def RJ7 : String := "java/util/Arrays"
def TJ7 : u_T := fun k => match k with
  | _ => ("", "", "", false)
def tyJ7 : Nat → FieldType := fun k => match k with
  | _ => .int
abbrev cJ7_fill_d0a16 : ByteArray := prog_29_method_101_code
def yJ7_fill_d0a16 : MethodName := ⟨RJ7, "fill", "([JJ)V"⟩
abbrev cJ7_fill_53178 : ByteArray := prog_29_method_103_code
def yJ7_fill_53178 : MethodName := ⟨RJ7, "fill", "([II)V"⟩
def RJ3 : String := "jdk/internal/util/Preconditions"
def TJ3 : u_T := fun k => match k with
  | _ => ("", "", "", false)
def tyJ3 : Nat → FieldType := fun k => match k with
  | _ => .int
abbrev cJ3_checkIndex_8e157 : ByteArray := prog_31_method_11_code
def yJ3_checkIndex_8e157 : MethodName := ⟨RJ3, "checkIndex", "(IILjava/util/function/BiFunction;)I"⟩
def RL : String := "ThirdHandsLaw"
abbrev cL_unit : ByteArray := method_3_code
def yL_unit : MethodName := ⟨RL, "unit", "(LThirdHands;II[J)I"⟩
abbrev cL_want : ByteArray := method_4_code
def yL_want : MethodName := ⟨RL, "want", "(LThirdHands;II[J)I"⟩
abbrev cL_act : ByteArray := method_5_code
def yL_act : MethodName := ⟨RL, "act", "(LThirdHands;II[J)I"⟩
abbrev cL_gain : ByteArray := method_6_code
def yL_gain : MethodName := ⟨RL, "gain", "(LThirdHands;I[J)I"⟩
abbrev cL_law : ByteArray := code
def yL_law : MethodName := ⟨RL, "law", "([I)Z"⟩
abbrev vwCl : List vw_C := [(RX0, TX0, 7), (RX1, TX1, 12), (RX2, TX2, 4), (RX3, TX3, 9), (RX4, TX4, 5), (RX5, TX5, 4), (RX6, TX6, 8), (RX7, TX7, 9), (RX8, TX8, 8), (RX9, TX9, 18), (RX10, TX10, 16), (RX11, TX11, 16), (RX12, TX12, 80)]
