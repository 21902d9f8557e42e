section
-- ===== PART A: goes FIRST, ahead of the names: the tables' words, and 'selects' of the private methods out of them =====
/-- a private method of a class that the tables say can be made, by its rows of tables_1 -/
def lw_okq (q : MethodName × Nat) : Prop := (q.1.cls ≠ "java/lang/invoke/MethodHandle" ∧ q.1.cls ≠ "java/lang/invoke/VarHandle") ∧ Cond.instantiable q.1.cls q.2 ∈ tables_1 ∧ Cond.privateMethod q.1 ∈ tables_1 ∧ Cond.instanceMethod q.1 ∈ tables_1
theorem lw_p0 : lw_okq (⟨"AloneRooms", "refuse", "(I)I"⟩, 13) := ⟨⟨by decide +kernel, by decide +kernel⟩, List.mem_of_getElem? (i := 23) (by decide +kernel), List.mem_of_getElem? (i := 354) (by decide +kernel), List.mem_of_getElem? (i := 355) (by decide +kernel)⟩
theorem lw_p1 : lw_okq (⟨"AloneRooms", "isRoom", "(I)Z"⟩, 13) := ⟨⟨by decide +kernel, by decide +kernel⟩, List.mem_of_getElem? (i := 23) (by decide +kernel), List.mem_of_getElem? (i := 366) (by decide +kernel), List.mem_of_getElem? (i := 367) (by decide +kernel)⟩
theorem lw_p2 : lw_okq (⟨"AloneRooms", "isLaw", "(I)Z"⟩, 13) := ⟨⟨by decide +kernel, by decide +kernel⟩, List.mem_of_getElem? (i := 23) (by decide +kernel), List.mem_of_getElem? (i := 393) (by decide +kernel), List.mem_of_getElem? (i := 394) (by decide +kernel)⟩
theorem lw_p3 : lw_okq (⟨"AloneRooms", "isPerson", "(I)Z"⟩, 13) := ⟨⟨by decide +kernel, by decide +kernel⟩, List.mem_of_getElem? (i := 23) (by decide +kernel), List.mem_of_getElem? (i := 401) (by decide +kernel), List.mem_of_getElem? (i := 402) (by decide +kernel)⟩
theorem lw_p4 : lw_okq (⟨"AloneRooms$Text", "advance", "()V"⟩, 7) := ⟨⟨by decide +kernel, by decide +kernel⟩, List.mem_of_getElem? (i := 120) (by decide +kernel), List.mem_of_getElem? (i := 428) (by decide +kernel), List.mem_of_getElem? (i := 429) (by decide +kernel)⟩
theorem lw_p5 : lw_okq (⟨"AloneRooms$Text", "isWithin", "(ICC)Z"⟩, 7) := ⟨⟨by decide +kernel, by decide +kernel⟩, List.mem_of_getElem? (i := 120) (by decide +kernel), List.mem_of_getElem? (i := 432) (by decide +kernel), List.mem_of_getElem? (i := 433) (by decide +kernel)⟩
theorem lw_p6 : lw_okq (⟨"AloneRooms$Text", "endOf", "(CC)I"⟩, 7) := ⟨⟨by decide +kernel, by decide +kernel⟩, List.mem_of_getElem? (i := 120) (by decide +kernel), List.mem_of_getElem? (i := 436) (by decide +kernel), List.mem_of_getElem? (i := 437) (by decide +kernel)⟩
theorem lw_p7 : lw_okq (⟨"AloneRooms$Text", "wordToken", "()I"⟩, 7) := ⟨⟨by decide +kernel, by decide +kernel⟩, List.mem_of_getElem? (i := 120) (by decide +kernel), List.mem_of_getElem? (i := 440) (by decide +kernel), List.mem_of_getElem? (i := 441) (by decide +kernel)⟩
theorem lw_p8 : lw_okq (⟨"AloneRooms$Text", "spells", "(Ljava/lang/String;)Z"⟩, 7) := ⟨⟨by decide +kernel, by decide +kernel⟩, List.mem_of_getElem? (i := 120) (by decide +kernel), List.mem_of_getElem? (i := 445) (by decide +kernel), List.mem_of_getElem? (i := 446) (by decide +kernel)⟩
theorem lw_p9 : lw_okq (⟨"AloneRooms$Text", "numberToken", "()I"⟩, 7) := ⟨⟨by decide +kernel, by decide +kernel⟩, List.mem_of_getElem? (i := 120) (by decide +kernel), List.mem_of_getElem? (i := 503) (by decide +kernel), List.mem_of_getElem? (i := 504) (by decide +kernel)⟩
theorem lw_p10 : lw_okq (⟨"AloneRooms$Text", "takeNumber", "(II)I"⟩, 7) := ⟨⟨by decide +kernel, by decide +kernel⟩, List.mem_of_getElem? (i := 120) (by decide +kernel), List.mem_of_getElem? (i := 507) (by decide +kernel), List.mem_of_getElem? (i := 508) (by decide +kernel)⟩
theorem lw_p11 : lw_okq (⟨"AloneRooms$Text", "takeStop", "()V"⟩, 7) := ⟨⟨by decide +kernel, by decide +kernel⟩, List.mem_of_getElem? (i := 120) (by decide +kernel), List.mem_of_getElem? (i := 512) (by decide +kernel), List.mem_of_getElem? (i := 513) (by decide +kernel)⟩
theorem lw_p12 : lw_okq (⟨"AloneRooms$Text", "takeItem", "(LAloneRooms$House;)V"⟩, 7) := ⟨⟨by decide +kernel, by decide +kernel⟩, List.mem_of_getElem? (i := 120) (by decide +kernel), List.mem_of_getElem? (i := 516) (by decide +kernel), List.mem_of_getElem? (i := 517) (by decide +kernel)⟩
theorem lw_p13 : lw_okq (⟨"AloneRooms", "isStanding", "(I)Z"⟩, 13) := ⟨⟨by decide +kernel, by decide +kernel⟩, List.mem_of_getElem? (i := 23) (by decide +kernel), List.mem_of_getElem? (i := 534) (by decide +kernel), List.mem_of_getElem? (i := 535) (by decide +kernel)⟩
theorem lw_p14 : lw_okq (⟨"AloneRooms$House", "gather", "(IILAloneRooms$Once;)V"⟩, 15) := ⟨⟨by decide +kernel, by decide +kernel⟩, List.mem_of_getElem? (i := 31) (by decide +kernel), List.mem_of_getElem? (i := 586) (by decide +kernel), List.mem_of_getElem? (i := 587) (by decide +kernel)⟩
theorem lw_p15 : lw_okq (⟨"AloneRooms$Ways", "begin", "()I"⟩, 3) := ⟨⟨by decide +kernel, by decide +kernel⟩, List.mem_of_getElem? (i := 186) (by decide +kernel), List.mem_of_getElem? (i := 671) (by decide +kernel), List.mem_of_getElem? (i := 672) (by decide +kernel)⟩
def lw_privs_1 : List (MethodName × Nat) := [(⟨"AloneRooms", "refuse", "(I)I"⟩, 13), (⟨"AloneRooms", "isRoom", "(I)Z"⟩, 13), (⟨"AloneRooms", "isLaw", "(I)Z"⟩, 13), (⟨"AloneRooms", "isPerson", "(I)Z"⟩, 13), (⟨"AloneRooms$Text", "advance", "()V"⟩, 7), (⟨"AloneRooms$Text", "isWithin", "(ICC)Z"⟩, 7), (⟨"AloneRooms$Text", "endOf", "(CC)I"⟩, 7), (⟨"AloneRooms$Text", "wordToken", "()I"⟩, 7), (⟨"AloneRooms$Text", "spells", "(Ljava/lang/String;)Z"⟩, 7), (⟨"AloneRooms$Text", "numberToken", "()I"⟩, 7), (⟨"AloneRooms$Text", "takeNumber", "(II)I"⟩, 7), (⟨"AloneRooms$Text", "takeStop", "()V"⟩, 7), (⟨"AloneRooms$Text", "takeItem", "(LAloneRooms$House;)V"⟩, 7), (⟨"AloneRooms", "isStanding", "(I)Z"⟩, 13), (⟨"AloneRooms$House", "gather", "(IILAloneRooms$Once;)V"⟩, 15), (⟨"AloneRooms$Ways", "begin", "()I"⟩, 3)]
theorem lw_r1 : ∀ q ∈ lw_privs_1, lw_okq q := List.forall_mem_cons.mpr ⟨lw_p0, List.forall_mem_cons.mpr ⟨lw_p1, List.forall_mem_cons.mpr ⟨lw_p2, List.forall_mem_cons.mpr ⟨lw_p3, List.forall_mem_cons.mpr ⟨lw_p4, List.forall_mem_cons.mpr ⟨lw_p5, List.forall_mem_cons.mpr ⟨lw_p6, List.forall_mem_cons.mpr ⟨lw_p7, List.forall_mem_cons.mpr ⟨lw_p8, List.forall_mem_cons.mpr ⟨lw_p9, List.forall_mem_cons.mpr ⟨lw_p10, List.forall_mem_cons.mpr ⟨lw_p11, List.forall_mem_cons.mpr ⟨lw_p12, List.forall_mem_cons.mpr ⟨lw_p13, List.forall_mem_cons.mpr ⟨lw_p14, List.forall_mem_cons.mpr ⟨lw_p15, fun _ h => absurd h List.not_mem_nil⟩⟩⟩⟩⟩⟩⟩⟩⟩⟩⟩⟩⟩⟩⟩⟩
theorem lw_p16 : lw_okq (⟨"AloneRooms$Evening", "markKeeping", "(I)V"⟩, 11) := ⟨⟨by decide +kernel, by decide +kernel⟩, List.mem_of_getElem? (i := 206) (by decide +kernel), List.mem_of_getElem? (i := 685) (by decide +kernel), List.mem_of_getElem? (i := 686) (by decide +kernel)⟩
theorem lw_p17 : lw_okq (⟨"AloneRooms$Evening", "fillRest", "(I)V"⟩, 11) := ⟨⟨by decide +kernel, by decide +kernel⟩, List.mem_of_getElem? (i := 206) (by decide +kernel), List.mem_of_getElem? (i := 693) (by decide +kernel), List.mem_of_getElem? (i := 694) (by decide +kernel)⟩
theorem lw_p18 : lw_okq (⟨"AloneRooms$Evening", "leastFrom", "(II)I"⟩, 11) := ⟨⟨by decide +kernel, by decide +kernel⟩, List.mem_of_getElem? (i := 206) (by decide +kernel), List.mem_of_getElem? (i := 702) (by decide +kernel), List.mem_of_getElem? (i := 703) (by decide +kernel)⟩
theorem lw_p19 : lw_okq (⟨"AloneRooms$Search", "reach", "(II)V"⟩, 7) := ⟨⟨by decide +kernel, by decide +kernel⟩, List.mem_of_getElem? (i := 251) (by decide +kernel), List.mem_of_getElem? (i := 727) (by decide +kernel), List.mem_of_getElem? (i := 728) (by decide +kernel)⟩
theorem lw_p20 : lw_okq (⟨"AloneRooms$Search", "sideOf", "(I)I"⟩, 7) := ⟨⟨by decide +kernel, by decide +kernel⟩, List.mem_of_getElem? (i := 251) (by decide +kernel), List.mem_of_getElem? (i := 731) (by decide +kernel), List.mem_of_getElem? (i := 732) (by decide +kernel)⟩
theorem lw_p21 : lw_okq (⟨"AloneRooms$Search", "spread", "(II)V"⟩, 7) := ⟨⟨by decide +kernel, by decide +kernel⟩, List.mem_of_getElem? (i := 251) (by decide +kernel), List.mem_of_getElem? (i := 749) (by decide +kernel), List.mem_of_getElem? (i := 750) (by decide +kernel)⟩
theorem lw_p22 : lw_okq (⟨"AloneRooms", "countFits", "(II)I"⟩, 13) := ⟨⟨by decide +kernel, by decide +kernel⟩, List.mem_of_getElem? (i := 23) (by decide +kernel), List.mem_of_getElem? (i := 798) (by decide +kernel), List.mem_of_getElem? (i := 799) (by decide +kernel)⟩
theorem lw_p23 : lw_okq (⟨"AloneRoomsModel", "clearAll", "(I)V"⟩, 18) := ⟨⟨by decide +kernel, by decide +kernel⟩, List.mem_of_getElem? (i := 866) (by decide +kernel), List.mem_of_getElem? (i := 872) (by decide +kernel), List.mem_of_getElem? (i := 873) (by decide +kernel)⟩
theorem lw_p24 : lw_okq (⟨"AloneRoomsModel", "bad", "(I)I"⟩, 18) := ⟨⟨by decide +kernel, by decide +kernel⟩, List.mem_of_getElem? (i := 866) (by decide +kernel), List.mem_of_getElem? (i := 941) (by decide +kernel), List.mem_of_getElem? (i := 942) (by decide +kernel)⟩
theorem lw_p25 : lw_okq (⟨"AloneRoomsModel", "isRoom", "(I)Z"⟩, 18) := ⟨⟨by decide +kernel, by decide +kernel⟩, List.mem_of_getElem? (i := 866) (by decide +kernel), List.mem_of_getElem? (i := 949) (by decide +kernel), List.mem_of_getElem? (i := 950) (by decide +kernel)⟩
theorem lw_p26 : lw_okq (⟨"AloneRoomsModel", "no", "()I"⟩, 18) := ⟨⟨by decide +kernel, by decide +kernel⟩, List.mem_of_getElem? (i := 866) (by decide +kernel), List.mem_of_getElem? (i := 956) (by decide +kernel), List.mem_of_getElem? (i := 957) (by decide +kernel)⟩
theorem lw_p27 : lw_okq (⟨"AloneRoomsModel", "layDoor", "(IIZ)V"⟩, 18) := ⟨⟨by decide +kernel, by decide +kernel⟩, List.mem_of_getElem? (i := 866) (by decide +kernel), List.mem_of_getElem? (i := 960) (by decide +kernel), List.mem_of_getElem? (i := 961) (by decide +kernel)⟩
theorem lw_p28 : lw_okq (⟨"AloneRoomsModel", "full", "()I"⟩, 18) := ⟨⟨by decide +kernel, by decide +kernel⟩, List.mem_of_getElem? (i := 866) (by decide +kernel), List.mem_of_getElem? (i := 977) (by decide +kernel), List.mem_of_getElem? (i := 978) (by decide +kernel)⟩
theorem lw_p29 : lw_okq (⟨"AloneRoomsModel", "addPerson", "(I)I"⟩, 18) := ⟨⟨by decide +kernel, by decide +kernel⟩, List.mem_of_getElem? (i := 866) (by decide +kernel), List.mem_of_getElem? (i := 981) (by decide +kernel), List.mem_of_getElem? (i := 982) (by decide +kernel)⟩
theorem lw_p30 : lw_okq (⟨"AloneRoomsModel", "isPerson", "(I)Z"⟩, 18) := ⟨⟨by decide +kernel, by decide +kernel⟩, List.mem_of_getElem? (i := 866) (by decide +kernel), List.mem_of_getElem? (i := 994) (by decide +kernel), List.mem_of_getElem? (i := 995) (by decide +kernel)⟩
theorem lw_p31 : lw_okq (⟨"AloneRoomsModel", "fault", "()I"⟩, 18) := ⟨⟨by decide +kernel, by decide +kernel⟩, List.mem_of_getElem? (i := 866) (by decide +kernel), List.mem_of_getElem? (i := 1012) (by decide +kernel), List.mem_of_getElem? (i := 1013) (by decide +kernel)⟩
def lw_privs_2 : List (MethodName × Nat) := [(⟨"AloneRooms$Evening", "markKeeping", "(I)V"⟩, 11), (⟨"AloneRooms$Evening", "fillRest", "(I)V"⟩, 11), (⟨"AloneRooms$Evening", "leastFrom", "(II)I"⟩, 11), (⟨"AloneRooms$Search", "reach", "(II)V"⟩, 7), (⟨"AloneRooms$Search", "sideOf", "(I)I"⟩, 7), (⟨"AloneRooms$Search", "spread", "(II)V"⟩, 7), (⟨"AloneRooms", "countFits", "(II)I"⟩, 13), (⟨"AloneRoomsModel", "clearAll", "(I)V"⟩, 18), (⟨"AloneRoomsModel", "bad", "(I)I"⟩, 18), (⟨"AloneRoomsModel", "isRoom", "(I)Z"⟩, 18), (⟨"AloneRoomsModel", "no", "()I"⟩, 18), (⟨"AloneRoomsModel", "layDoor", "(IIZ)V"⟩, 18), (⟨"AloneRoomsModel", "full", "()I"⟩, 18), (⟨"AloneRoomsModel", "addPerson", "(I)I"⟩, 18), (⟨"AloneRoomsModel", "isPerson", "(I)Z"⟩, 18), (⟨"AloneRoomsModel", "fault", "()I"⟩, 18)]
theorem lw_r2 : ∀ q ∈ lw_privs_2, lw_okq q := List.forall_mem_cons.mpr ⟨lw_p16, List.forall_mem_cons.mpr ⟨lw_p17, List.forall_mem_cons.mpr ⟨lw_p18, List.forall_mem_cons.mpr ⟨lw_p19, List.forall_mem_cons.mpr ⟨lw_p20, List.forall_mem_cons.mpr ⟨lw_p21, List.forall_mem_cons.mpr ⟨lw_p22, List.forall_mem_cons.mpr ⟨lw_p23, List.forall_mem_cons.mpr ⟨lw_p24, List.forall_mem_cons.mpr ⟨lw_p25, List.forall_mem_cons.mpr ⟨lw_p26, List.forall_mem_cons.mpr ⟨lw_p27, List.forall_mem_cons.mpr ⟨lw_p28, List.forall_mem_cons.mpr ⟨lw_p29, List.forall_mem_cons.mpr ⟨lw_p30, List.forall_mem_cons.mpr ⟨lw_p31, fun _ h => absurd h List.not_mem_nil⟩⟩⟩⟩⟩⟩⟩⟩⟩⟩⟩⟩⟩⟩⟩⟩
theorem lw_p32 : lw_okq (⟨"AloneRoomsModel", "token", "()V"⟩, 18) := ⟨⟨by decide +kernel, by decide +kernel⟩, List.mem_of_getElem? (i := 866) (by decide +kernel), List.mem_of_getElem? (i := 1016) (by decide +kernel), List.mem_of_getElem? (i := 1017) (by decide +kernel)⟩
theorem lw_p33 : lw_okq (⟨"AloneRoomsModel", "readsItem", "()Z"⟩, 18) := ⟨⟨by decide +kernel, by decide +kernel⟩, List.mem_of_getElem? (i := 866) (by decide +kernel), List.mem_of_getElem? (i := 1023) (by decide +kernel), List.mem_of_getElem? (i := 1024) (by decide +kernel)⟩
theorem lw_p34 : lw_okq (⟨"AloneRoomsModel", "wordOf", "()I"⟩, 18) := ⟨⟨by decide +kernel, by decide +kernel⟩, List.mem_of_getElem? (i := 866) (by decide +kernel), List.mem_of_getElem? (i := 1027) (by decide +kernel), List.mem_of_getElem? (i := 1028) (by decide +kernel)⟩
theorem lw_p35 : lw_okq (⟨"AloneRoomsModel", "isWord", "(II)Z"⟩, 18) := ⟨⟨by decide +kernel, by decide +kernel⟩, List.mem_of_getElem? (i := 866) (by decide +kernel), List.mem_of_getElem? (i := 1032) (by decide +kernel), List.mem_of_getElem? (i := 1033) (by decide +kernel)⟩
theorem lw_p36 : lw_okq (⟨"AloneRoomsModel", "readsRest", "(I)Z"⟩, 18) := ⟨⟨by decide +kernel, by decide +kernel⟩, List.mem_of_getElem? (i := 866) (by decide +kernel), List.mem_of_getElem? (i := 1040) (by decide +kernel), List.mem_of_getElem? (i := 1041) (by decide +kernel)⟩
theorem lw_p37 : lw_okq (⟨"AloneRoomsModel", "reads", "(IIII)Z"⟩, 18) := ⟨⟨by decide +kernel, by decide +kernel⟩, List.mem_of_getElem? (i := 866) (by decide +kernel), List.mem_of_getElem? (i := 1044) (by decide +kernel), List.mem_of_getElem? (i := 1045) (by decide +kernel)⟩
theorem lw_p38 : lw_okq (⟨"AloneRoomsModel", "tell", "(I)V"⟩, 18) := ⟨⟨by decide +kernel, by decide +kernel⟩, List.mem_of_getElem? (i := 866) (by decide +kernel), List.mem_of_getElem? (i := 1048) (by decide +kernel), List.mem_of_getElem? (i := 1049) (by decide +kernel)⟩
theorem lw_p39 : lw_okq (⟨"AloneRoomsModel", "isStanding", "(I)Z"⟩, 18) := ⟨⟨by decide +kernel, by decide +kernel⟩, List.mem_of_getElem? (i := 866) (by decide +kernel), List.mem_of_getElem? (i := 1056) (by decide +kernel), List.mem_of_getElem? (i := 1057) (by decide +kernel)⟩
theorem lw_p40 : lw_okq (⟨"AloneRoomsModel", "now", "()I"⟩, 18) := ⟨⟨by decide +kernel, by decide +kernel⟩, List.mem_of_getElem? (i := 866) (by decide +kernel), List.mem_of_getElem? (i := 1063) (by decide +kernel), List.mem_of_getElem? (i := 1064) (by decide +kernel)⟩
theorem lw_p41 : lw_okq (⟨"AloneRoomsModel", "mayGo", "(II)Z"⟩, 18) := ⟨⟨by decide +kernel, by decide +kernel⟩, List.mem_of_getElem? (i := 866) (by decide +kernel), List.mem_of_getElem? (i := 1067) (by decide +kernel), List.mem_of_getElem? (i := 1068) (by decide +kernel)⟩
theorem lw_p42 : lw_okq (⟨"AloneRoomsModel", "tryBeat", "(II)I"⟩, 18) := ⟨⟨by decide +kernel, by decide +kernel⟩, List.mem_of_getElem? (i := 866) (by decide +kernel), List.mem_of_getElem? (i := 1071) (by decide +kernel), List.mem_of_getElem? (i := 1072) (by decide +kernel)⟩
theorem lw_p43 : lw_okq (⟨"AloneRoomsModel", "lays", "(IIIII)Z"⟩, 18) := ⟨⟨by decide +kernel, by decide +kernel⟩, List.mem_of_getElem? (i := 866) (by decide +kernel), List.mem_of_getElem? (i := 1075) (by decide +kernel), List.mem_of_getElem? (i := 1076) (by decide +kernel)⟩
theorem lw_p44 : lw_okq (⟨"AloneRoomsModel", "isAlone", "(II)Z"⟩, 18) := ⟨⟨by decide +kernel, by decide +kernel⟩, List.mem_of_getElem? (i := 866) (by decide +kernel), List.mem_of_getElem? (i := 1079) (by decide +kernel), List.mem_of_getElem? (i := 1080) (by decide +kernel)⟩
theorem lw_p45 : lw_okq (⟨"AloneRoomsModel", "gather", "(III)V"⟩, 18) := ⟨⟨by decide +kernel, by decide +kernel⟩, List.mem_of_getElem? (i := 866) (by decide +kernel), List.mem_of_getElem? (i := 1083) (by decide +kernel), List.mem_of_getElem? (i := 1084) (by decide +kernel)⟩
theorem lw_p46 : lw_okq (⟨"AloneRoomsModel", "eldest", "(IIIIZ)I"⟩, 18) := ⟨⟨by decide +kernel, by decide +kernel⟩, List.mem_of_getElem? (i := 866) (by decide +kernel), List.mem_of_getElem? (i := 1087) (by decide +kernel), List.mem_of_getElem? (i := 1088) (by decide +kernel)⟩
theorem lw_p47 : lw_okq (⟨"AloneRoomsModel", "keepPast", "()V"⟩, 18) := ⟨⟨by decide +kernel, by decide +kernel⟩, List.mem_of_getElem? (i := 866) (by decide +kernel), List.mem_of_getElem? (i := 1091) (by decide +kernel), List.mem_of_getElem? (i := 1092) (by decide +kernel)⟩
def lw_privs_3 : List (MethodName × Nat) := [(⟨"AloneRoomsModel", "token", "()V"⟩, 18), (⟨"AloneRoomsModel", "readsItem", "()Z"⟩, 18), (⟨"AloneRoomsModel", "wordOf", "()I"⟩, 18), (⟨"AloneRoomsModel", "isWord", "(II)Z"⟩, 18), (⟨"AloneRoomsModel", "readsRest", "(I)Z"⟩, 18), (⟨"AloneRoomsModel", "reads", "(IIII)Z"⟩, 18), (⟨"AloneRoomsModel", "tell", "(I)V"⟩, 18), (⟨"AloneRoomsModel", "isStanding", "(I)Z"⟩, 18), (⟨"AloneRoomsModel", "now", "()I"⟩, 18), (⟨"AloneRoomsModel", "mayGo", "(II)Z"⟩, 18), (⟨"AloneRoomsModel", "tryBeat", "(II)I"⟩, 18), (⟨"AloneRoomsModel", "lays", "(IIIII)Z"⟩, 18), (⟨"AloneRoomsModel", "isAlone", "(II)Z"⟩, 18), (⟨"AloneRoomsModel", "gather", "(III)V"⟩, 18), (⟨"AloneRoomsModel", "eldest", "(IIIIZ)I"⟩, 18), (⟨"AloneRoomsModel", "keepPast", "()V"⟩, 18)]
theorem lw_r3 : ∀ q ∈ lw_privs_3, lw_okq q := List.forall_mem_cons.mpr ⟨lw_p32, List.forall_mem_cons.mpr ⟨lw_p33, List.forall_mem_cons.mpr ⟨lw_p34, List.forall_mem_cons.mpr ⟨lw_p35, List.forall_mem_cons.mpr ⟨lw_p36, List.forall_mem_cons.mpr ⟨lw_p37, List.forall_mem_cons.mpr ⟨lw_p38, List.forall_mem_cons.mpr ⟨lw_p39, List.forall_mem_cons.mpr ⟨lw_p40, List.forall_mem_cons.mpr ⟨lw_p41, List.forall_mem_cons.mpr ⟨lw_p42, List.forall_mem_cons.mpr ⟨lw_p43, List.forall_mem_cons.mpr ⟨lw_p44, List.forall_mem_cons.mpr ⟨lw_p45, List.forall_mem_cons.mpr ⟨lw_p46, List.forall_mem_cons.mpr ⟨lw_p47, fun _ h => absurd h List.not_mem_nil⟩⟩⟩⟩⟩⟩⟩⟩⟩⟩⟩⟩⟩⟩⟩⟩
theorem lw_p48 : lw_okq (⟨"AloneRoomsModel", "firstWrong", "()I"⟩, 18) := ⟨⟨by decide +kernel, by decide +kernel⟩, List.mem_of_getElem? (i := 866) (by decide +kernel), List.mem_of_getElem? (i := 1128) (by decide +kernel), List.mem_of_getElem? (i := 1129) (by decide +kernel)⟩
theorem lw_p49 : lw_okq (⟨"AloneRoomsModel", "laid", "(IIII)I"⟩, 18) := ⟨⟨by decide +kernel, by decide +kernel⟩, List.mem_of_getElem? (i := 866) (by decide +kernel), List.mem_of_getElem? (i := 1136) (by decide +kernel), List.mem_of_getElem? (i := 1137) (by decide +kernel)⟩
theorem lw_p50 : lw_okq (⟨"AloneRoomsModel", "layCosts", "(I)V"⟩, 18) := ⟨⟨by decide +kernel, by decide +kernel⟩, List.mem_of_getElem? (i := 866) (by decide +kernel), List.mem_of_getElem? (i := 1144) (by decide +kernel), List.mem_of_getElem? (i := 1145) (by decide +kernel)⟩
theorem lw_p51 : lw_okq (⟨"AloneRoomsModel", "standings", "()I"⟩, 18) := ⟨⟨by decide +kernel, by decide +kernel⟩, List.mem_of_getElem? (i := 866) (by decide +kernel), List.mem_of_getElem? (i := 1148) (by decide +kernel), List.mem_of_getElem? (i := 1149) (by decide +kernel)⟩
theorem lw_p52 : lw_okq (⟨"AloneRoomsModel", "standingOf", "(I)I"⟩, 18) := ⟨⟨by decide +kernel, by decide +kernel⟩, List.mem_of_getElem? (i := 866) (by decide +kernel), List.mem_of_getElem? (i := 1152) (by decide +kernel), List.mem_of_getElem? (i := 1153) (by decide +kernel)⟩
theorem lw_p53 : lw_okq (⟨"AloneRoomsModel", "by", "(III)I"⟩, 18) := ⟨⟨by decide +kernel, by decide +kernel⟩, List.mem_of_getElem? (i := 866) (by decide +kernel), List.mem_of_getElem? (i := 1157) (by decide +kernel), List.mem_of_getElem? (i := 1158) (by decide +kernel)⟩
theorem lw_p54 : lw_okq (⟨"AloneRoomsModel", "keepsWishes", "(II)Z"⟩, 18) := ⟨⟨by decide +kernel, by decide +kernel⟩, List.mem_of_getElem? (i := 866) (by decide +kernel), List.mem_of_getElem? (i := 1161) (by decide +kernel), List.mem_of_getElem? (i := 1162) (by decide +kernel)⟩
theorem lw_p55 : lw_okq (⟨"AloneRoomsModel", "firstOf", "(II)I"⟩, 18) := ⟨⟨by decide +kernel, by decide +kernel⟩, List.mem_of_getElem? (i := 866) (by decide +kernel), List.mem_of_getElem? (i := 1165) (by decide +kernel), List.mem_of_getElem? (i := 1166) (by decide +kernel)⟩
theorem lw_p56 : lw_okq (⟨"AloneRoomsModel", "liesOn", "(III)I"⟩, 18) := ⟨⟨by decide +kernel, by decide +kernel⟩, List.mem_of_getElem? (i := 866) (by decide +kernel), List.mem_of_getElem? (i := 1182) (by decide +kernel), List.mem_of_getElem? (i := 1183) (by decide +kernel)⟩
theorem lw_p57 : lw_okq (⟨"AloneRoomsModel", "leastBy", "(I)I"⟩, 18) := ⟨⟨by decide +kernel, by decide +kernel⟩, List.mem_of_getElem? (i := 866) (by decide +kernel), List.mem_of_getElem? (i := 1193) (by decide +kernel), List.mem_of_getElem? (i := 1194) (by decide +kernel)⟩
theorem lw_p58 : lw_okq (⟨"AloneRoomsModel", "copy", "(II)V"⟩, 18) := ⟨⟨by decide +kernel, by decide +kernel⟩, List.mem_of_getElem? (i := 866) (by decide +kernel), List.mem_of_getElem? (i := 1197) (by decide +kernel), List.mem_of_getElem? (i := 1198) (by decide +kernel)⟩
theorem lw_p59 : lw_okq (⟨"AloneRoomsModel", "joinTwo", "(II)V"⟩, 18) := ⟨⟨by decide +kernel, by decide +kernel⟩, List.mem_of_getElem? (i := 866) (by decide +kernel), List.mem_of_getElem? (i := 1201) (by decide +kernel), List.mem_of_getElem? (i := 1202) (by decide +kernel)⟩
theorem lw_p60 : lw_okq (⟨"AloneRoomsModel", "isSoBy", "(II)Z"⟩, 18) := ⟨⟨by decide +kernel, by decide +kernel⟩, List.mem_of_getElem? (i := 866) (by decide +kernel), List.mem_of_getElem? (i := 1214) (by decide +kernel), List.mem_of_getElem? (i := 1215) (by decide +kernel)⟩
theorem lw_p61 : lw_okq (⟨"AloneRoomsModel", "countOf", "(I)I"⟩, 18) := ⟨⟨by decide +kernel, by decide +kernel⟩, List.mem_of_getElem? (i := 866) (by decide +kernel), List.mem_of_getElem? (i := 1258) (by decide +kernel), List.mem_of_getElem? (i := 1259) (by decide +kernel)⟩
def lw_privs_4 : List (MethodName × Nat) := [(⟨"AloneRoomsModel", "firstWrong", "()I"⟩, 18), (⟨"AloneRoomsModel", "laid", "(IIII)I"⟩, 18), (⟨"AloneRoomsModel", "layCosts", "(I)V"⟩, 18), (⟨"AloneRoomsModel", "standings", "()I"⟩, 18), (⟨"AloneRoomsModel", "standingOf", "(I)I"⟩, 18), (⟨"AloneRoomsModel", "by", "(III)I"⟩, 18), (⟨"AloneRoomsModel", "keepsWishes", "(II)Z"⟩, 18), (⟨"AloneRoomsModel", "firstOf", "(II)I"⟩, 18), (⟨"AloneRoomsModel", "liesOn", "(III)I"⟩, 18), (⟨"AloneRoomsModel", "leastBy", "(I)I"⟩, 18), (⟨"AloneRoomsModel", "copy", "(II)V"⟩, 18), (⟨"AloneRoomsModel", "joinTwo", "(II)V"⟩, 18), (⟨"AloneRoomsModel", "isSoBy", "(II)Z"⟩, 18), (⟨"AloneRoomsModel", "countOf", "(I)I"⟩, 18)]
theorem lw_r4 : ∀ q ∈ lw_privs_4, lw_okq q := List.forall_mem_cons.mpr ⟨lw_p48, List.forall_mem_cons.mpr ⟨lw_p49, List.forall_mem_cons.mpr ⟨lw_p50, List.forall_mem_cons.mpr ⟨lw_p51, List.forall_mem_cons.mpr ⟨lw_p52, List.forall_mem_cons.mpr ⟨lw_p53, List.forall_mem_cons.mpr ⟨lw_p54, List.forall_mem_cons.mpr ⟨lw_p55, List.forall_mem_cons.mpr ⟨lw_p56, List.forall_mem_cons.mpr ⟨lw_p57, List.forall_mem_cons.mpr ⟨lw_p58, List.forall_mem_cons.mpr ⟨lw_p59, List.forall_mem_cons.mpr ⟨lw_p60, List.forall_mem_cons.mpr ⟨lw_p61, fun _ h => absurd h List.not_mem_nil⟩⟩⟩⟩⟩⟩⟩⟩⟩⟩⟩⟩⟩⟩
def lw_privs : List (MethodName × Nat) := lw_privs_1 ++ (lw_privs_2 ++ (lw_privs_3 ++ (lw_privs_4)))
def lw_tbl : List Cond := k2_sels lw_privs ++ tables_1
theorem lw_privs_ok : ∀ q ∈ lw_privs, lw_okq q := by
  show ∀ q ∈ lw_privs_1 ++ (lw_privs_2 ++ (lw_privs_3 ++ (lw_privs_4))), lw_okq q
  exact List.forall_mem_append.mpr ⟨lw_r1, List.forall_mem_append.mpr ⟨lw_r2, List.forall_mem_append.mpr ⟨lw_r3, lw_r4⟩⟩⟩
-- ===== end of PART A; then your names; then what follows =====
end
section
def RX0 : String := "AloneRooms$Comers"
def TX0 : u_T := fun k => match k with
  | _ => ("", "", "", false)
def tyX0 : Nat → FieldType := fun k => match k with
  | _ => .int
abbrev wsX00 : List Cond := u_ws RX0 TX0 0
theorem nmX0 : ∀ a, a < 0 → ∀ b, b < 0 → a ≠ b → (TX0 a).2.1 ≠ (TX0 b).2.1 := by decide +kernel
theorem tyX0_ok : ∀ k, k < 0 → parseFieldDescriptor (TX0 k).2.2.1 = some (tyX0 k) := by decide +kernel
abbrev cX0_init : ByteArray := prog_2_method_1_code
def yX0_init : MethodName := ⟨RX0, "<init>", "()V"⟩
abbrev cX0_lays : ByteArray := prog_2_method_2_code
def yX0_lays : MethodName := ⟨RX0, "lays", "(ZZI)Z"⟩
def RX1 : String := "AloneRooms$Each"
def TX1 : u_T := fun k => match k with
  | _ => ("", "", "", false)
def tyX1 : Nat → FieldType := fun k => match k with
  | _ => .int
abbrev wsX10 : List Cond := u_ws RX1 TX1 0
theorem nmX1 : ∀ a, a < 0 → ∀ b, b < 0 → a ≠ b → (TX1 a).2.1 ≠ (TX1 b).2.1 := by decide +kernel
theorem tyX1_ok : ∀ k, k < 0 → parseFieldDescriptor (TX1 k).2.2.1 = some (tyX1 k) := by decide +kernel
abbrev cX1_init : ByteArray := prog_3_method_1_code
def yX1_init : MethodName := ⟨RX1, "<init>", "()V"⟩
abbrev cX1_lays : ByteArray := prog_3_method_2_code
def yX1_lays : MethodName := ⟨RX1, "lays", "(ZZI)Z"⟩
def RX2 : String := "AloneRooms$Evening"
def TX2 : u_T := fun k => match k with
  | 0 => ("AloneRooms$Evening", "row", "[I", true)
  | 1 => ("AloneRooms$Evening", "house", "LAloneRooms$House;", false)
  | 2 => ("AloneRooms$Evening", "law", "LAloneRooms$Once;", false)
  | 3 => ("AloneRooms$Evening", "length", "I", false)
  | 4 => ("AloneRooms$Evening", "first", "I", false)
  | 5 => ("AloneRooms$Evening", "keeping", "[[I", true)
  | 6 => ("AloneRooms$Evening", "rest", "[[I", true)
  | 7 => ("AloneRooms$Evening", "leastRest", "[I", true)
  | 8 => ("AloneRooms$Evening", "lone", "[I", true)
  | 9 => ("AloneRooms$Evening", "stands", "LAloneRooms$Ways;", true)
  | _ => ("AloneRooms$Evening", "ways", "LAloneRooms$Ways;", true)
def tyX2 : Nat → FieldType := fun k => match k with
  | 0 => .array .int
  | 1 => .object "AloneRooms$House"
  | 2 => .object "AloneRooms$Once"
  | 3 => .int
  | 4 => .int
  | 5 => .array (.array .int)
  | 6 => .array (.array .int)
  | 7 => .array .int
  | 8 => .array .int
  | 9 => .object "AloneRooms$Ways"
  | _ => .object "AloneRooms$Ways"
abbrev wsX20 : List Cond := u_ws RX2 TX2 11
theorem nmX2 : ∀ a, a < 11 → ∀ b, b < 11 → a ≠ b → (TX2 a).2.1 ≠ (TX2 b).2.1 := by decide +kernel
theorem tyX2_ok : ∀ k, k < 11 → parseFieldDescriptor (TX2 k).2.2.1 = some (tyX2 k) := by decide +kernel
abbrev cX2_init : ByteArray := prog_4_method_1_code
def yX2_init : MethodName := ⟨RX2, "<init>", "()V"⟩
abbrev cX2_weigh : ByteArray := prog_4_method_2_code
def yX2_weigh : MethodName := ⟨RX2, "weigh", "(LAloneRooms$House;LAloneRooms$Once;I)I"⟩
abbrev cX2_markKeeping : ByteArray := prog_4_method_3_code
def yX2_markKeeping : MethodName := ⟨RX2, "markKeeping", "(I)V"⟩
abbrev cX2_fillRest : ByteArray := prog_4_method_4_code
def yX2_fillRest : MethodName := ⟨RX2, "fillRest", "(I)V"⟩
abbrev cX2_leastFrom : ByteArray := prog_4_method_5_code
def yX2_leastFrom : MethodName := ⟨RX2, "leastFrom", "(II)I"⟩
def RX3 : String := "AloneRooms$Halves"
def TX3 : u_T := fun k => match k with
  | _ => ("", "", "", false)
def tyX3 : Nat → FieldType := fun k => match k with
  | _ => .int
abbrev wsX30 : List Cond := u_ws RX3 TX3 0
theorem nmX3 : ∀ a, a < 0 → ∀ b, b < 0 → a ≠ b → (TX3 a).2.1 ≠ (TX3 b).2.1 := by decide +kernel
theorem tyX3_ok : ∀ k, k < 0 → parseFieldDescriptor (TX3 k).2.2.1 = some (tyX3 k) := by decide +kernel
abbrev cX3_init : ByteArray := prog_5_method_1_code
def yX3_init : MethodName := ⟨RX3, "<init>", "()V"⟩
abbrev cX3_share : ByteArray := prog_5_method_2_code
def yX3_share : MethodName := ⟨RX3, "share", "(I)I"⟩
def RX4 : String := "AloneRooms$House"
def TX4 : u_T := fun k => match k with
  | 0 => ("AloneRooms$House", "size", "I", false)
  | 1 => ("AloneRooms$House", "cats", "I", false)
  | 2 => ("AloneRooms$House", "people", "I", false)
  | 3 => ("AloneRooms$House", "where", "I", false)
  | 4 => ("AloneRooms$House", "kind", "I", false)
  | 5 => ("AloneRooms$House", "beats", "I", false)
  | 6 => ("AloneRooms$House", "planned", "I", false)
  | 7 => ("AloneRooms$House", "pasts", "I", false)
  | 8 => ("AloneRooms$House", "doors", "[I", true)
  | 9 => ("AloneRooms$House", "pennies", "[I", true)
  | 10 => ("AloneRooms$House", "told", "[I", true)
  | 11 => ("AloneRooms$House", "purses", "[I", true)
  | 12 => ("AloneRooms$House", "wishes", "[I", true)
  | 13 => ("AloneRooms$House", "plan", "[I", true)
  | _ => ("AloneRooms$House", "past", "[I", true)
def tyX4 : Nat → FieldType := fun k => match k with
  | 0 => .int
  | 1 => .int
  | 2 => .int
  | 3 => .int
  | 4 => .int
  | 5 => .int
  | 6 => .int
  | 7 => .int
  | 8 => .array .int
  | 9 => .array .int
  | 10 => .array .int
  | 11 => .array .int
  | 12 => .array .int
  | 13 => .array .int
  | _ => .array .int
abbrev wsX40 : List Cond := u_ws RX4 TX4 15
theorem nmX4 : ∀ a, a < 15 → ∀ b, b < 15 → a ≠ b → (TX4 a).2.1 ≠ (TX4 b).2.1 := by decide +kernel
theorem tyX4_ok : ∀ k, k < 15 → parseFieldDescriptor (TX4 k).2.2.1 = some (tyX4 k) := by decide +kernel
abbrev cX4_init : ByteArray := prog_6_method_1_code
def yX4_init : MethodName := ⟨RX4, "<init>", "()V"⟩
abbrev cX4_empty : ByteArray := prog_6_method_2_code
def yX4_empty : MethodName := ⟨RX4, "empty", "(I)V"⟩
abbrev cX4_copy : ByteArray := prog_6_method_3_code
def yX4_copy : MethodName := ⟨RX4, "copy", "(LAloneRooms$House;)V"⟩
abbrev cX4_enter : ByteArray := prog_6_method_4_code
def yX4_enter : MethodName := ⟨RX4, "enter", "(I)V"⟩
abbrev cX4_doorCount : ByteArray := prog_6_method_5_code
def yX4_doorCount : MethodName := ⟨RX4, "doorCount", "()I"⟩
abbrev cX4_reach : ByteArray := prog_6_method_6_code
def yX4_reach : MethodName := ⟨RX4, "reach", "(I)I"⟩
abbrev cX4_everywhere : ByteArray := prog_6_method_7_code
def yX4_everywhere : MethodName := ⟨RX4, "everywhere", "()I"⟩
abbrev cX4_canGo : ByteArray := prog_6_method_8_code
def yX4_canGo : MethodName := ⟨RX4, "canGo", "(II)Z"⟩
abbrev cX4_peopled : ByteArray := prog_6_method_9_code
def yX4_peopled : MethodName := ⟨RX4, "peopled", "()I"⟩
abbrev cX4_lone : ByteArray := prog_6_method_10_code
def yX4_lone : MethodName := ⟨RX4, "lone", "(I)I"⟩
abbrev cX4_isAloneIn : ByteArray := prog_6_method_11_code
def yX4_isAloneIn : MethodName := ⟨RX4, "isAloneIn", "(II)Z"⟩
abbrev cX4_markLone : ByteArray := prog_6_method_12_code
def yX4_markLone : MethodName := ⟨RX4, "markLone", "([ILAloneRooms$Ways;)V"⟩
abbrev cX4_payers : ByteArray := prog_6_method_13_code
def yX4_payers : MethodName := ⟨RX4, "payers", "(IIIIILAloneRooms$Once;)I"⟩
abbrev cX4_go : ByteArray := prog_6_method_14_code
def yX4_go : MethodName := ⟨RX4, "go", "(ILAloneRooms$Once;)I"⟩
abbrev cX4_gather : ByteArray := prog_6_method_15_code
def yX4_gather : MethodName := ⟨RX4, "gather", "(IILAloneRooms$Once;)V"⟩
abbrev cX4_isAsTold : ByteArray := prog_6_method_16_code
def yX4_isAsTold : MethodName := ⟨RX4, "isAsTold", "()Z"⟩
abbrev cX4_remember : ByteArray := prog_6_method_17_code
def yX4_remember : MethodName := ⟨RX4, "remember", "()V"⟩
abbrev cX4_goBack : ByteArray := prog_6_method_18_code
def yX4_goBack : MethodName := ⟨RX4, "goBack", "()V"⟩
abbrev cX4_merge : ByteArray := prog_6_method_19_code
def yX4_merge : MethodName := ⟨RX4, "merge", "(II)V"⟩
abbrev cX4_toFirst : ByteArray := prog_6_method_20_code
def yX4_toFirst : MethodName := ⟨RX4, "toFirst", "(III)I"⟩
def RX5 : String := "AloneRooms$Once"
def TX5 : u_T := fun k => match k with
  | _ => ("", "", "", false)
def tyX5 : Nat → FieldType := fun k => match k with
  | _ => .int
abbrev wsX50 : List Cond := u_ws RX5 TX5 0
theorem nmX5 : ∀ a, a < 0 → ∀ b, b < 0 → a ≠ b → (TX5 a).2.1 ≠ (TX5 b).2.1 := by decide +kernel
theorem tyX5_ok : ∀ k, k < 0 → parseFieldDescriptor (TX5 k).2.2.1 = some (tyX5 k) := by decide +kernel
abbrev cX5_init : ByteArray := prog_7_method_1_code
def yX5_init : MethodName := ⟨RX5, "<init>", "()V"⟩
abbrev cX5_lays : ByteArray := prog_7_method_2_code
def yX5_lays : MethodName := ⟨RX5, "lays", "(ZZI)Z"⟩
abbrev cX5_mindsBeats : ByteArray := prog_7_method_3_code
def yX5_mindsBeats : MethodName := ⟨RX5, "mindsBeats", "()Z"⟩
abbrev cX5_share : ByteArray := prog_7_method_4_code
def yX5_share : MethodName := ⟨RX5, "share", "(I)I"⟩
def RX6 : String := "AloneRooms$Search"
def TX6 : u_T := fun k => match k with
  | 0 => ("AloneRooms$Search", "house", "LAloneRooms$House;", false)
  | 1 => ("AloneRooms$Search", "law", "LAloneRooms$Once;", false)
  | 2 => ("AloneRooms$Search", "beatsOf", "[[I", true)
  | 3 => ("AloneRooms$Search", "reached", "[I", true)
  | 4 => ("AloneRooms$Search", "many", "I", false)
  | 5 => ("AloneRooms$Search", "lone", "[I", true)
  | _ => ("AloneRooms$Search", "ways", "LAloneRooms$Ways;", true)
def tyX6 : Nat → FieldType := fun k => match k with
  | 0 => .object "AloneRooms$House"
  | 1 => .object "AloneRooms$Once"
  | 2 => .array (.array .int)
  | 3 => .array .int
  | 4 => .int
  | 5 => .array .int
  | _ => .object "AloneRooms$Ways"
abbrev wsX60 : List Cond := u_ws RX6 TX6 7
theorem nmX6 : ∀ a, a < 7 → ∀ b, b < 7 → a ≠ b → (TX6 a).2.1 ≠ (TX6 b).2.1 := by decide +kernel
theorem tyX6_ok : ∀ k, k < 7 → parseFieldDescriptor (TX6 k).2.2.1 = some (tyX6 k) := by decide +kernel
abbrev cX6_init : ByteArray := prog_8_method_1_code
def yX6_init : MethodName := ⟨RX6, "<init>", "()V"⟩
abbrev cX6_beatsTo : ByteArray := prog_8_method_2_code
def yX6_beatsTo : MethodName := ⟨RX6, "beatsTo", "(LAloneRooms$House;LAloneRooms$Once;I)I"⟩
abbrev cX6_spread : ByteArray := prog_8_method_3_code
def yX6_spread : MethodName := ⟨RX6, "spread", "(II)V"⟩
abbrev cX6_reach : ByteArray := prog_8_method_4_code
def yX6_reach : MethodName := ⟨RX6, "reach", "(II)V"⟩
abbrev cX6_sideOf : ByteArray := prog_8_method_5_code
def yX6_sideOf : MethodName := ⟨RX6, "sideOf", "(I)I"⟩
def RX7 : String := "AloneRooms$Sleep"
def TX7 : u_T := fun k => match k with
  | _ => ("", "", "", false)
def tyX7 : Nat → FieldType := fun k => match k with
  | _ => .int
abbrev wsX70 : List Cond := u_ws RX7 TX7 0
theorem nmX7 : ∀ a, a < 0 → ∀ b, b < 0 → a ≠ b → (TX7 a).2.1 ≠ (TX7 b).2.1 := by decide +kernel
theorem tyX7_ok : ∀ k, k < 0 → parseFieldDescriptor (TX7 k).2.2.1 = some (tyX7 k) := by decide +kernel
abbrev cX7_init : ByteArray := prog_9_method_1_code
def yX7_init : MethodName := ⟨RX7, "<init>", "()V"⟩
abbrev cX7_lays : ByteArray := prog_9_method_2_code
def yX7_lays : MethodName := ⟨RX7, "lays", "(ZZI)Z"⟩
abbrev cX7_mindsBeats : ByteArray := prog_9_method_3_code
def yX7_mindsBeats : MethodName := ⟨RX7, "mindsBeats", "()Z"⟩
def RX8 : String := "AloneRooms$Text"
def TX8 : u_T := fun k => match k with
  | 0 => ("AloneRooms$Text", "length", "I", false)
  | 1 => ("AloneRooms$Text", "bytes", "[I", true)
  | 2 => ("AloneRooms$Text", "token", "I", false)
  | 3 => ("AloneRooms$Text", "place", "I", false)
  | 4 => ("AloneRooms$Text", "behind", "I", false)
  | 5 => ("AloneRooms$Text", "value", "I", false)
  | _ => ("AloneRooms$Text", "fault", "I", false)
def tyX8 : Nat → FieldType := fun k => match k with
  | 0 => .int
  | 1 => .array .int
  | 2 => .int
  | 3 => .int
  | 4 => .int
  | 5 => .int
  | _ => .int
abbrev wsX80 : List Cond := u_ws RX8 TX8 7
theorem nmX8 : ∀ a, a < 7 → ∀ b, b < 7 → a ≠ b → (TX8 a).2.1 ≠ (TX8 b).2.1 := by decide +kernel
theorem tyX8_ok : ∀ k, k < 7 → parseFieldDescriptor (TX8 k).2.2.1 = some (tyX8 k) := by decide +kernel
abbrev cX8_init : ByteArray := prog_10_method_1_code
def yX8_init : MethodName := ⟨RX8, "<init>", "()V"⟩
abbrev cX8_add : ByteArray := prog_10_method_2_code
def yX8_add : MethodName := ⟨RX8, "add", "(JI)V"⟩
abbrev cX8_parse : ByteArray := prog_10_method_3_code
def yX8_parse : MethodName := ⟨RX8, "parse", "(LAloneRooms$House;)I"⟩
abbrev cX8_takeItem : ByteArray := prog_10_method_4_code
def yX8_takeItem : MethodName := ⟨RX8, "takeItem", "(LAloneRooms$House;)V"⟩
abbrev cX8_takeNumber : ByteArray := prog_10_method_5_code
def yX8_takeNumber : MethodName := ⟨RX8, "takeNumber", "(II)I"⟩
abbrev cX8_takeStop : ByteArray := prog_10_method_6_code
def yX8_takeStop : MethodName := ⟨RX8, "takeStop", "()V"⟩
abbrev cX8_advance : ByteArray := prog_10_method_7_code
def yX8_advance : MethodName := ⟨RX8, "advance", "()V"⟩
abbrev cX8_isWithin : ByteArray := prog_10_method_8_code
def yX8_isWithin : MethodName := ⟨RX8, "isWithin", "(ICC)Z"⟩
abbrev cX8_endOf : ByteArray := prog_10_method_9_code
def yX8_endOf : MethodName := ⟨RX8, "endOf", "(CC)I"⟩
abbrev cX8_numberToken : ByteArray := prog_10_method_10_code
def yX8_numberToken : MethodName := ⟨RX8, "numberToken", "()I"⟩
abbrev cX8_wordToken : ByteArray := prog_10_method_11_code
def yX8_wordToken : MethodName := ⟨RX8, "wordToken", "()I"⟩
abbrev cX8_spells : ByteArray := prog_10_method_12_code
def yX8_spells : MethodName := ⟨RX8, "spells", "(Ljava/lang/String;)Z"⟩
def RX9 : String := "AloneRooms$Walk"
def TX9 : u_T := fun k => match k with
  | 0 => ("AloneRooms$Walk", "most", "I", false)
  | 1 => ("AloneRooms$Walk", "steps", "I", false)
  | 2 => ("AloneRooms$Walk", "best", "[I", true)
  | 3 => ("AloneRooms$Walk", "house", "LAloneRooms$House;", false)
  | 4 => ("AloneRooms$Walk", "limit", "I", false)
  | _ => ("AloneRooms$Walk", "row", "[I", true)
def tyX9 : Nat → FieldType := fun k => match k with
  | 0 => .int
  | 1 => .int
  | 2 => .array .int
  | 3 => .object "AloneRooms$House"
  | 4 => .int
  | _ => .array .int
abbrev wsX90 : List Cond := u_ws RX9 TX9 6
theorem nmX9 : ∀ a, a < 6 → ∀ b, b < 6 → a ≠ b → (TX9 a).2.1 ≠ (TX9 b).2.1 := by decide +kernel
theorem tyX9_ok : ∀ k, k < 6 → parseFieldDescriptor (TX9 k).2.2.1 = some (tyX9 k) := by decide +kernel
abbrev cX9_init : ByteArray := prog_11_method_1_code
def yX9_init : MethodName := ⟨RX9, "<init>", "()V"⟩
abbrev cX9_look : ByteArray := prog_11_method_2_code
def yX9_look : MethodName := ⟨RX9, "look", "(LAloneRooms$House;II)V"⟩
abbrev cX9_go : ByteArray := prog_11_method_3_code
def yX9_go : MethodName := ⟨RX9, "go", "(LAloneRooms$Walk;IIII)V"⟩
def RX10 : String := "AloneRooms$Ways"
def TX10 : u_T := fun k => match k with
  | 0 => ("AloneRooms$Ways", "at", "I", false)
  | 1 => ("AloneRooms$Ways", "people", "I", false)
  | _ => ("AloneRooms$Ways", "masks", "[I", true)
def tyX10 : Nat → FieldType := fun k => match k with
  | 0 => .int
  | 1 => .int
  | _ => .array .int
abbrev wsX100 : List Cond := u_ws RX10 TX10 3
theorem nmX10 : ∀ a, a < 3 → ∀ b, b < 3 → a ≠ b → (TX10 a).2.1 ≠ (TX10 b).2.1 := by decide +kernel
theorem tyX10_ok : ∀ k, k < 3 → parseFieldDescriptor (TX10 k).2.2.1 = some (tyX10 k) := by decide +kernel
abbrev cX10_init : ByteArray := prog_12_method_1_code
def yX10_init : MethodName := ⟨RX10, "<init>", "()V"⟩
abbrev cX10_all : ByteArray := prog_12_method_2_code
def yX10_all : MethodName := ⟨RX10, "all", "(LAloneRooms$House;)I"⟩
abbrev cX10_among : ByteArray := prog_12_method_3_code
def yX10_among : MethodName := ⟨RX10, "among", "(LAloneRooms$House;[I)I"⟩
abbrev cX10_onward : ByteArray := prog_12_method_4_code
def yX10_onward : MethodName := ⟨RX10, "onward", "(LAloneRooms$House;I)I"⟩
abbrev cX10_onwardAmong : ByteArray := prog_12_method_5_code
def yX10_onwardAmong : MethodName := ⟨RX10, "onwardAmong", "(LAloneRooms$House;I[I)I"⟩
abbrev cX10_begin : ByteArray := prog_12_method_6_code
def yX10_begin : MethodName := ⟨RX10, "begin", "()I"⟩
abbrev cX10_step : ByteArray := prog_12_method_7_code
def yX10_step : MethodName := ⟨RX10, "step", "()V"⟩
def RX11 : String := "AloneRooms"
def TX11 : u_T := fun k => match k with
  | 0 => ("AloneRooms", "house", "LAloneRooms$House;", true)
  | 1 => ("AloneRooms", "trial", "LAloneRooms$House;", true)
  | 2 => ("AloneRooms", "images", "[LAloneRooms$House;", true)
  | 3 => ("AloneRooms", "kept", "[Z", true)
  | 4 => ("AloneRooms", "text", "LAloneRooms$Text;", true)
  | 5 => ("AloneRooms", "laws", "[LAloneRooms$Once;", true)
  | 6 => ("AloneRooms", "ways", "LAloneRooms$Ways;", true)
  | 7 => ("AloneRooms", "evening", "LAloneRooms$Evening;", true)
  | 8 => ("AloneRooms", "search", "LAloneRooms$Search;", true)
  | 9 => ("AloneRooms", "walk", "LAloneRooms$Walk;", true)
  | 10 => ("AloneRooms", "refusedBad", "I", false)
  | 11 => ("AloneRooms", "refusedNo", "I", false)
  | _ => ("AloneRooms", "refusedFull", "I", false)
def tyX11 : Nat → FieldType := fun k => match k with
  | 0 => .object "AloneRooms$House"
  | 1 => .object "AloneRooms$House"
  | 2 => .array (.object "AloneRooms$House")
  | 3 => .array .boolean
  | 4 => .object "AloneRooms$Text"
  | 5 => .array (.object "AloneRooms$Once")
  | 6 => .object "AloneRooms$Ways"
  | 7 => .object "AloneRooms$Evening"
  | 8 => .object "AloneRooms$Search"
  | 9 => .object "AloneRooms$Walk"
  | 10 => .int
  | 11 => .int
  | _ => .int
abbrev wsX110 : List Cond := u_ws RX11 TX11 13
theorem nmX11 : ∀ a, a < 13 → ∀ b, b < 13 → a ≠ b → (TX11 a).2.1 ≠ (TX11 b).2.1 := by decide +kernel
theorem tyX11_ok : ∀ k, k < 13 → parseFieldDescriptor (TX11 k).2.2.1 = some (tyX11 k) := by decide +kernel
abbrev cX11_init : ByteArray := prog_1_method_1_code
def yX11_init : MethodName := ⟨RX11, "<init>", "()V"⟩
abbrev cX11_rooms : ByteArray := prog_1_method_2_code
def yX11_rooms : MethodName := ⟨RX11, "rooms", "(I)I"⟩
abbrev cX11_door : ByteArray := prog_1_method_3_code
def yX11_door : MethodName := ⟨RX11, "door", "(IIZ)I"⟩
abbrev cX11_cat : ByteArray := prog_1_method_4_code
def yX11_cat : MethodName := ⟨RX11, "cat", "(IZ)I"⟩
abbrev cX11_lay : ByteArray := prog_1_method_5_code
def yX11_lay : MethodName := ⟨RX11, "lay", "(II)I"⟩
abbrev cX11_person : ByteArray := prog_1_method_6_code
def yX11_person : MethodName := ⟨RX11, "person", "(I)I"⟩
abbrev cX11_law : ByteArray := prog_1_method_7_code
def yX11_law : MethodName := ⟨RX11, "law", "(I)I"⟩
abbrev cX11_wish : ByteArray := prog_1_method_8_code
def yX11_wish : MethodName := ⟨RX11, "wish", "(III)I"⟩
abbrev cX11_type : ByteArray := prog_1_method_9_code
def yX11_type : MethodName := ⟨RX11, "type", "(JI)I"⟩
abbrev cX11_clear : ByteArray := prog_1_method_10_code
def yX11_clear : MethodName := ⟨RX11, "clear", "()I"⟩
abbrev cX11_read : ByteArray := prog_1_method_11_code
def yX11_read : MethodName := ⟨RX11, "read", "()I"⟩
abbrev cX11_beat : ByteArray := prog_1_method_12_code
def yX11_beat : MethodName := ⟨RX11, "beat", "(I)I"⟩
abbrev cX11_undo : ByteArray := prog_1_method_13_code
def yX11_undo : MethodName := ⟨RX11, "undo", "()I"⟩
abbrev cX11_standing : ByteArray := prog_1_method_14_code
def yX11_standing : MethodName := ⟨RX11, "standing", "()I"⟩
abbrev cX11_sill : ByteArray := prog_1_method_15_code
def yX11_sill : MethodName := ⟨RX11, "sill", "(I)I"⟩
abbrev cX11_purse : ByteArray := prog_1_method_16_code
def yX11_purse : MethodName := ⟨RX11, "purse", "(I)I"⟩
abbrev cX11_alone : ByteArray := prog_1_method_17_code
def yX11_alone : MethodName := ⟨RX11, "alone", "(I)I"⟩
abbrev cX11_plan : ByteArray := prog_1_method_18_code
def yX11_plan : MethodName := ⟨RX11, "plan", "(I)I"⟩
abbrev cX11_scrap : ByteArray := prog_1_method_19_code
def yX11_scrap : MethodName := ⟨RX11, "scrap", "()I"⟩
abbrev cX11_judge : ByteArray := prog_1_method_20_code
def yX11_judge : MethodName := ⟨RX11, "judge", "()I"⟩
abbrev cX11_cost : ByteArray := prog_1_method_21_code
def yX11_cost : MethodName := ⟨RX11, "cost", "(I)I"⟩
abbrev cX11_least : ByteArray := prog_1_method_22_code
def yX11_least : MethodName := ⟨RX11, "least", "(II)I"⟩
abbrev cX11_fewest : ByteArray := prog_1_method_23_code
def yX11_fewest : MethodName := ⟨RX11, "fewest", "(I)I"⟩
abbrev cX11_quiet : ByteArray := prog_1_method_24_code
def yX11_quiet : MethodName := ⟨RX11, "quiet", "()I"⟩
abbrev cX11_picks : ByteArray := prog_1_method_25_code
def yX11_picks : MethodName := ⟨RX11, "picks", "(III)I"⟩
abbrev cX11_join : ByteArray := prog_1_method_26_code
def yX11_join : MethodName := ⟨RX11, "join", "(I)I"⟩
abbrev cX11_spy : ByteArray := prog_1_method_27_code
def yX11_spy : MethodName := ⟨RX11, "spy", "(II)I"⟩
abbrev cX11_fits : ByteArray := prog_1_method_28_code
def yX11_fits : MethodName := ⟨RX11, "fits", "()I"⟩
abbrev cX11_was : ByteArray := prog_1_method_29_code
def yX11_was : MethodName := ⟨RX11, "was", "(II)I"⟩
abbrev cX11_rent : ByteArray := prog_1_method_30_code
def yX11_rent : MethodName := ⟨RX11, "rent", "(II)I"⟩
abbrev cX11_drawn : ByteArray := prog_1_method_31_code
def yX11_drawn : MethodName := ⟨RX11, "drawn", "(III)I"⟩
abbrev cX11_image : ByteArray := prog_1_method_32_code
def yX11_image : MethodName := ⟨RX11, "image", "(I)I"⟩
abbrev cX11_from : ByteArray := prog_1_method_33_code
def yX11_from : MethodName := ⟨RX11, "from", "(I)I"⟩
abbrev cX11_status : ByteArray := prog_1_method_34_code
def yX11_status : MethodName := ⟨RX11, "status", "(I)I"⟩
abbrev cX11_count : ByteArray := prog_1_method_35_code
def yX11_count : MethodName := ⟨RX11, "count", "(I)I"⟩
abbrev cX11_digest : ByteArray := prog_1_method_36_code
def yX11_digest : MethodName := ⟨RX11, "digest", "()J"⟩
abbrev cX11_refuse : ByteArray := prog_1_method_37_code
def yX11_refuse : MethodName := ⟨RX11, "refuse", "(I)I"⟩
abbrev cX11_isRoom : ByteArray := prog_1_method_38_code
def yX11_isRoom : MethodName := ⟨RX11, "isRoom", "(I)Z"⟩
abbrev cX11_isPerson : ByteArray := prog_1_method_39_code
def yX11_isPerson : MethodName := ⟨RX11, "isPerson", "(I)Z"⟩
abbrev cX11_isLaw : ByteArray := prog_1_method_40_code
def yX11_isLaw : MethodName := ⟨RX11, "isLaw", "(I)Z"⟩
abbrev cX11_isStanding : ByteArray := prog_1_method_41_code
def yX11_isStanding : MethodName := ⟨RX11, "isStanding", "(I)Z"⟩
abbrev cX11_countFits : ByteArray := prog_1_method_42_code
def yX11_countFits : MethodName := ⟨RX11, "countFits", "(II)I"⟩
abbrev cX11_has : ByteArray := prog_1_method_43_code
def yX11_has : MethodName := ⟨RX11, "has", "(II)Z"⟩
abbrev cX11_roomOf : ByteArray := prog_1_method_44_code
def yX11_roomOf : MethodName := ⟨RX11, "roomOf", "(II)I"⟩
abbrev cX11_wishPlace : ByteArray := prog_1_method_45_code
def yX11_wishPlace : MethodName := ⟨RX11, "wishPlace", "(II)I"⟩
abbrev cX11_drawRoom : ByteArray := prog_1_method_46_code
def yX11_drawRoom : MethodName := ⟨RX11, "drawRoom", "(IJ)I"⟩
def RX12 : String := "AloneRoomsModel"
def TX12 : u_T := fun k => match k with
  | 0 => ("AloneRoomsModel", "row", "[I", true)
  | 1 => ("AloneRoomsModel", "isKept", "[Z", true)
  | 2 => ("AloneRoomsModel", "text", "[I", true)
  | 3 => ("AloneRoomsModel", "length", "I", false)
  | 4 => ("AloneRoomsModel", "refused", "[I", true)
  | 5 => ("AloneRoomsModel", "at", "I", false)
  | 6 => ("AloneRoomsModel", "place", "I", false)
  | 7 => ("AloneRoomsModel", "end", "I", false)
  | 8 => ("AloneRoomsModel", "read", "[I", true)
  | 9 => ("AloneRoomsModel", "readMany", "I", false)
  | 10 => ("AloneRoomsModel", "readRooms", "I", false)
  | 11 => ("AloneRoomsModel", "readPeople", "I", false)
  | 12 => ("AloneRoomsModel", "pennies", "[I", true)
  | 13 => ("AloneRoomsModel", "purses", "[I", true)
  | 14 => ("AloneRoomsModel", "costs", "[I", true)
  | 15 => ("AloneRoomsModel", "joined", "I", false)
  | 16 => ("AloneRoomsModel", "fars", "[I", true)
  | _ => ("AloneRoomsModel", "waiting", "[I", true)
def tyX12 : Nat → FieldType := fun k => match k with
  | 0 => .array .int
  | 1 => .array .boolean
  | 2 => .array .int
  | 3 => .int
  | 4 => .array .int
  | 5 => .int
  | 6 => .int
  | 7 => .int
  | 8 => .array .int
  | 9 => .int
  | 10 => .int
  | 11 => .int
  | 12 => .array .int
  | 13 => .array .int
  | 14 => .array .int
  | 15 => .int
  | 16 => .array .int
  | _ => .array .int
abbrev wsX120 : List Cond := u_ws RX12 TX12 18
theorem nmX12 : ∀ a, a < 18 → ∀ b, b < 18 → a ≠ b → (TX12 a).2.1 ≠ (TX12 b).2.1 := by decide +kernel
theorem tyX12_ok : ∀ k, k < 18 → parseFieldDescriptor (TX12 k).2.2.1 = some (tyX12 k) := by decide +kernel
abbrev cX12_init : ByteArray := prog_14_method_1_code
def yX12_init : MethodName := ⟨RX12, "<init>", "()V"⟩
abbrev cX12_in : ByteArray := prog_14_method_2_code
def yX12_in : MethodName := ⟨RX12, "in", "(JJJ)Z"⟩
abbrev cX12_has : ByteArray := prog_14_method_3_code
def yX12_has : MethodName := ⟨RX12, "has", "(II)Z"⟩
abbrev cX12_bits : ByteArray := prog_14_method_4_code
def yX12_bits : MethodName := ⟨RX12, "bits", "(I)I"⟩
abbrev cX12_bad : ByteArray := prog_14_method_5_code
def yX12_bad : MethodName := ⟨RX12, "bad", "(I)I"⟩
abbrev cX12_no : ByteArray := prog_14_method_6_code
def yX12_no : MethodName := ⟨RX12, "no", "()I"⟩
abbrev cX12_full : ByteArray := prog_14_method_7_code
def yX12_full : MethodName := ⟨RX12, "full", "()I"⟩
abbrev cX12_isRoom : ByteArray := prog_14_method_8_code
def yX12_isRoom : MethodName := ⟨RX12, "isRoom", "(I)Z"⟩
abbrev cX12_isPerson : ByteArray := prog_14_method_9_code
def yX12_isPerson : MethodName := ⟨RX12, "isPerson", "(I)Z"⟩
abbrev cX12_clearAll : ByteArray := prog_14_method_10_code
def yX12_clearAll : MethodName := ⟨RX12, "clearAll", "(I)V"⟩
abbrev cX12_rooms : ByteArray := prog_14_method_11_code
def yX12_rooms : MethodName := ⟨RX12, "rooms", "(I)I"⟩
abbrev cX12_layDoor : ByteArray := prog_14_method_12_code
def yX12_layDoor : MethodName := ⟨RX12, "layDoor", "(IIZ)V"⟩
abbrev cX12_door : ByteArray := prog_14_method_13_code
def yX12_door : MethodName := ⟨RX12, "door", "(IIZ)I"⟩
abbrev cX12_cat : ByteArray := prog_14_method_14_code
def yX12_cat : MethodName := ⟨RX12, "cat", "(IZ)I"⟩
abbrev cX12_lay : ByteArray := prog_14_method_15_code
def yX12_lay : MethodName := ⟨RX12, "lay", "(II)I"⟩
abbrev cX12_addPerson : ByteArray := prog_14_method_16_code
def yX12_addPerson : MethodName := ⟨RX12, "addPerson", "(I)I"⟩
abbrev cX12_person : ByteArray := prog_14_method_17_code
def yX12_person : MethodName := ⟨RX12, "person", "(I)I"⟩
abbrev cX12_law : ByteArray := prog_14_method_18_code
def yX12_law : MethodName := ⟨RX12, "law", "(I)I"⟩
abbrev cX12_wish : ByteArray := prog_14_method_19_code
def yX12_wish : MethodName := ⟨RX12, "wish", "(III)I"⟩
abbrev cX12_type : ByteArray := prog_14_method_20_code
def yX12_type : MethodName := ⟨RX12, "type", "(JI)I"⟩
abbrev cX12_clear : ByteArray := prog_14_method_21_code
def yX12_clear : MethodName := ⟨RX12, "clear", "()I"⟩
abbrev cX12_sort : ByteArray := prog_14_method_22_code
def yX12_sort : MethodName := ⟨RX12, "sort", "(I)I"⟩
abbrev cX12_token : ByteArray := prog_14_method_23_code
def yX12_token : MethodName := ⟨RX12, "token", "()V"⟩
abbrev cX12_isWord : ByteArray := prog_14_method_24_code
def yX12_isWord : MethodName := ⟨RX12, "isWord", "(II)Z"⟩
abbrev cX12_wordOf : ByteArray := prog_14_method_25_code
def yX12_wordOf : MethodName := ⟨RX12, "wordOf", "()I"⟩
abbrev cX12_reads : ByteArray := prog_14_method_26_code
def yX12_reads : MethodName := ⟨RX12, "reads", "(IIII)Z"⟩
abbrev cX12_readsRest : ByteArray := prog_14_method_27_code
def yX12_readsRest : MethodName := ⟨RX12, "readsRest", "(I)Z"⟩
abbrev cX12_readsItem : ByteArray := prog_14_method_28_code
def yX12_readsItem : MethodName := ⟨RX12, "readsItem", "()Z"⟩
abbrev cX12_fault : ByteArray := prog_14_method_29_code
def yX12_fault : MethodName := ⟨RX12, "fault", "()I"⟩
abbrev cX12_tell : ByteArray := prog_14_method_30_code
def yX12_tell : MethodName := ⟨RX12, "tell", "(I)V"⟩
abbrev cX12_read : ByteArray := prog_14_method_31_code
def yX12_read : MethodName := ⟨RX12, "read", "()I"⟩
abbrev cX12_roomIn : ByteArray := prog_14_method_32_code
def yX12_roomIn : MethodName := ⟨RX12, "roomIn", "(II)I"⟩
abbrev cX12_isStanding : ByteArray := prog_14_method_33_code
def yX12_isStanding : MethodName := ⟨RX12, "isStanding", "(I)Z"⟩
abbrev cX12_now : ByteArray := prog_14_method_34_code
def yX12_now : MethodName := ⟨RX12, "now", "()I"⟩
abbrev cX12_isAlone : ByteArray := prog_14_method_35_code
def yX12_isAlone : MethodName := ⟨RX12, "isAlone", "(II)Z"⟩
abbrev cX12_mayGo : ByteArray := prog_14_method_36_code
def yX12_mayGo : MethodName := ⟨RX12, "mayGo", "(II)Z"⟩
abbrev cX12_lays : ByteArray := prog_14_method_37_code
def yX12_lays : MethodName := ⟨RX12, "lays", "(IIIII)Z"⟩
abbrev cX12_laid : ByteArray := prog_14_method_38_code
def yX12_laid : MethodName := ⟨RX12, "laid", "(IIII)I"⟩
abbrev cX12_eldest : ByteArray := prog_14_method_39_code
def yX12_eldest : MethodName := ⟨RX12, "eldest", "(IIIIZ)I"⟩
abbrev cX12_gather : ByteArray := prog_14_method_40_code
def yX12_gather : MethodName := ⟨RX12, "gather", "(III)V"⟩
abbrev cX12_tryBeat : ByteArray := prog_14_method_41_code
def yX12_tryBeat : MethodName := ⟨RX12, "tryBeat", "(II)I"⟩
abbrev cX12_keepPast : ByteArray := prog_14_method_42_code
def yX12_keepPast : MethodName := ⟨RX12, "keepPast", "()V"⟩
abbrev cX12_beat : ByteArray := prog_14_method_43_code
def yX12_beat : MethodName := ⟨RX12, "beat", "(I)I"⟩
abbrev cX12_undo : ByteArray := prog_14_method_44_code
def yX12_undo : MethodName := ⟨RX12, "undo", "()I"⟩
abbrev cX12_standing : ByteArray := prog_14_method_45_code
def yX12_standing : MethodName := ⟨RX12, "standing", "()I"⟩
abbrev cX12_sill : ByteArray := prog_14_method_46_code
def yX12_sill : MethodName := ⟨RX12, "sill", "(I)I"⟩
abbrev cX12_purse : ByteArray := prog_14_method_47_code
def yX12_purse : MethodName := ⟨RX12, "purse", "(I)I"⟩
abbrev cX12_alone : ByteArray := prog_14_method_48_code
def yX12_alone : MethodName := ⟨RX12, "alone", "(I)I"⟩
abbrev cX12_plan : ByteArray := prog_14_method_49_code
def yX12_plan : MethodName := ⟨RX12, "plan", "(I)I"⟩
abbrev cX12_scrap : ByteArray := prog_14_method_50_code
def yX12_scrap : MethodName := ⟨RX12, "scrap", "()I"⟩
abbrev cX12_firstWrong : ByteArray := prog_14_method_51_code
def yX12_firstWrong : MethodName := ⟨RX12, "firstWrong", "()I"⟩
abbrev cX12_judge : ByteArray := prog_14_method_52_code
def yX12_judge : MethodName := ⟨RX12, "judge", "()I"⟩
abbrev cX12_cost : ByteArray := prog_14_method_53_code
def yX12_cost : MethodName := ⟨RX12, "cost", "(I)I"⟩
abbrev cX12_standingOf : ByteArray := prog_14_method_54_code
def yX12_standingOf : MethodName := ⟨RX12, "standingOf", "(I)I"⟩
abbrev cX12_standings : ByteArray := prog_14_method_55_code
def yX12_standings : MethodName := ⟨RX12, "standings", "()I"⟩
abbrev cX12_keepsWishes : ByteArray := prog_14_method_56_code
def yX12_keepsWishes : MethodName := ⟨RX12, "keepsWishes", "(II)Z"⟩
abbrev cX12_by : ByteArray := prog_14_method_57_code
def yX12_by : MethodName := ⟨RX12, "by", "(III)I"⟩
abbrev cX12_layCosts : ByteArray := prog_14_method_58_code
def yX12_layCosts : MethodName := ⟨RX12, "layCosts", "(I)V"⟩
abbrev cX12_firstOf : ByteArray := prog_14_method_59_code
def yX12_firstOf : MethodName := ⟨RX12, "firstOf", "(II)I"⟩
abbrev cX12_least : ByteArray := prog_14_method_60_code
def yX12_least : MethodName := ⟨RX12, "least", "(II)I"⟩
abbrev cX12_fewest : ByteArray := prog_14_method_61_code
def yX12_fewest : MethodName := ⟨RX12, "fewest", "(I)I"⟩
abbrev cX12_quiet : ByteArray := prog_14_method_62_code
def yX12_quiet : MethodName := ⟨RX12, "quiet", "()I"⟩
abbrev cX12_liesOn : ByteArray := prog_14_method_63_code
def yX12_liesOn : MethodName := ⟨RX12, "liesOn", "(III)I"⟩
abbrev cX12_picks : ByteArray := prog_14_method_64_code
def yX12_picks : MethodName := ⟨RX12, "picks", "(III)I"⟩
abbrev cX12_figure : ByteArray := prog_14_method_65_code
def yX12_figure : MethodName := ⟨RX12, "figure", "(II)I"⟩
abbrev cX12_copy : ByteArray := prog_14_method_66_code
def yX12_copy : MethodName := ⟨RX12, "copy", "(II)V"⟩
abbrev cX12_joinTwo : ByteArray := prog_14_method_67_code
def yX12_joinTwo : MethodName := ⟨RX12, "joinTwo", "(II)V"⟩
abbrev cX12_leastBy : ByteArray := prog_14_method_68_code
def yX12_leastBy : MethodName := ⟨RX12, "leastBy", "(I)I"⟩
abbrev cX12_join : ByteArray := prog_14_method_69_code
def yX12_join : MethodName := ⟨RX12, "join", "(I)I"⟩
abbrev cX12_spy : ByteArray := prog_14_method_70_code
def yX12_spy : MethodName := ⟨RX12, "spy", "(II)I"⟩
abbrev cX12_isSoBy : ByteArray := prog_14_method_71_code
def yX12_isSoBy : MethodName := ⟨RX12, "isSoBy", "(II)Z"⟩
abbrev cX12_fits : ByteArray := prog_14_method_72_code
def yX12_fits : MethodName := ⟨RX12, "fits", "()I"⟩
abbrev cX12_was : ByteArray := prog_14_method_73_code
def yX12_was : MethodName := ⟨RX12, "was", "(II)I"⟩
abbrev cX12_rent : ByteArray := prog_14_method_74_code
def yX12_rent : MethodName := ⟨RX12, "rent", "(II)I"⟩
abbrev cX12_drawn : ByteArray := prog_14_method_75_code
def yX12_drawn : MethodName := ⟨RX12, "drawn", "(III)I"⟩
abbrev cX12_image : ByteArray := prog_14_method_76_code
def yX12_image : MethodName := ⟨RX12, "image", "(I)I"⟩
abbrev cX12_from : ByteArray := prog_14_method_77_code
def yX12_from : MethodName := ⟨RX12, "from", "(I)I"⟩
abbrev cX12_status : ByteArray := prog_14_method_78_code
def yX12_status : MethodName := ⟨RX12, "status", "(I)I"⟩
abbrev cX12_countOf : ByteArray := prog_14_method_79_code
def yX12_countOf : MethodName := ⟨RX12, "countOf", "(I)I"⟩
abbrev cX12_count : ByteArray := prog_14_method_80_code
def yX12_count : MethodName := ⟨RX12, "count", "(I)I"⟩
abbrev cX12_digest : ByteArray := prog_14_method_81_code
def yX12_digest : MethodName := ⟨RX12, "digest", "()J"⟩
def RJx145de : String := "java/io/Serializable"
def TJx145de : u_T := fun k => match k with
  | _ => ("", "", "", false)
def tyJx145de : Nat → FieldType := fun k => match k with
  | _ => .int
abbrev wsJx145de0 : List Cond := u_ws RJx145de TJx145de 0
theorem nmJx145de : ∀ a, a < 0 → ∀ b, b < 0 → a ≠ b → (TJx145de a).2.1 ≠ (TJx145de b).2.1 := by decide +kernel
theorem tyJx145de_ok : ∀ k, k < 0 → parseFieldDescriptor (TJx145de k).2.2.1 = some (tyJx145de k) := by decide +kernel
def RJx9f9b0 : String := "java/lang/CharSequence"
def TJx9f9b0 : u_T := fun k => match k with
  | _ => ("", "", "", false)
def tyJx9f9b0 : Nat → FieldType := fun k => match k with
  | _ => .int
abbrev wsJx9f9b00 : List Cond := u_ws RJx9f9b0 TJx9f9b0 0
theorem nmJx9f9b0 : ∀ a, a < 0 → ∀ b, b < 0 → a ≠ b → (TJx9f9b0 a).2.1 ≠ (TJx9f9b0 b).2.1 := by decide +kernel
theorem tyJx9f9b0_ok : ∀ k, k < 0 → parseFieldDescriptor (TJx9f9b0 k).2.2.1 = some (tyJx9f9b0 k) := by decide +kernel
def RJxb160c : String := "java/lang/Comparable"
def TJxb160c : u_T := fun k => match k with
  | _ => ("", "", "", false)
def tyJxb160c : Nat → FieldType := fun k => match k with
  | _ => .int
abbrev wsJxb160c0 : List Cond := u_ws RJxb160c TJxb160c 0
theorem nmJxb160c : ∀ a, a < 0 → ∀ b, b < 0 → a ≠ b → (TJxb160c a).2.1 ≠ (TJxb160c b).2.1 := by decide +kernel
theorem tyJxb160c_ok : ∀ k, k < 0 → parseFieldDescriptor (TJxb160c k).2.2.1 = some (tyJxb160c k) := by decide +kernel
def RJ6 : String := "java/lang/Integer"
def TJ6 : u_T := fun k => match k with
  | _ => ("", "", "", false)
def tyJ6 : Nat → FieldType := fun k => match k with
  | _ => .int
abbrev wsJ60 : List Cond := u_ws RJ6 TJ6 0
theorem nmJ6 : ∀ a, a < 0 → ∀ b, b < 0 → a ≠ b → (TJ6 a).2.1 ≠ (TJ6 b).2.1 := by decide +kernel
theorem tyJ6_ok : ∀ k, k < 0 → parseFieldDescriptor (TJ6 k).2.2.1 = some (tyJ6 k) := by decide +kernel
abbrev cJ6_numberOfTrailingZeros_0f7a4 : ByteArray := prog_15_method_48_code
def yJ6_numberOfTrailingZeros_0f7a4 : MethodName := ⟨RJ6, "numberOfTrailingZeros", "(I)I"⟩
abbrev cJ6_bitCount_0f7a4 : ByteArray := prog_15_method_49_code
def yJ6_bitCount_0f7a4 : MethodName := ⟨RJ6, "bitCount", "(I)I"⟩
def RJ9 : String := "java/lang/Math"
def TJ9 : u_T := fun k => match k with
  | _ => ("", "", "", false)
def tyJ9 : Nat → FieldType := fun k => match k with
  | _ => .int
abbrev wsJ90 : List Cond := u_ws RJ9 TJ9 0
theorem nmJ9 : ∀ a, a < 0 → ∀ b, b < 0 → a ≠ b → (TJ9 a).2.1 ≠ (TJ9 b).2.1 := by decide +kernel
theorem tyJ9_ok : ∀ k, k < 0 → parseFieldDescriptor (TJ9 k).2.2.1 = some (tyJ9 k) := by decide +kernel
abbrev cJ9_max_7cf53 : ByteArray := prog_16_method_65_code
def yJ9_max_7cf53 : MethodName := ⟨RJ9, "max", "(II)I"⟩
abbrev cJ9_min_7cf53 : ByteArray := prog_16_method_69_code
def yJ9_min_7cf53 : MethodName := ⟨RJ9, "min", "(II)I"⟩
def RJ0 : String := "java/lang/String"
def TJ0 : u_T := fun k => match k with
  | _ => ("", "", "", false)
def tyJ0 : Nat → FieldType := fun k => match k with
  | _ => .int
abbrev wsJ00 : List Cond := u_ws RJ0 TJ0 0
theorem nmJ0 : ∀ a, a < 0 → ∀ b, b < 0 → a ≠ b → (TJ0 a).2.1 ≠ (TJ0 b).2.1 := by decide +kernel
theorem tyJ0_ok : ∀ k, k < 0 → parseFieldDescriptor (TJ0 k).2.2.1 = some (tyJ0 k) := by decide +kernel
abbrev cJ0_length_8abf5 : ByteArray := prog_17_method_54_code
def yJ0_length_8abf5 : MethodName := ⟨RJ0, "length", "()I"⟩
abbrev cJ0_charAt_5068e : ByteArray := prog_17_method_56_code
def yJ0_charAt_5068e : MethodName := ⟨RJ0, "charAt", "(I)C"⟩
abbrev cJ0_coder_7d493 : ByteArray := prog_17_method_152_code
def yJ0_coder_7d493 : MethodName := ⟨RJ0, "coder", "()B"⟩
abbrev cJ0_isLatin1_aae02 : ByteArray := prog_17_method_154_code
def yJ0_isLatin1_aae02 : MethodName := ⟨RJ0, "isLatin1", "()Z"⟩
abbrev cJ0_checkIndex_df160 : ByteArray := prog_17_method_155_code
def yJ0_checkIndex_df160 : MethodName := ⟨RJ0, "checkIndex", "(II)V"⟩
def RJ1 : String := "java/lang/StringLatin1"
def TJ1 : u_T := fun k => match k with
  | _ => ("", "", "", false)
def tyJ1 : Nat → FieldType := fun k => match k with
  | _ => .int
abbrev wsJ10 : List Cond := u_ws RJ1 TJ1 0
theorem nmJ1 : ∀ a, a < 0 → ∀ b, b < 0 → a ≠ b → (TJ1 a).2.1 ≠ (TJ1 b).2.1 := by decide +kernel
theorem tyJ1_ok : ∀ k, k < 0 → parseFieldDescriptor (TJ1 k).2.2.1 = some (tyJ1 k) := by decide +kernel
abbrev cJ1_charAt_3b067 : ByteArray := prog_18_method_2_code
def yJ1_charAt_3b067 : MethodName := ⟨RJ1, "charAt", "([BI)C"⟩
def RJ2 : String := "java/lang/StringUTF16"
def TJ2 : u_T := fun k => match k with
  | _ => ("", "", "", false)
def tyJ2 : Nat → FieldType := fun k => match k with
  | _ => .int
abbrev wsJ20 : List Cond := u_ws RJ2 TJ2 0
theorem nmJ2 : ∀ a, a < 0 → ∀ b, b < 0 → a ≠ b → (TJ2 a).2.1 ≠ (TJ2 b).2.1 := by decide +kernel
theorem tyJ2_ok : ∀ k, k < 0 → parseFieldDescriptor (TJ2 k).2.2.1 = some (tyJ2 k) := by decide +kernel
abbrev cJ2_getChar_3b067 : ByteArray := prog_19_method_5_code
def yJ2_getChar_3b067 : MethodName := ⟨RJ2, "getChar", "([BI)C"⟩
abbrev cJ2_length_9d52b : ByteArray := prog_19_method_6_code
def yJ2_length_9d52b : MethodName := ⟨RJ2, "length", "([B)I"⟩
abbrev cJ2_charAt_3b067 : ByteArray := prog_19_method_83_code
def yJ2_charAt_3b067 : MethodName := ⟨RJ2, "charAt", "([BI)C"⟩
abbrev cJ2_checkIndex_2214a : ByteArray := prog_19_method_91_code
def yJ2_checkIndex_2214a : MethodName := ⟨RJ2, "checkIndex", "(I[B)V"⟩
def RJ10 : String := "java/lang/System"
def TJ10 : u_T := fun k => match k with
  | _ => ("", "", "", false)
def tyJ10 : Nat → FieldType := fun k => match k with
  | _ => .int
abbrev wsJ100 : List Cond := u_ws RJ10 TJ10 0
theorem nmJ10 : ∀ a, a < 0 → ∀ b, b < 0 → a ≠ b → (TJ10 a).2.1 ≠ (TJ10 b).2.1 := by decide +kernel
theorem tyJ10_ok : ∀ k, k < 0 → parseFieldDescriptor (TJ10 k).2.2.1 = some (tyJ10 k) := by decide +kernel
def RJxfd54e : String := "java/lang/constant/Constable"
def TJxfd54e : u_T := fun k => match k with
  | _ => ("", "", "", false)
def tyJxfd54e : Nat → FieldType := fun k => match k with
  | _ => .int
abbrev wsJxfd54e0 : List Cond := u_ws RJxfd54e TJxfd54e 0
theorem nmJxfd54e : ∀ a, a < 0 → ∀ b, b < 0 → a ≠ b → (TJxfd54e a).2.1 ≠ (TJxfd54e b).2.1 := by decide +kernel
theorem tyJxfd54e_ok : ∀ k, k < 0 → parseFieldDescriptor (TJxfd54e k).2.2.1 = some (tyJxfd54e k) := by decide +kernel
def RJx3cf43 : String := "java/lang/constant/ConstantDesc"
def TJx3cf43 : u_T := fun k => match k with
  | _ => ("", "", "", false)
def tyJx3cf43 : Nat → FieldType := fun k => match k with
  | _ => .int
abbrev wsJx3cf430 : List Cond := u_ws RJx3cf43 TJx3cf43 0
theorem nmJx3cf43 : ∀ a, a < 0 → ∀ b, b < 0 → a ≠ b → (TJx3cf43 a).2.1 ≠ (TJx3cf43 b).2.1 := by decide +kernel
theorem tyJx3cf43_ok : ∀ k, k < 0 → parseFieldDescriptor (TJx3cf43 k).2.2.1 = some (tyJx3cf43 k) := by decide +kernel
def RJ7 : String := "java/util/Arrays"
def TJ7 : u_T := fun k => match k with
  | _ => ("", "", "", false)
def tyJ7 : Nat → FieldType := fun k => match k with
  | _ => .int
abbrev wsJ70 : List Cond := u_ws RJ7 TJ7 0
theorem nmJ7 : ∀ a, a < 0 → ∀ b, b < 0 → a ≠ b → (TJ7 a).2.1 ≠ (TJ7 b).2.1 := by decide +kernel
theorem tyJ7_ok : ∀ k, k < 0 → parseFieldDescriptor (TJ7 k).2.2.1 = some (tyJ7 k) := by decide +kernel
abbrev cJ7_fill_53178 : ByteArray := prog_21_method_103_code
def yJ7_fill_53178 : MethodName := ⟨RJ7, "fill", "([II)V"⟩
def RJ3 : String := "jdk/internal/util/Preconditions"
def TJ3 : u_T := fun k => match k with
  | _ => ("", "", "", false)
def tyJ3 : Nat → FieldType := fun k => match k with
  | _ => .int
abbrev wsJ30 : List Cond := u_ws RJ3 TJ3 0
theorem nmJ3 : ∀ a, a < 0 → ∀ b, b < 0 → a ≠ b → (TJ3 a).2.1 ≠ (TJ3 b).2.1 := by decide +kernel
theorem tyJ3_ok : ∀ k, k < 0 → parseFieldDescriptor (TJ3 k).2.2.1 = some (tyJ3 k) := by decide +kernel
abbrev cJ3_checkIndex_8e157 : ByteArray := prog_22_method_11_code
def yJ3_checkIndex_8e157 : MethodName := ⟨RJ3, "checkIndex", "(IILjava/util/function/BiFunction;)I"⟩
def RL : String := "AloneRoomsLaw"
abbrev cL_law : ByteArray := code
def yL_law : MethodName := ⟨RL, "law", "([I)Z"⟩
abbrev vwCl : List vw_C := [(RX0, TX0, 0), (RX1, TX1, 0), (RX2, TX2, 11), (RX3, TX3, 0), (RX4, TX4, 15), (RX5, TX5, 0), (RX6, TX6, 7), (RX7, TX7, 0), (RX8, TX8, 7), (RX9, TX9, 6), (RX10, TX10, 3), (RX11, TX11, 13), (RX12, TX12, 18)]
end
section
/-- how many cells both objects have -/
abbrev NC : Nat := 85
def lkL : List Nat := [11, 4, 13, 13, 13, 13, 13, 13, 13, 4, 13, 13, 13, 13, 13, 13, 13, 15, 4, 13, 13, 13, 13, 13, 13, 13, 4, 13, 13, 13, 13, 13, 13, 13, 14, 8, 13, 16, 5, 1, 3, 7, 0, 10, 13, 2, 13, 17, 13, 13, 13, 13, 13, 17, 13, 13, 13, 13, 13, 10, 13, 10, 13, 6, 17, 13, 13, 13, 13, 10, 13, 9, 13, 13, 12, 13, 14, 13, 13, 13, 13, 13, 13, 13, 13]
def lnL : List Nat := [0, 0, 5, 5, 5, 4, 16, 8, 80, 0, 5, 5, 5, 4, 16, 8, 80, 2, 0, 5, 5, 5, 4, 16, 8, 80, 0, 5, 5, 5, 4, 16, 8, 80, 2, 0, 200, 5, 0, 0, 0, 0, 0, 0, 4, 0, 5, 5, 4, 4, 4, 4, 4, 3, 2341, 2341, 2341, 5, 2341, 0, 4, 0, 4, 0, 2, 2341, 2341, 1250, 2341, 0, 4, 0, 7, 7, 0, 632, 2, 200, 3, 400, 5, 4, 20480, 8192, 8192]
def finL : List (List (Option Nat)) := [[some 1, some 9, some 17, some 34, some 35, some 37, some 43, some 45, some 63, some 71, none, none, none], [none, none, none, none, none, none, none, none, some 2, some 3, some 4, some 5, some 6, some 7, some 8], [], [], [], [], [], [], [], [none, none, none, none, none, none, none, none, some 10, some 11, some 12, some 13, some 14, some 15, some 16], [], [], [], [], [], [], [], [some 18, some 26], [none, none, none, none, none, none, none, none, some 19, some 20, some 21, some 22, some 23, some 24, some 25], [], [], [], [], [], [], [], [none, none, none, none, none, none, none, none, some 27, some 28, some 29, some 30, some 31, some 32, some 33], [], [], [], [], [], [], [], [], [none, some 36, none, none, none, none, none], [], [some 38, some 39, some 40, some 41, some 42], [], [], [], [], [], [none, none, some 44], [], [some 46, none, none, none, none, some 47, some 53, some 57, some 58, some 59, some 61], [], [some 48, some 49, some 50, some 51, some 52], [], [], [], [], [], [some 54, some 55, some 56], [], [], [], [], [], [none, none, some 60], [], [none, none, some 62], [], [none, none, some 64, some 67, none, some 68, some 69], [some 65, some 66], [], [], [], [], [none, none, some 70], [], [none, none, some 72, none, none, some 73], [], [], [some 75, some 76, some 77, none, some 78, none, none, none, some 79, none, none, none, some 80, some 81, some 82, none, some 83, some 84], [], [], [], [], [], [], [], [], [], []]
def fkL : List (List Nat) := [[], [], [1, 2, 2, 0, 0, 1, 1, 1, 1, 1, 1], [], [0, 0, 0, 0, 0, 0, 0, 0, 1, 1, 1, 1, 1, 1, 1], [], [2, 2, 1, 1, 0, 1, 1], [], [0, 1, 0, 0, 0, 0, 0], [0, 0, 1, 2, 0, 1], [0, 0, 1], [1, 1, 1, 1, 1, 1, 1, 1, 1, 1, 0, 0, 0], [1, 1, 1, 0, 1, 0, 0, 0, 1, 0, 0, 0, 1, 1, 1, 0, 1, 1]]
/-- what kind a cell is of: below 13 an object of that class of vwCl; 13 ints, 14 booleans, 15 Houses, 16 laws, 17 rows of ints -/
def lk (c : Nat) : Nat := lkL.getD c 99
/-- how long an array is -/
def ln (c : Nat) : Nat := lnL.getD c 0
/-- what is set once for all: a final reference's cell, an element of a row of references -/
def fin (c i : Nat) : Option Nat := (finL.getD c []).getD i none
/-- a class's fields: 0 an int, 1 a final reference, 2 a reference that changes -/
def fk (k : Nat) : List Nat := fkL.getD k []
abbrev Mem : Type := Nat → Nat → Int32
def upA (I : Mem) (c : Nat) (f : Nat → Int32) : Mem := fun a => if a = c then f else I a
def up2 (I : Mem) (c i : Nat) (v : Int32) : Mem := upA I c (upd (I c) i v)
def enc (k : Nat) : Int32 := nI (k + 1)
def dec (x : Int32) : Option Nat := if x = 0 then none else some (x.toNatClampNeg - 1)
theorem dec_enc {k : Nat} (h : k + 1 < 2 ^ 31) : dec (enc k) = some k := by
  unfold dec enc
  rw [if_neg (nI_ne0 (by omega) h), nI_clamp h]
  rfl
/-- launch, class numbers, slots, array classes, addresses, the first address that is ours -/
abbrev EV : Type := Launch × (Nat → ClassId) × (Nat → Nat → Nat) × (Nat → ClassId) × (Nat → Nat) × Nat
abbrev eD (E : EV) : va_G := (E.2.1, E.2.2.1)
abbrev eC (E : EV) : Nat → ClassId := E.2.2.2.1
abbrev eAd (E : EV) : Nat → Nat := E.2.2.2.2.1
abbrev eA (E : EV) : Nat → Prop := fun q => E.2.2.2.2.2 ≤ q
abbrev eTy (E : EV) : List (ClassId × FieldType) := [(eC E 0, .int), (eC E 1, .boolean), (eC E 2, .object "AloneRooms$House"), (eC E 3, .object "AloneRooms$Once"), (eC E 4, .array .int)]
/-- an abstract value's address -/
def tv (E : EV) : Value → Value
  | .ref k => .ref (eAd E k)
  | v => v
theorem tv_cat (E : EV) (v : Value) : (tv E v).category = v.category := by cases v <;> rfl
def fv (E : EV) (I : Mem) (c i k : Nat) : Value := if k = 0 then .int (I c i) else if k = 1 then va_rf ((fin c i).map (eAd E)) else va_rf ((dec (I c i)).map (eAd E))
def fds (E : EV) (I : Mem) (c : Nat) : List Value := (List.range (fk (lk c)).length).map (fun i => fv E I c i ((fk (lk c)).getD i 0))
def pic (E : EV) (I : Mem) (c : Nat) : va_E :=
  if lk c = 13 then .inl (eC E 0, ln c, .inl (I c))
  else if lk c = 14 then .inl (eC E 1, ln c, .inl (I c))
  else if lk c = 15 then .inl (eC E 2, ln c, .inr (.inr (.inr (.inr (fun j => (fin c j).map (eAd E))))))
  else if lk c = 16 then .inl (eC E 3, ln c, .inr (.inr (.inr (.inr (fun j => (fin c j).map (eAd E))))))
  else if lk c = 17 then .inl (eC E 4, ln c, .inr (.inr (.inr (.inr (fun j => (fin c j).map (eAd E))))))
  else .inr (lk c, fds E I c)
def wl (E : EV) (I : Mem) : va_W := (List.range NC).map (fun c => (eAd E c, pic E I c))
theorem wl_get (E : EV) (I : Mem) {c : Nat} (h : c < NC) : (wl E I)[c]? = some (eAd E c, pic E I c) := by
  unfold wl
  rw [List.getElem?_map, List.getElem?_range h]
  rfl
theorem wl_set (E : EV) (I J : Mem) {c : Nat} (h : c < NC) (hp : ∀ a, a ≠ c → pic E J a = pic E I a) : (wl E I).set c (eAd E c, pic E J c) = wl E J := by
  apply List.ext_getElem?
  intro k
  by_cases hk : k < NC
  · rw [wl_get E J hk]
    by_cases e : c = k
    · subst e
      rw [List.getElem?_set_self (by unfold wl; rw [List.length_map, List.length_range]; exact h)]
    · rw [List.getElem?_set_ne e, wl_get E I hk, hp k (fun q => e q.symm)]
  · rw [List.getElem?_eq_none (by rw [List.length_set]; unfold wl; rw [List.length_map, List.length_range]; omega), List.getElem?_eq_none (by unfold wl; rw [List.length_map, List.length_range]; omega)]
theorem pic_upA_ne (E : EV) (I : Mem) (c : Nat) (f : Nat → Int32) (a : Nat) (h : a ≠ c) : pic E (upA I c f) a = pic E I a := by
  have e : upA I c f a = I a := if_neg h
  unfold pic fds fv
  simp only [e]
theorem upA_self (I : Mem) (c : Nat) (f : Nat → Int32) : upA I c f c = f := if_pos rfl
theorem pic_i (E : EV) (I : Mem) {c : Nat} (h : lk c = 13) : pic E I c = .inl (eC E 0, ln c, .inl (I c)) := if_pos h
theorem pic_z (E : EV) (I : Mem) {c : Nat} (h : lk c = 14) : pic E I c = .inl (eC E 1, ln c, .inl (I c)) := by
  unfold pic
  rw [if_neg (by rw [h]; decide), if_pos h]
theorem pic_h (E : EV) (I : Mem) {c : Nat} (h : lk c = 15) : pic E I c = .inl (eC E 2, ln c, .inr (.inr (.inr (.inr (fun j => (fin c j).map (eAd E)))))) := by
  unfold pic
  rw [if_neg (by rw [h]; decide), if_neg (by rw [h]; decide), if_pos h]
theorem pic_o (E : EV) (I : Mem) {c : Nat} (h : lk c = 16) : pic E I c = .inl (eC E 3, ln c, .inr (.inr (.inr (.inr (fun j => (fin c j).map (eAd E)))))) := by
  unfold pic
  rw [if_neg (by rw [h]; decide), if_neg (by rw [h]; decide), if_neg (by rw [h]; decide), if_pos h]
theorem pic_a (E : EV) (I : Mem) {c : Nat} (h : lk c = 17) : pic E I c = .inl (eC E 4, ln c, .inr (.inr (.inr (.inr (fun j => (fin c j).map (eAd E)))))) := by
  unfold pic
  rw [if_neg (by rw [h]; decide), if_neg (by rw [h]; decide), if_neg (by rw [h]; decide), if_neg (by rw [h]; decide), if_pos h]
theorem pic_r (E : EV) (I : Mem) {c : Nat} (h : lk c < 13) : pic E I c = .inr (lk c, fds E I c) := by
  unfold pic
  rw [if_neg (by omega), if_neg (by omega), if_neg (by omega), if_neg (by omega), if_neg (by omega)]
theorem fds_get (E : EV) (I : Mem) {c i k : Nat} (h : (fk (lk c))[i]? = some k) : (fds E I c)[i]? = some (fv E I c i k) := by
  have hl : i < (fk (lk c)).length := (List.getElem?_eq_some_iff.mp h).1
  unfold fds
  rw [List.getElem?_map, List.getElem?_range hl]
  show some (fv E I c i ((fk (lk c)).getD i 0)) = _
  rw [List.getD_eq_getElem?_getD, h]
  rfl
theorem fds_len (E : EV) (I : Mem) (c : Nat) : (fds E I c).length = (fk (lk c)).length := by
  unfold fds
  rw [List.length_map, List.length_range]
theorem fds_set (E : EV) (I : Mem) {c i k : Nat} {x : Int32} (h : (fk (lk c))[i]? = some k) (hk : k ≠ 1) : (fds E I c).set i (fv E (up2 I c i x) c i k) = fds E (up2 I c i x) c := by
  apply List.ext_getElem?
  intro j
  have hl : i < (fk (lk c)).length := (List.getElem?_eq_some_iff.mp h).1
  by_cases hj : j < (fk (lk c)).length
  · have hj2 : (fk (lk c))[j]? = some ((fk (lk c))[j]) := List.getElem?_eq_getElem hj
    rw [fds_get E (up2 I c i x) hj2]
    by_cases e : i = j
    · subst e
      rw [List.getElem?_set_self (by rw [fds_len]; exact hl)]
      rw [h] at hj2
      rw [Option.some.inj hj2]
    · rw [List.getElem?_set_ne e, fds_get E I hj2]
      have e2 : up2 I c i x c j = I c j := by
        unfold up2
        rw [upA_self]
        exact if_neg (fun q => e q.symm)
      unfold fv
      rw [e2]
  · rw [List.getElem?_eq_none (by rw [List.length_set, fds_len]; omega), List.getElem?_eq_none (by rw [fds_len]; omega)]
theorem up2_self (I : Mem) (c i : Nat) (x : Int32) : up2 I c i x c i = x := by
  unfold up2
  rw [upA_self]
  exact if_pos rfl
/-- a method: its name, its bytes, its locals, what it returns -/
abbrev MD : Type := MethodName × ByteArray × Nat × Option FieldType
/-- the words that stay when the tables warm -/
def lw_g : List Cond := lw_tbl.filter goodWord
def isNest : Cond → Bool
  | .methodLinkNest _ _ _ _ => true
  | _ => false
def lw_n : List Cond := lw_tbl.filter isNest
/-- the String constants of the reader: entry, text -/
def strT : List (Nat × String) := [(96, "rooms"), (102, "door"), (104, "cat"), (106, "sill"), (108, "person"), (110, "wish"), (112, "law")]
def strN : List Nat := [5, 4, 3, 4, 6, 4, 3]
def strB : List (List Int32) := [[114, 111, 111, 109, 115], [100, 111, 111, 114], [99, 97, 116], [115, 105, 108, 108], [112, 101, 114, 115, 111, 110], [119, 105, 115, 104], [108, 97, 119]]
/-- what holds of a method's start -/
def CF (E : EV) (s : State) : Prop :=
  (∀ w ∈ lw_g, w.before #[] s = true) ∧ (∀ w ∈ lw_n, va_Nw w s) ∧ E.2.2.2.2.2 ≤ s.heap.size ∧ va_K (eD E) vwCl (eTy E) s ∧
  (∀ i : Nat, i < 7 → vk_R RX8 (strT.getD i (0, "")).1 (strT.getD i (0, "")).2 (eAd E (1000 + i)) s) ∧
  vk_S 7 strN strB (fun i => eAd E (1000 + i)) (fun i => eAd E (1010 + i)) (eA E) s s.heap ∧ va_Z "java/lang/String" "COMPACT_STRINGS" "Z" (.int 1) (eA E) s s.heap ∧
  (va_Z "jdk/internal/util/Preconditions" "SIOOBE_FORMATTER" "Ljava/util/function/BiFunction;" .null (eA E) s s.heap ∨ va_Z "jdk/internal/util/Preconditions" "SIOOBE_FORMATTER" "Ljava/util/function/BiFunction;" (.ref (eAd E 1020)) (eA E) s s.heap)
theorem good_word {w : Cond} (h : w ∈ lw_g) : (w.onTables && w.keeps) = true ∨ ∃ ty, w = .arrayClass ty := good_of_word (List.mem_filter.mp h).2
theorem CF.hts {E : EV} {s : State} (h : CF E s) (args : Array Value) : ∀ w ∈ lw_g, w.before args s = true := fun w hw => word_at (State.WarmedH.refl s) (good_word hw) (h.1 w hw)
theorem nest_warm {s U : State} (hW : s.WarmedH U.vm) {w : Cond} (hw : w ∈ lw_n) (h : va_Nw w s) : va_Nw w U := by
  have h2 := (List.mem_filter.mp hw).2
  cases w with
  | methodLinkNest a i x b => exact va_Nw.warmM hW h
  | _ => simp [isNest] at h2
theorem CF.call {E : EV} {s U : State} {H : Heap} {locs : List Loc} (h : CF E s) (hS : va_S (eA E) s.heap H locs) (hU : U.heap = H) (hW : s.WarmedH U.vm) : CF E U := by
  obtain ⟨h1, h2, h3, h4, h5, h6, h7, h8⟩ := h
  refine ⟨fun w hw => word_at hW (good_word hw) (h1 w hw), fun w hw => nest_warm hW hw (h2 w hw), ?_, va_K.moved hW.alike h4, fun i hi => (h5 i hi).warm hW, ?_, ?_, ?_⟩
  · rw [hU]
    exact Nat.le_trans h3 hS.1
  · rw [hU]
    exact (h6.moved hW.alike).kept hS.2.1
  · rw [hU]
    exact (h7.moved hW.alike).kept hS.2.1
  · rw [hU]
    exact h8.imp (fun h => (h.moved hW.alike).kept hS.2.1) (fun h => (h.moved hW.alike).kept hS.2.1)
theorem CF.blind {E : EV} {U : State} (h : CF E U) (g : JFrame) (mk : MethodId) (a : Array Value) : CF E (U.calling g mk a) := by
  obtain ⟨h1, h2, h3, h4, h5, h6, h7, h8⟩ := h
  have hW : U.WarmedH (U.calling g mk a).vm := State.WarmedH.refl U
  exact ⟨fun w hw => word_at hW (good_word hw) (h1 w hw), fun w hw => nest_warm hW hw (h2 w hw), h3, va_K.moved hW.alike h4, fun i hi => (h5 i hi).warm hW, h6.moved hW.alike, h7.moved hW.alike, h8.imp (fun h => h.moved hW.alike) (fun h => h.moved hW.alike)⟩
/-- a method's room -/
abbrev rmd (d : Nat) : Room := { frames := d, cells := 0, slots := 0, locals := 60 * d }
/-- a method's end: its answer, the memory behind it -/
def Qr (E : EV) (r : Option Value × Mem) : Array Value → State → Outcome → State → Prop := fun _ st oc t => (oc = .returned (r.1.map (tv E)) ∧ va_P (eD E) vwCl (wl E r.2) t.heap ∧ va_D (eA E) (wl E r.2)) ∧ va_F (eA E) st t
/-- A METHOD'S CONTRACT: with these arguments over this memory it answers so and leaves the memory so -/
def Gm (E : EV) (d : Nat) (k : MD) (av : List Value) (I : Mem) (r : Option Value × Mem) : Prop :=
  Met E.1 k.1 [.code k.1 k.2.1 k.2.2.1 k.2.2.2] (rmd d) (va_Pc (av.map (tv E)) (fun U => CF E U ∧ va_P (eD E) vwCl (wl E I) U.heap ∧ va_D (eA E) (wl E I))) (Qr E r) 0 0 (eA E)
/-- the locals as pairs -/
def asc (E : EV) : Nat → List (Option Value) → List (Nat × Value)
  | _, [] => []
  | i, none :: t => asc E (i + 1) t
  | i, some v :: t => (i, tv E v) :: asc E (i + 1) t
theorem asc_mem (E : EV) {q : Nat × Value} : ∀ (L : List (Option Value)) (i : Nat), q ∈ asc E i L ↔ ∃ k v, q = (i + k, tv E v) ∧ L[k]? = some (some v)
  | [], i => by simp [asc]
  | none :: t, i => by
    rw [asc, asc_mem E t (i + 1)]
    constructor
    · rintro ⟨k, v, h1, h2⟩
      exact ⟨k + 1, v, by rw [h1]; congr 1; omega, by simpa using h2⟩
    · rintro ⟨k, v, h1, h2⟩
      cases k with
      | zero => simp at h2
      | succ k => exact ⟨k, v, by rw [h1]; congr 1; omega, by simpa using h2⟩
  | some w :: t, i => by
    rw [asc, List.mem_cons, asc_mem E t (i + 1)]
    constructor
    · rintro (h | ⟨k, v, h1, h2⟩)
      · exact ⟨0, w, h, rfl⟩
      · exact ⟨k + 1, v, by rw [h1]; congr 1; omega, by simpa using h2⟩
    · rintro ⟨k, v, h1, h2⟩
      cases k with
      | zero =>
        left
        simp at h2
        rw [h1, h2]
        rfl
      | succ k => exact Or.inr ⟨k, v, by rw [h1]; congr 1; omega, by simpa using h2⟩
/-- what holds in a method's body -/
def Cx (E : EV) (k : MD) (p : Program) (s : State) (m : MethodId) (meth : Method) (c : Code) : Prop :=
  p.tables.exec = Jvm.exec ∧ c.code = k.2.1 ∧ meth.sig.returnType = k.2.2.2 ∧ c.maxLocals = k.2.2.1 ∧ s.vm.findClass k.1.cls = some m.cls ∧ meth.locks = false ∧ CF E s
/-- AT A PLACE OF A METHOD: from here, with these locals, this stack and this memory, it comes to the end r -/
def G (E : EV) (d : Nat) (k : MD) (pc : Nat) (L : List (Option Value)) (st : List Value) (I : Mem) (r : Option Value × Mem) : Prop :=
  ∀ (p : Program) (e : Env) (s : State) (m : MethodId) (args : Array Value) (below : List Frame) (meth : Method) (c : Code) (H : Heap) (locs : List Loc) (ls : Array Slot),
    Cx E k p s m meth c → va_P (eD E) vwCl (wl E I) H → va_D (eA E) (wl E I) → va_S (eA E) s.heap H locs → lv_has ls k.2.2.1 (asc E 0 L) →
    W p E.1 e (rmd d) s m args below meth c H locs 0 0 (MQ below (Qr E r) args s 0 0 (eA E)) (F0 m pc ls (st.map (tv E)))
/-- the locals at a method's entry -/
def ent : List Value → List (Option Value)
  | [] => []
  | v :: vs => if v.category = 2 then some v :: none :: ent vs else some v :: ent vs
theorem ent_args (E : EV) : ∀ (vs : List Value) (i : Nat), asc E i (ent vs) = lv_args i (vs.map (tv E))
  | [], i => rfl
  | v :: vs, i => by
    by_cases h : v.category = 2
    · have h2 : (tv E v).category = 2 := by rw [tv_cat]; exact h
      simp only [ent, if_pos h, List.map_cons, lv_args, if_pos h2, asc]
      rw [ent_args E vs]
    · have h2 : ¬ (tv E v).category = 2 := by rw [tv_cat]; exact h
      simp only [ent, if_neg h, List.map_cons, lv_args, if_neg h2, asc]
      rw [ent_args E vs]
theorem asc_app (E : EV) (n : Nat) : ∀ (L : List (Option Value)) (i : Nat), asc E i (L ++ List.replicate n none) = asc E i L
  | [], i => by
    induction n generalizing i with
    | zero => rfl
    | succ n ih =>
      simp only [List.nil_append, List.replicate_succ, asc] at ih ⊢
      exact ih (i + 1)
  | none :: t, i => by simp only [List.cons_append, asc]; exact asc_app E n t (i + 1)
  | some v :: t, i => by simp only [List.cons_append, asc]; rw [asc_app E n t (i + 1)]
theorem lg_sl_tv (E : EV) : ∀ vs : List Value, (lg_sl (vs.map (tv E))).length = (ent vs).length
  | [] => rfl
  | v :: vs => by
    have ih := lg_sl_tv E vs
    by_cases h : v.category = 2
    · have h2 : (tv E v).category = 2 := by rw [tv_cat]; exact h
      simp only [lg_sl, List.map_cons, List.flatMap_cons, List.length_append] at ih ⊢
      simp only [ent, if_pos h, List.length_cons]
      rw [ih]
      cases hv : tv E v <;> rw [hv] at h2 <;> simp_all [Value.category] <;> omega
    · have h2 : ¬ (tv E v).category = 2 := by rw [tv_cat]; exact h
      simp only [lg_sl, List.map_cons, List.flatMap_cons, List.length_append] at ih ⊢
      simp only [ent, if_neg h, List.length_cons]
      rw [ih]
      cases hv : tv E v <;> rw [hv] at h2 <;> simp_all [Value.category] <;> omega
end
section
section GR
variable {E : EV} {d : Nat} {k : MD} {pc : Nat} {L L' : List (Option Value)} {st : List Value} {I : Mem} {r : Option Value × Mem}
/-- a method's contract out of its body -/
theorem Gm.of {av : List Value} {L : List (Option Value)} (hy : plainName k.1.cls = true) (hL : ent av ++ List.replicate (k.2.2.1 - (ent av).length) none = L) (hn : (ent av).length ≤ k.2.2.1) (h : G E d k 0 L [] I r) : Gm E d k av I r := by
  subst hL
  refine Met.ofW (cc := k.2.1) (maxL := k.2.2.1) (ret := k.2.2.2) hy rfl ?_
  intro p e s m args below meth c s₁ B hml hv
  obtain ⟨rfl, hCF, hP, hD⟩ := hv
  have hl := lv_entry (av.map (tv E)) (n := k.2.2.1) (by rw [lg_sl_tv]; exact hn)
  rw [lg_entry_eq]
  refine h p e s m _ below meth c s.heap [] _ ⟨B.exec, B.bytes, B.returns, hml, findClass_of_methodNamed B.named, B.notSynchronized, hCF⟩ hP hD va_S.rf ?_
  rw [asc_app, ent_args]
  exact hl
/-- locals that are dead are forgotten -/
def lforget : List (Option Value) → List Nat → List (Option Value)
  | L, [] => L
  | L, i :: is => lforget (L.set i none) is
theorem lforget_get : ∀ (is : List Nat) (L : List (Option Value)) (j : Nat) (v : Value), (lforget L is)[j]? = some (some v) → L[j]? = some (some v)
  | [], L, j, v, h => h
  | i :: is, L, j, v, h => by
    have h2 := lforget_get is (L.set i none) j v h
    by_cases e : i = j
    · subst e
      by_cases hl : i < L.length
      · rw [List.getElem?_set_self hl] at h2; cases h2
      · rw [List.getElem?_eq_none (by rw [List.length_set]; omega)] at h2; cases h2
    · rwa [List.getElem?_set_ne e] at h2
theorem lv_has_mono {ls : Array Slot} {n : Nat} {l l' : List (Nat × Value)} (h : lv_has ls n l) (hs : ∀ q ∈ l', q ∈ l) : lv_has ls n l' := ⟨h.1, h.2.1, fun q hq => h.2.2 q (hs q hq)⟩
theorem G.forget (is : List Nat) (hL : lforget L is = L') (h : G E d k pc L' st I r) : G E d k pc L st I r := by
  intro p e s m args below meth c H locs ls C hP hD hS hl
  refine h p e s m args below meth c H locs ls C hP hD hS (lv_has_mono hl fun q hq => ?_)
  obtain ⟨j, v, h1, h2⟩ := (asc_mem E L' 0).mp hq
  subst hL
  exact (asc_mem E L 0).mpr ⟨j, v, h1, lforget_get is L j v h2⟩
theorem asc_at {ls : Array Slot} {n i : Nat} {v : Value} (hl : lv_has ls n (asc E 0 L)) (hi : L[i]? = some (some v)) : ls[i]? = some (.val (tv E v)) := hl.2.2 (i, tv E v) ((asc_mem E L 0).mpr ⟨i, v, by rw [Nat.zero_add], hi⟩)

theorem G.iconst {n : Int} {v : Int32} (hd : decode k.2.1 pc = .ok (.iconst n, 1)) (hv : Int32.ofInt n = v) (kk : G E d k (pc + 1) L (.int v :: st) I r) : G E d k pc L st I r := by
  intro p e s m args below meth c H locs ls C hP hD hS hl
  exact lv_iconst C.1 C.2.1 hd hv (kk p e s m args below meth c H locs ls C hP hD hS hl)
theorem G.bipush {n : Int} {v : Int32} (hd : decode k.2.1 pc = .ok (.bipush n, 2)) (hv : (Int8.ofInt n).toInt32 = v) (kk : G E d k (pc + 2) L (.int v :: st) I r) : G E d k pc L st I r := by
  intro p e s m args below meth c H locs ls C hP hD hS hl
  exact lv_bipush C.1 C.2.1 hd hv (kk p e s m args below meth c H locs ls C hP hD hS hl)
theorem G.sipush {n : Int} {v : Int32} (hd : decode k.2.1 pc = .ok (.sipush n, 3)) (hv : (Int16.ofInt n).toInt32 = v) (kk : G E d k (pc + 3) L (.int v :: st) I r) : G E d k pc L st I r := by
  intro p e s m args below meth c H locs ls C hP hD hS hl
  exact lv_sipush C.1 C.2.1 hd hv (kk p e s m args below meth c H locs ls C hP hD hS hl)
theorem G.lconst {n : Fin 2} {v : Int64} (hd : decode k.2.1 pc = .ok (.lconst n, 1)) (hv : Int64.ofNat n = v) (kk : G E d k (pc + 1) L (.long v :: st) I r) : G E d k pc L st I r := by
  intro p e s m args below meth c H locs ls C hP hD hS hl
  exact lv_lconst C.1 C.2.1 hd hv (kk p e s m args below meth c H locs ls C hP hD hS hl)
theorem G.ldc {idx : Nat} {v : Int32} (hd : decode k.2.1 pc = .ok (.ldc idx, 2)) (hw : Cond.constant k.1.cls idx v ∈ lw_g) (kk : G E d k (pc + 2) L (.int v :: st) I r) : G E d k pc L st I r := by
  intro p e s m args below meth c H locs ls C hP hD hS hl
  exact lv_ldc C.1 C.2.1 C.2.2.2.2.1 (C.2.2.2.2.2.2.hts args _ hw) hd (kk p e s m args below meth c H locs ls C hP hD hS hl)
theorem G.ldcw {idx : Nat} {v : Int32} (hd : decode k.2.1 pc = .ok (.ldc_w idx, 3)) (hw : Cond.constant k.1.cls idx v ∈ lw_g) (kk : G E d k (pc + 3) L (.int v :: st) I r) : G E d k pc L st I r := by
  intro p e s m args below meth c H locs ls C hP hD hS hl
  exact lv_ldcw C.1 C.2.1 C.2.2.2.2.1 (C.2.2.2.2.2.2.hts args _ hw) hd (kk p e s m args below meth c H locs ls C hP hD hS hl)
theorem G.ldc2 {idx : Nat} {v : Int64} (hd : decode k.2.1 pc = .ok (.ldc2_w idx, 3)) (hw : Cond.constantLong k.1.cls idx v ∈ lw_g) (kk : G E d k (pc + 3) L (.long v :: st) I r) : G E d k pc L st I r := by
  intro p e s m args below meth c H locs ls C hP hD hS hl
  exact lv_ldc2 C.1 C.2.1 C.2.2.2.2.1 (C.2.2.2.2.2.2.hts args _ hw) hd (kk p e s m args below meth c H locs ls C hP hD hS hl)
theorem G.iload_n {j : Fin 4} {i : Nat} {x : Int32} (hd : decode k.2.1 pc = .ok (.iload_n j, 1)) (hj : (j : Nat) = i) (hi : L[i]? = some (some (.int x))) (kk : G E d k (pc + 1) L (.int x :: st) I r) : G E d k pc L st I r := by
  intro p e s m args below meth c H locs ls C hP hD hS hl
  exact lv_iload_n C.1 C.2.1 hd hj (asc_at hl hi) (kk p e s m args below meth c H locs ls C hP hD hS hl)
theorem G.iload {i : Nat} {x : Int32} (hd : decode k.2.1 pc = .ok (.iload i, 2)) (hi : L[i]? = some (some (.int x))) (kk : G E d k (pc + 2) L (.int x :: st) I r) : G E d k pc L st I r := by
  intro p e s m args below meth c H locs ls C hP hD hS hl
  exact lv_iload C.1 C.2.1 hd (asc_at hl hi) (kk p e s m args below meth c H locs ls C hP hD hS hl)
theorem G.lload_n {j : Fin 4} {i : Nat} {x : Int64} (hd : decode k.2.1 pc = .ok (.lload_n j, 1)) (hj : (j : Nat) = i) (hi : L[i]? = some (some (.long x))) (kk : G E d k (pc + 1) L (.long x :: st) I r) : G E d k pc L st I r := by
  intro p e s m args below meth c H locs ls C hP hD hS hl
  exact lv_lload_n C.1 C.2.1 hd hj (asc_at hl hi) (kk p e s m args below meth c H locs ls C hP hD hS hl)
theorem G.lload {i : Nat} {x : Int64} (hd : decode k.2.1 pc = .ok (.lload i, 2)) (hi : L[i]? = some (some (.long x))) (kk : G E d k (pc + 2) L (.long x :: st) I r) : G E d k pc L st I r := by
  intro p e s m args below meth c H locs ls C hP hD hS hl
  exact lv_lload C.1 C.2.1 hd (asc_at hl hi) (kk p e s m args below meth c H locs ls C hP hD hS hl)
theorem G.aload_n {j : Fin 4} {i a : Nat} (hd : decode k.2.1 pc = .ok (.aload_n j, 1)) (hj : (j : Nat) = i) (hi : L[i]? = some (some (.ref a))) (kk : G E d k (pc + 1) L (.ref a :: st) I r) : G E d k pc L st I r := by
  intro p e s m args below meth c H locs ls C hP hD hS hl
  exact lv_aload_n C.1 C.2.1 hd hj (asc_at hl hi) (kk p e s m args below meth c H locs ls C hP hD hS hl)
theorem G.aload {i a : Nat} (hd : decode k.2.1 pc = .ok (.aload i, 2)) (hi : L[i]? = some (some (.ref a))) (kk : G E d k (pc + 2) L (.ref a :: st) I r) : G E d k pc L st I r := by
  intro p e s m args below meth c H locs ls C hP hD hS hl
  exact lv_aload C.1 C.2.1 hd (asc_at hl hi) (kk p e s m args below meth c H locs ls C hP hD hS hl)
/-- no long lies across the place -/
def okst : List (Option Value) → Nat → Bool
  | _, 0 => true
  | L, j + 1 => match L[j]? with
    | some (some v) => v.category == 1
    | _ => true
theorem asc_store {ls : Array Slot} {n i : Nat} {v : Value} (hi : i < L.length) (hok : okst L i = true) (h : lv_has ls n ((i, tv E v) :: (asc E 0 L).filter (fun q => !(q.1 == i) && !(q.1 + 1 == i && q.2.category == 2)))) : lv_has ls n (asc E 0 (L.set i (some v))) := by
  refine lv_has_mono h fun q hq => ?_
  obtain ⟨j, w, h1, h2⟩ := (asc_mem E _ 0).mp hq
  rw [Nat.zero_add] at h1
  by_cases e : i = j
  · subst e
    rw [List.getElem?_set_self (by omega)] at h2
    cases h2
    rw [h1]
    exact List.mem_cons_self
  · rw [List.getElem?_set_ne e] at h2
    refine List.mem_cons_of_mem _ (List.mem_filter.mpr ⟨(asc_mem E L 0).mpr ⟨j, w, by rw [Nat.zero_add]; exact h1, h2⟩, ?_⟩)
    rw [h1]
    have e2 : (j == i) = false := by rw [beq_eq_false_iff_ne]; exact fun z => e z.symm
    simp only [e2, Bool.not_false, Bool.true_and, Bool.not_eq_true']
    by_cases e3 : j + 1 = i
    · subst e3
      have hok2 : (match L[j]? with
        | some (some v) => v.category == 1
        | _ => true) = true := hok
      rw [h2] at hok2
      have hc : w.category = 1 := by simpa using hok2
      rw [tv_cat, hc]
      simp
    · have e4 : (j + 1 == i) = false := by rw [beq_eq_false_iff_ne]; exact e3
      simp only [e4, Bool.false_and]
theorem asc_store2 {ls : Array Slot} {n i : Nat} {v : Value} (hi : i + 1 < L.length) (hok : okst L i = true) (h : lv_has ls n ((i, tv E v) :: (asc E 0 L).filter (fun q => !(q.1 == i) && (!(q.1 == i + 1) && !(q.1 + 1 == i && q.2.category == 2))))) : lv_has ls n (asc E 0 ((L.set i (some v)).set (i + 1) none)) := by
  refine lv_has_mono h fun q hq => ?_
  obtain ⟨j, w, h1, h2⟩ := (asc_mem E _ 0).mp hq
  rw [Nat.zero_add] at h1
  by_cases e9 : i + 1 = j
  · subst e9
    rw [List.getElem?_set_self (by rw [List.length_set]; exact hi)] at h2
    cases h2
  rw [List.getElem?_set_ne e9] at h2
  by_cases e : i = j
  · subst e
    rw [List.getElem?_set_self (by omega)] at h2
    cases h2
    rw [h1]
    exact List.mem_cons_self
  · rw [List.getElem?_set_ne e] at h2
    refine List.mem_cons_of_mem _ (List.mem_filter.mpr ⟨(asc_mem E L 0).mpr ⟨j, w, by rw [Nat.zero_add]; exact h1, h2⟩, ?_⟩)
    rw [h1]
    have e2 : (j == i) = false := by rw [beq_eq_false_iff_ne]; exact fun z => e z.symm
    have e8 : (j == i + 1) = false := by rw [beq_eq_false_iff_ne]; exact fun z => e9 z.symm
    simp only [e2, e8, Bool.not_false, Bool.true_and, Bool.not_eq_true']
    by_cases e3 : j + 1 = i
    · subst e3
      have hok2 : (match L[j]? with
        | some (some v) => v.category == 1
        | _ => true) = true := hok
      rw [h2] at hok2
      have hc : w.category = 1 := by simpa using hok2
      rw [tv_cat, hc]
      simp
    · have e4 : (j + 1 == i) = false := by rw [beq_eq_false_iff_ne]; exact e3
      simp only [e4, Bool.false_and]
theorem G.istore_n {j : Fin 4} {i : Nat} {x : Int32} (hd : decode k.2.1 pc = .ok (.istore_n j, 1)) (hj : (j : Nat) = i) (hn : i < k.2.2.1) (hi : i < L.length) (hok : okst L i = true) (hL : L.set i (some (.int x)) = L') (kk : G E d k (pc + 1) L' st I r) : G E d k pc L (.int x :: st) I r := by
  intro p e s m args below meth c H locs ls C hP hD hS hl
  subst hL
  exact lv_istore_n C.1 C.2.1 hd hj hl hn rfl (fun ls' h' => kk p e s m args below meth c H locs ls' C hP hD hS (asc_store (E := E) (v := .int x) hi hok h'))
theorem G.astore_n {j : Fin 4} {i : Nat} {x : Nat} (hd : decode k.2.1 pc = .ok (.astore_n j, 1)) (hj : (j : Nat) = i) (hn : i < k.2.2.1) (hi : i < L.length) (hok : okst L i = true) (hL : L.set i (some (.ref x)) = L') (kk : G E d k (pc + 1) L' st I r) : G E d k pc L (.ref x :: st) I r := by
  intro p e s m args below meth c H locs ls C hP hD hS hl
  subst hL
  exact lv_astore_n C.1 C.2.1 hd hj hl hn rfl (fun ls' h' => kk p e s m args below meth c H locs ls' C hP hD hS (asc_store (E := E) (v := .ref x) hi hok h'))
theorem G.lstore_n {j : Fin 4} {i : Nat} {x : Int64} (hd : decode k.2.1 pc = .ok (.lstore_n j, 1)) (hj : (j : Nat) = i) (hn : i + 1 < k.2.2.1) (hi : i + 1 < L.length) (hok : okst L i = true) (hL : (L.set i (some (.long x))).set (i + 1) none = L') (kk : G E d k (pc + 1) L' st I r) : G E d k pc L (.long x :: st) I r := by
  intro p e s m args below meth c H locs ls C hP hD hS hl
  subst hL
  exact lv_lstore_n C.1 C.2.1 hd hj hl hn rfl (fun ls' h' => kk p e s m args below meth c H locs ls' C hP hD hS (asc_store2 (E := E) (v := .long x) hi hok h'))
theorem G.istore {i : Nat} {x : Int32} (hd : decode k.2.1 pc = .ok (.istore i, 2)) (hn : i < k.2.2.1) (hi : i < L.length) (hok : okst L i = true) (hL : L.set i (some (.int x)) = L') (kk : G E d k (pc + 2) L' st I r) : G E d k pc L (.int x :: st) I r := by
  intro p e s m args below meth c H locs ls C hP hD hS hl
  subst hL
  exact lv_istore C.1 C.2.1 hd hl hn rfl (fun ls' h' => kk p e s m args below meth c H locs ls' C hP hD hS (asc_store (E := E) (v := .int x) hi hok h'))
theorem G.astore {i : Nat} {x : Nat} (hd : decode k.2.1 pc = .ok (.astore i, 2)) (hn : i < k.2.2.1) (hi : i < L.length) (hok : okst L i = true) (hL : L.set i (some (.ref x)) = L') (kk : G E d k (pc + 2) L' st I r) : G E d k pc L (.ref x :: st) I r := by
  intro p e s m args below meth c H locs ls C hP hD hS hl
  subst hL
  exact lv_astore C.1 C.2.1 hd hl hn rfl (fun ls' h' => kk p e s m args below meth c H locs ls' C hP hD hS (asc_store (E := E) (v := .ref x) hi hok h'))
theorem G.lstore {i : Nat} {x : Int64} (hd : decode k.2.1 pc = .ok (.lstore i, 2)) (hn : i + 1 < k.2.2.1) (hi : i + 1 < L.length) (hok : okst L i = true) (hL : (L.set i (some (.long x))).set (i + 1) none = L') (kk : G E d k (pc + 2) L' st I r) : G E d k pc L (.long x :: st) I r := by
  intro p e s m args below meth c H locs ls C hP hD hS hl
  subst hL
  exact lv_lstore C.1 C.2.1 hd hl hn rfl (fun ls' h' => kk p e s m args below meth c H locs ls' C hP hD hS (asc_store2 (E := E) (v := .long x) hi hok h'))
theorem G.iinc {i : Nat} {n : Int} {x v : Int32} (hd : decode k.2.1 pc = .ok (.iinc i n, 3)) (hx : L[i]? = some (some (.int x))) (hv : x + Int32.ofInt n = v) (hn : i < k.2.2.1) (hok : okst L i = true) (hL : L.set i (some (.int v)) = L') (kk : G E d k (pc + 3) L' st I r) : G E d k pc L st I r := by
  intro p e s m args below meth c H locs ls C hP hD hS hl
  subst hL
  obtain ⟨q, hq⟩ := List.getElem?_of_mem ((asc_mem E L 0).mpr ⟨i, .int x, by rw [Nat.zero_add], hx⟩)
  exact lv_iinc C.1 C.2.1 hd hl hq hv hn rfl (fun ls' h' => kk p e s m args below meth c H locs ls' C hP hD hS (asc_store (E := E) (v := .int v) ((List.getElem?_eq_some_iff.mp hx).1) hok h'))
theorem G.iadd {x : Int32} {y : Int32} (hd : decode k.2.1 pc = .ok (.iadd, 1)) (kk : G E d k (pc + 1) L (.int (x + y) :: st) I r) : G E d k pc L (.int y :: .int x :: st) I r := by
  intro p e s m args below meth c H locs ls C hP hD hS hl
  exact lv_iadd C.1 C.2.1 hd  (kk p e s m args below meth c H locs ls C hP hD hS hl)
theorem G.isub {x : Int32} {y : Int32} (hd : decode k.2.1 pc = .ok (.isub, 1)) (kk : G E d k (pc + 1) L (.int (x - y) :: st) I r) : G E d k pc L (.int y :: .int x :: st) I r := by
  intro p e s m args below meth c H locs ls C hP hD hS hl
  exact lv_isub C.1 C.2.1 hd  (kk p e s m args below meth c H locs ls C hP hD hS hl)
theorem G.imul {x : Int32} {y : Int32} (hd : decode k.2.1 pc = .ok (.imul, 1)) (kk : G E d k (pc + 1) L (.int (x * y) :: st) I r) : G E d k pc L (.int y :: .int x :: st) I r := by
  intro p e s m args below meth c H locs ls C hP hD hS hl
  exact lv_imul C.1 C.2.1 hd  (kk p e s m args below meth c H locs ls C hP hD hS hl)
theorem G.iand {x : Int32} {y : Int32} (hd : decode k.2.1 pc = .ok (.iand, 1)) (kk : G E d k (pc + 1) L (.int (x &&& y) :: st) I r) : G E d k pc L (.int y :: .int x :: st) I r := by
  intro p e s m args below meth c H locs ls C hP hD hS hl
  exact lv_iand C.1 C.2.1 hd  (kk p e s m args below meth c H locs ls C hP hD hS hl)
theorem G.ior {x : Int32} {y : Int32} (hd : decode k.2.1 pc = .ok (.ior, 1)) (kk : G E d k (pc + 1) L (.int (x ||| y) :: st) I r) : G E d k pc L (.int y :: .int x :: st) I r := by
  intro p e s m args below meth c H locs ls C hP hD hS hl
  exact lv_ior C.1 C.2.1 hd  (kk p e s m args below meth c H locs ls C hP hD hS hl)
theorem G.ixor {x : Int32} {y : Int32} (hd : decode k.2.1 pc = .ok (.ixor, 1)) (kk : G E d k (pc + 1) L (.int (x ^^^ y) :: st) I r) : G E d k pc L (.int y :: .int x :: st) I r := by
  intro p e s m args below meth c H locs ls C hP hD hS hl
  exact lv_ixor C.1 C.2.1 hd  (kk p e s m args below meth c H locs ls C hP hD hS hl)
theorem G.ishl {x : Int32} {y : Int32} (hd : decode k.2.1 pc = .ok (.ishl, 1)) (kk : G E d k (pc + 1) L (.int (x <<< (y &&& 31)) :: st) I r) : G E d k pc L (.int y :: .int x :: st) I r := by
  intro p e s m args below meth c H locs ls C hP hD hS hl
  exact lv_ishl C.1 C.2.1 hd  (kk p e s m args below meth c H locs ls C hP hD hS hl)
theorem G.ishr {x : Int32} {y : Int32} (hd : decode k.2.1 pc = .ok (.ishr, 1)) (kk : G E d k (pc + 1) L (.int (x >>> (y &&& 31)) :: st) I r) : G E d k pc L (.int y :: .int x :: st) I r := by
  intro p e s m args below meth c H locs ls C hP hD hS hl
  exact lv_ishr C.1 C.2.1 hd  (kk p e s m args below meth c H locs ls C hP hD hS hl)
theorem G.iushr {x : Int32} {y : Int32} (hd : decode k.2.1 pc = .ok (.iushr, 1)) (kk : G E d k (pc + 1) L (.int ((x.toUInt32 >>> (y.toUInt32 &&& Int32.toUInt32 31)).toInt32) :: st) I r) : G E d k pc L (.int y :: .int x :: st) I r := by
  intro p e s m args below meth c H locs ls C hP hD hS hl
  exact lv_iushr C.1 C.2.1 hd rfl (kk p e s m args below meth c H locs ls C hP hD hS hl)
theorem G.ladd {x : Int64} {y : Int64} (hd : decode k.2.1 pc = .ok (.ladd, 1)) (kk : G E d k (pc + 1) L (.long (x + y) :: st) I r) : G E d k pc L (.long y :: .long x :: st) I r := by
  intro p e s m args below meth c H locs ls C hP hD hS hl
  exact lv_ladd C.1 C.2.1 hd  (kk p e s m args below meth c H locs ls C hP hD hS hl)
theorem G.lsub {x : Int64} {y : Int64} (hd : decode k.2.1 pc = .ok (.lsub, 1)) (kk : G E d k (pc + 1) L (.long (x - y) :: st) I r) : G E d k pc L (.long y :: .long x :: st) I r := by
  intro p e s m args below meth c H locs ls C hP hD hS hl
  exact lv_lsub C.1 C.2.1 hd  (kk p e s m args below meth c H locs ls C hP hD hS hl)
theorem G.lmul {x : Int64} {y : Int64} (hd : decode k.2.1 pc = .ok (.lmul, 1)) (kk : G E d k (pc + 1) L (.long (x * y) :: st) I r) : G E d k pc L (.long y :: .long x :: st) I r := by
  intro p e s m args below meth c H locs ls C hP hD hS hl
  exact lv_lmul C.1 C.2.1 hd  (kk p e s m args below meth c H locs ls C hP hD hS hl)
theorem G.land {x : Int64} {y : Int64} (hd : decode k.2.1 pc = .ok (.land, 1)) (kk : G E d k (pc + 1) L (.long (x &&& y) :: st) I r) : G E d k pc L (.long y :: .long x :: st) I r := by
  intro p e s m args below meth c H locs ls C hP hD hS hl
  exact lv_land C.1 C.2.1 hd  (kk p e s m args below meth c H locs ls C hP hD hS hl)
theorem G.lor {x : Int64} {y : Int64} (hd : decode k.2.1 pc = .ok (.lor, 1)) (kk : G E d k (pc + 1) L (.long (x ||| y) :: st) I r) : G E d k pc L (.long y :: .long x :: st) I r := by
  intro p e s m args below meth c H locs ls C hP hD hS hl
  exact lv_lor C.1 C.2.1 hd  (kk p e s m args below meth c H locs ls C hP hD hS hl)
theorem G.idiv {x : Int32} {y : Int32} (hd : decode k.2.1 pc = .ok (.idiv, 1)) (hne : ¬ y = 0) (kk : G E d k (pc + 1) L (.int (x / y) :: st) I r) : G E d k pc L (.int y :: .int x :: st) I r := by
  intro p e s m args below meth c H locs ls C hP hD hS hl
  exact lv_idiv C.1 C.2.1 hd hne (kk p e s m args below meth c H locs ls C hP hD hS hl)
theorem G.irem {x : Int32} {y : Int32} (hd : decode k.2.1 pc = .ok (.irem, 1)) (hne : ¬ y = 0) (kk : G E d k (pc + 1) L (.int (x - x / y * y) :: st) I r) : G E d k pc L (.int y :: .int x :: st) I r := by
  intro p e s m args below meth c H locs ls C hP hD hS hl
  exact lv_irem C.1 C.2.1 hd hne (kk p e s m args below meth c H locs ls C hP hD hS hl)
theorem G.ldiv {x : Int64} {y : Int64} (hd : decode k.2.1 pc = .ok (.ldiv, 1)) (hne : ¬ y = 0) (kk : G E d k (pc + 1) L (.long (x / y) :: st) I r) : G E d k pc L (.long y :: .long x :: st) I r := by
  intro p e s m args below meth c H locs ls C hP hD hS hl
  exact lv_ldiv C.1 C.2.1 hd hne (kk p e s m args below meth c H locs ls C hP hD hS hl)
theorem G.lrem {x : Int64} {y : Int64} (hd : decode k.2.1 pc = .ok (.lrem, 1)) (hne : ¬ y = 0) (kk : G E d k (pc + 1) L (.long (x - x / y * y) :: st) I r) : G E d k pc L (.long y :: .long x :: st) I r := by
  intro p e s m args below meth c H locs ls C hP hD hS hl
  exact lv_lrem C.1 C.2.1 hd hne (kk p e s m args below meth c H locs ls C hP hD hS hl)
theorem G.lshl {x : Int64} {y : Int32} (hd : decode k.2.1 pc = .ok (.lshl, 1)) (kk : G E d k (pc + 1) L (.long (x <<< (y.toInt64 &&& 63)) :: st) I r) : G E d k pc L (.int y :: .long x :: st) I r := by
  intro p e s m args below meth c H locs ls C hP hD hS hl
  exact lv_lshl C.1 C.2.1 hd rfl (kk p e s m args below meth c H locs ls C hP hD hS hl)
theorem G.lshr {x : Int64} {y : Int32} (hd : decode k.2.1 pc = .ok (.lshr, 1)) (kk : G E d k (pc + 1) L (.long (x >>> (y.toInt64 &&& 63)) :: st) I r) : G E d k pc L (.int y :: .long x :: st) I r := by
  intro p e s m args below meth c H locs ls C hP hD hS hl
  exact lv_lshr C.1 C.2.1 hd rfl (kk p e s m args below meth c H locs ls C hP hD hS hl)
theorem G.lcmp {x : Int64} {y : Int64} (hd : decode k.2.1 pc = .ok (.lcmp, 1)) (kk : G E d k (pc + 1) L (.int (lg_cmp x y) :: st) I r) : G E d k pc L (.long y :: .long x :: st) I r := by
  intro p e s m args below meth c H locs ls C hP hD hS hl
  exact W.lcmp C.1 C.2.1 hd  (kk p e s m args below meth c H locs ls C hP hD hS hl)
theorem G.i2l {x : Int32} (hd : decode k.2.1 pc = .ok (.i2l, 1)) (kk : G E d k (pc + 1) L (.long (x.toInt64) :: st) I r) : G E d k pc L (.int x :: st) I r := by
  intro p e s m args below meth c H locs ls C hP hD hS hl
  exact lv_i2l C.1 C.2.1 hd rfl (kk p e s m args below meth c H locs ls C hP hD hS hl)
theorem G.l2i {x : Int64} (hd : decode k.2.1 pc = .ok (.l2i, 1)) (kk : G E d k (pc + 1) L (.int (x.toInt32) :: st) I r) : G E d k pc L (.long x :: st) I r := by
  intro p e s m args below meth c H locs ls C hP hD hS hl
  exact lv_l2i C.1 C.2.1 hd rfl (kk p e s m args below meth c H locs ls C hP hD hS hl)
theorem G.i2c {x : Int32} (hd : decode k.2.1 pc = .ok (.i2c, 1)) (kk : G E d k (pc + 1) L (.int ((x.toUInt32 % 65536).toInt32) :: st) I r) : G E d k pc L (.int x :: st) I r := by
  intro p e s m args below meth c H locs ls C hP hD hS hl
  exact lv_i2c C.1 C.2.1 hd rfl (kk p e s m args below meth c H locs ls C hP hD hS hl)
theorem G.dup {v : Value} (hd : decode k.2.1 pc = .ok (.dup, 1)) (hv : v.category = 1) (kk : G E d k (pc + 1) L (v :: v :: st) I r) : G E d k pc L (v :: st) I r := by
  intro p e s m args below meth c H locs ls C hP hD hS hl
  exact lv_dup C.1 C.2.1 hd (by rw [tv_cat]; exact hv) (kk p e s m args below meth c H locs ls C hP hD hS hl)
theorem G.dup2 {v w : Value} (hd : decode k.2.1 pc = .ok (.dup2, 1)) (hv : v.category = 1) (hw : w.category = 1) (kk : G E d k (pc + 1) L (v :: w :: v :: w :: st) I r) : G E d k pc L (v :: w :: st) I r := by
  intro p e s m args below meth c H locs ls C hP hD hS hl
  exact lv_dup2_11 C.1 C.2.1 hd (by rw [tv_cat]; exact hv) (by rw [tv_cat]; exact hw) (kk p e s m args below meth c H locs ls C hP hD hS hl)
theorem G.pop {v : Value} (hd : decode k.2.1 pc = .ok (.pop, 1)) (hv : v.category = 1) (kk : G E d k (pc + 1) L st I r) : G E d k pc L (v :: st) I r := by
  intro p e s m args below meth c H locs ls C hP hD hS hl
  exact lv_pop C.1 C.2.1 hd (by rw [tv_cat]; exact hv) (kk p e s m args below meth c H locs ls C hP hD hS hl)
theorem G.goto {off : Int} {tgt : Nat} (hd : decode k.2.1 pc = .ok (.goto off, 3)) (ht : (pc : Int) + off = (tgt : Int)) (kk : G E d k tgt L st I r) : G E d k pc L st I r := by
  intro p e s m args below meth c H locs ls C hP hD hS hl
  exact lv_goto C.1 C.2.1 hd ht (kk p e s m args below meth c H locs ls C hP hD hS hl)
theorem G.if_eq {x : Int32} {off : Int} {tgt : Nat} (hd : decode k.2.1 pc = .ok (.ifCond .eq off, 3)) (ht : (pc : Int) + off = (tgt : Int)) (kt : x = 0 → G E d k tgt L st I r) (kf : ¬ x = 0 → G E d k (pc + 3) L st I r) : G E d k pc L (.int x :: st) I r := by
  intro p e s m args below meth c H locs ls C hP hD hS hl
  exact lv_if_eq C.1 C.2.1 hd ht (fun q => kt q p e s m args below meth c H locs ls C hP hD hS hl) (fun q => kf q p e s m args below meth c H locs ls C hP hD hS hl)
theorem G.icmp_eq {x y : Int32} {off : Int} {tgt : Nat} (hd : decode k.2.1 pc = .ok (.if_icmp .eq off, 3)) (ht : (pc : Int) + off = (tgt : Int)) (kt : x = y → G E d k tgt L st I r) (kf : ¬ x = y → G E d k (pc + 3) L st I r) : G E d k pc L (.int y :: .int x :: st) I r := by
  intro p e s m args below meth c H locs ls C hP hD hS hl
  exact lv_icmp_eq C.1 C.2.1 hd ht (fun q => kt q p e s m args below meth c H locs ls C hP hD hS hl) (fun q => kf q p e s m args below meth c H locs ls C hP hD hS hl)
theorem G.if_ne {x : Int32} {off : Int} {tgt : Nat} (hd : decode k.2.1 pc = .ok (.ifCond .ne off, 3)) (ht : (pc : Int) + off = (tgt : Int)) (kt : ¬ x = 0 → G E d k tgt L st I r) (kf : x = 0 → G E d k (pc + 3) L st I r) : G E d k pc L (.int x :: st) I r := by
  intro p e s m args below meth c H locs ls C hP hD hS hl
  exact lv_if_ne C.1 C.2.1 hd ht (fun q => kt q p e s m args below meth c H locs ls C hP hD hS hl) (fun q => kf q p e s m args below meth c H locs ls C hP hD hS hl)
theorem G.icmp_ne {x y : Int32} {off : Int} {tgt : Nat} (hd : decode k.2.1 pc = .ok (.if_icmp .ne off, 3)) (ht : (pc : Int) + off = (tgt : Int)) (kt : ¬ x = y → G E d k tgt L st I r) (kf : x = y → G E d k (pc + 3) L st I r) : G E d k pc L (.int y :: .int x :: st) I r := by
  intro p e s m args below meth c H locs ls C hP hD hS hl
  exact lv_icmp_ne C.1 C.2.1 hd ht (fun q => kt q p e s m args below meth c H locs ls C hP hD hS hl) (fun q => kf q p e s m args below meth c H locs ls C hP hD hS hl)
theorem G.if_lt {x : Int32} {off : Int} {tgt : Nat} (hd : decode k.2.1 pc = .ok (.ifCond .lt off, 3)) (ht : (pc : Int) + off = (tgt : Int)) (kt : x < 0 → G E d k tgt L st I r) (kf : ¬ x < 0 → G E d k (pc + 3) L st I r) : G E d k pc L (.int x :: st) I r := by
  intro p e s m args below meth c H locs ls C hP hD hS hl
  exact lv_if_lt C.1 C.2.1 hd ht (fun q => kt q p e s m args below meth c H locs ls C hP hD hS hl) (fun q => kf q p e s m args below meth c H locs ls C hP hD hS hl)
theorem G.icmp_lt {x y : Int32} {off : Int} {tgt : Nat} (hd : decode k.2.1 pc = .ok (.if_icmp .lt off, 3)) (ht : (pc : Int) + off = (tgt : Int)) (kt : x < y → G E d k tgt L st I r) (kf : ¬ x < y → G E d k (pc + 3) L st I r) : G E d k pc L (.int y :: .int x :: st) I r := by
  intro p e s m args below meth c H locs ls C hP hD hS hl
  exact lv_icmp_lt C.1 C.2.1 hd ht (fun q => kt q p e s m args below meth c H locs ls C hP hD hS hl) (fun q => kf q p e s m args below meth c H locs ls C hP hD hS hl)
theorem G.if_ge {x : Int32} {off : Int} {tgt : Nat} (hd : decode k.2.1 pc = .ok (.ifCond .ge off, 3)) (ht : (pc : Int) + off = (tgt : Int)) (kt : 0 ≤ x → G E d k tgt L st I r) (kf : ¬ 0 ≤ x → G E d k (pc + 3) L st I r) : G E d k pc L (.int x :: st) I r := by
  intro p e s m args below meth c H locs ls C hP hD hS hl
  exact lv_if_ge C.1 C.2.1 hd ht (fun q => kt q p e s m args below meth c H locs ls C hP hD hS hl) (fun q => kf q p e s m args below meth c H locs ls C hP hD hS hl)
theorem G.icmp_ge {x y : Int32} {off : Int} {tgt : Nat} (hd : decode k.2.1 pc = .ok (.if_icmp .ge off, 3)) (ht : (pc : Int) + off = (tgt : Int)) (kt : y ≤ x → G E d k tgt L st I r) (kf : ¬ y ≤ x → G E d k (pc + 3) L st I r) : G E d k pc L (.int y :: .int x :: st) I r := by
  intro p e s m args below meth c H locs ls C hP hD hS hl
  exact lv_icmp_ge C.1 C.2.1 hd ht (fun q => kt q p e s m args below meth c H locs ls C hP hD hS hl) (fun q => kf q p e s m args below meth c H locs ls C hP hD hS hl)
theorem G.if_gt {x : Int32} {off : Int} {tgt : Nat} (hd : decode k.2.1 pc = .ok (.ifCond .gt off, 3)) (ht : (pc : Int) + off = (tgt : Int)) (kt : 0 < x → G E d k tgt L st I r) (kf : ¬ 0 < x → G E d k (pc + 3) L st I r) : G E d k pc L (.int x :: st) I r := by
  intro p e s m args below meth c H locs ls C hP hD hS hl
  exact lv_if_gt C.1 C.2.1 hd ht (fun q => kt q p e s m args below meth c H locs ls C hP hD hS hl) (fun q => kf q p e s m args below meth c H locs ls C hP hD hS hl)
theorem G.icmp_gt {x y : Int32} {off : Int} {tgt : Nat} (hd : decode k.2.1 pc = .ok (.if_icmp .gt off, 3)) (ht : (pc : Int) + off = (tgt : Int)) (kt : y < x → G E d k tgt L st I r) (kf : ¬ y < x → G E d k (pc + 3) L st I r) : G E d k pc L (.int y :: .int x :: st) I r := by
  intro p e s m args below meth c H locs ls C hP hD hS hl
  exact lv_icmp_gt C.1 C.2.1 hd ht (fun q => kt q p e s m args below meth c H locs ls C hP hD hS hl) (fun q => kf q p e s m args below meth c H locs ls C hP hD hS hl)
theorem G.if_le {x : Int32} {off : Int} {tgt : Nat} (hd : decode k.2.1 pc = .ok (.ifCond .le off, 3)) (ht : (pc : Int) + off = (tgt : Int)) (kt : x ≤ 0 → G E d k tgt L st I r) (kf : ¬ x ≤ 0 → G E d k (pc + 3) L st I r) : G E d k pc L (.int x :: st) I r := by
  intro p e s m args below meth c H locs ls C hP hD hS hl
  exact lv_if_le C.1 C.2.1 hd ht (fun q => kt q p e s m args below meth c H locs ls C hP hD hS hl) (fun q => kf q p e s m args below meth c H locs ls C hP hD hS hl)
theorem G.icmp_le {x y : Int32} {off : Int} {tgt : Nat} (hd : decode k.2.1 pc = .ok (.if_icmp .le off, 3)) (ht : (pc : Int) + off = (tgt : Int)) (kt : x ≤ y → G E d k tgt L st I r) (kf : ¬ x ≤ y → G E d k (pc + 3) L st I r) : G E d k pc L (.int y :: .int x :: st) I r := by
  intro p e s m args below meth c H locs ls C hP hD hS hl
  exact lv_icmp_le C.1 C.2.1 hd ht (fun q => kt q p e s m args below meth c H locs ls C hP hD hS hl) (fun q => kf q p e s m args below meth c H locs ls C hP hD hS hl)
theorem G.tsw_out {dflt lo hi : Int} {offs : Array Int} {len : Nat} {x : Int32} {tgt : Nat} (hd : decode k.2.1 pc = .ok (.tableswitch dflt lo hi offs, len)) (h : x.toInt < lo ∨ hi < x.toInt) (ht : (pc : Int) + dflt = (tgt : Int)) (kk : G E d k tgt L st I r) : G E d k pc L (.int x :: st) I r := by
  intro p e s m args below meth c H locs ls C hP hD hS hl
  exact lv_tableOut C.1 C.2.1 hd h ht (kk p e s m args below meth c H locs ls C hP hD hS hl)
theorem G.tsw_in {dflt lo hi : Int} {offs : Array Int} {len : Nat} {x : Int32} {off : Int} {tgt : Nat} (hd : decode k.2.1 pc = .ok (.tableswitch dflt lo hi offs, len)) (h1 : ¬ x.toInt < lo) (h2 : ¬ hi < x.toInt) (ho : offs[(x.toInt - lo).toNat]? = some off) (ht : (pc : Int) + off = (tgt : Int)) (kk : G E d k tgt L st I r) : G E d k pc L (.int x :: st) I r := by
  intro p e s m args below meth c H locs ls C hP hD hS hl
  exact lv_tableIn C.1 C.2.1 hd h1 h2 ho ht (kk p e s m args below meth c H locs ls C hP hD hS hl)
/-- a field by its entry: class, slot, kind, type -/
def FL (own : String) (idx ci i f : Nat) (ty : FieldType) : Prop := ∃ (C : String) (T : u_T) (N : Nat) (ty0 : Nat → FieldType), vwCl[ci]? = some (C, T, N) ∧ (∀ w ∈ u_ws C T N, w ∈ lw_g) ∧ Cond.fieldLink own idx (T i).1 (T i).2.1 (T i).2.2.1 ∈ lw_g ∧ (fk ci)[i]? = some f ∧ i < N ∧ (∀ k, k < N → parseFieldDescriptor (T k).2.2.1 = some (ty0 k)) ∧ (∀ a, a < N → ∀ b, b < N → a ≠ b → (T a).2.1 ≠ (T b).2.1) ∧ parseFieldDescriptor (T i).2.2.1 = some ty ∧ (T i).2.2.2 = (f == 1) ∧ ci < 13
/-- an index within -/
def inb (i : Int32) (n : Nat) : Bool := !(decide (i < 0) || decide (n ≤ i.toNatClampNeg))
abbrev ix (i : Int32) : Nat := i.toNatClampNeg
theorem inb_in {i : Int32} {n : Nat} (h : inb i n = true) : vp_in i n := by
  intro q
  rcases q with q | q <;> simp [inb, q] at h
theorem w_get {a idx ci i f : Nat} {ty : FieldType} (hd : decode k.2.1 pc = .ok (.getfield idx, 3)) (fl : FL k.1.cls idx ci i f ty) (ha : a < NC) (hk : lk a = ci) {p : Program} {e : Env} {s : State} {m : MethodId} {args : Array Value} {below : List Frame} {meth : Method} {c : Code} {H : Heap} {locs : List Loc} {ls : Array Slot} {rest : List Value} {Q : State → Prop} (C : Cx E k p s m meth c) (hP : va_P (eD E) vwCl (wl E I) H)
    (kk : W p E.1 e (rmd d) s m args below meth c H locs 0 0 Q (F0 m (pc + 3) ls (fv E I a i f :: rest))) : W p E.1 e (rmd d) s m args below meth c H locs 0 0 Q (F0 m pc ls (.ref (eAd E a) :: rest)) := by
  obtain ⟨C9, T, N, ty0, h1, h2, h3, h4, h5, h6, h7, h8, h9, h10⟩ := fl
  subst hk
  exact va_get (D := eD E) (ci := lk a) (C := C9) (T := T) (N := N) C.1 C.2.1 (C.2.2.2.2.2.2.hts args) h2 C.2.2.2.2.1 C.2.2.2.2.2.2.2.2.2.1 hP a (by rw [wl_get E I ha, pic_r E I h10]) h1 i h5 (C.2.2.2.2.2.2.hts args _ h3) (fun _ h => h) (fds_get E I h4) hd kk
theorem G.getI {a idx ci i : Nat} {ty : FieldType} (hd : decode k.2.1 pc = .ok (.getfield idx, 3)) (fl : FL k.1.cls idx ci i 0 ty) (ha : a < NC) (hk : lk a = ci) (kk : G E d k (pc + 3) L (.int (I a i) :: st) I r) : G E d k pc L (.ref a :: st) I r := by
  intro p e s m args below meth c H locs ls C hP hD hS hl
  exact w_get hd fl ha hk C hP (kk p e s m args below meth c H locs ls C hP hD hS hl)
theorem G.getR {a idx ci i q : Nat} {ty : FieldType} (hd : decode k.2.1 pc = .ok (.getfield idx, 3)) (fl : FL k.1.cls idx ci i 1 ty) (ha : a < NC) (hk : lk a = ci) (hq : fin a i = some q) (kk : G E d k (pc + 3) L (.ref q :: st) I r) : G E d k pc L (.ref a :: st) I r := by
  intro p e s m args below meth c H locs ls C hP hD hS hl
  refine w_get hd fl ha hk C hP ?_
  have e1 : fv E I a i 1 = tv E (.ref q) := by
    unfold fv
    rw [if_neg (by decide), if_pos rfl, hq]
    rfl
  rw [e1]
  exact (kk p e s m args below meth c H locs ls C hP hD hS hl)
theorem G.getM {a idx ci i q : Nat} {ty : FieldType} (hd : decode k.2.1 pc = .ok (.getfield idx, 3)) (fl : FL k.1.cls idx ci i 2 ty) (ha : a < NC) (hk : lk a = ci) (hq : dec (I a i) = some q) (kk : G E d k (pc + 3) L (.ref q :: st) I r) : G E d k pc L (.ref a :: st) I r := by
  intro p e s m args below meth c H locs ls C hP hD hS hl
  refine w_get hd fl ha hk C hP ?_
  have e1 : fv E I a i 2 = tv E (.ref q) := by
    unfold fv
    rw [if_neg (by decide), if_neg (by decide), hq]
    rfl
  rw [e1]
  exact (kk p e s m args below meth c H locs ls C hP hD hS hl)
theorem pic_put (E : EV) (I : Mem) {a i f : Nat} {x : Int32} (h : lk a < 13) (hf : (fk (lk a))[i]? = some f) (h1 : f ≠ 1) : (Sum.inr (lk a, (fds E I a).set i (fv E (up2 I a i x) a i f)) : va_E) = pic E (up2 I a i x) a := by
  rw [pic_r E _ h, fds_set E I hf h1]
theorem w_put {a idx ci i f : Nat} {ty : FieldType} {x : Int32} {v : Value} (hd : decode k.2.1 pc = .ok (.putfield idx, 3)) (fl : FL k.1.cls idx ci i f ty) (h1 : f ≠ 1) (ha : a < NC) (hk : lk a = ci) (hv : fv E (up2 I a i x) a i f = v) (hn : narrow ty v = v) (hfit : fits ty v = true) {p : Program} {e : Env} {s : State} {m : MethodId} {args : Array Value} {below : List Frame} {meth : Method} {c : Code} {H : Heap} {locs : List Loc} {ls : Array Slot} {rest : List Value} {Q : State → Prop} (C : Cx E k p s m meth c) (hP : va_P (eD E) vwCl (wl E I) H) (hD : va_D (eA E) (wl E I)) (hS : va_S (eA E) s.heap H locs)
    (kk : ∀ (H1 : Heap) (locs1 : List Loc), va_P (eD E) vwCl (wl E (up2 I a i x)) H1 → va_D (eA E) (wl E (up2 I a i x)) → va_S (eA E) s.heap H1 locs1 → W p E.1 e (rmd d) s m args below meth c H1 locs1 0 0 Q (F0 m (pc + 3) ls rest)) : W p E.1 e (rmd d) s m args below meth c H locs 0 0 Q (F0 m pc ls (v :: .ref (eAd E a) :: rest)) := by
  obtain ⟨C9, T, N, ty0, g1, g2, g3, g4, g5, g6, g7, g8, g9, g10⟩ := fl
  subst hk
  refine va_put (D := eD E) (ci := lk a) (C := C9) (T := T) (N := N) (ty := ty) C.1 C.2.1 (C.2.2.2.2.2.2.hts args) g2 ty0 g6 g7 C.2.2.2.2.1 C.2.2.2.2.2.2.2.2.2.1 hP hD hS a (by rw [wl_get E I ha, pic_r E I g10]) g1 i g5 (C.2.2.2.2.2.2.hts args _ g3) (fun _ h => h) (by rw [g9]; exact beq_eq_false_iff_ne.mpr h1) g8 hn hfit (by rw [fds_len]; exact (List.getElem?_eq_some_iff.mp g4).1) hd (fun H1 locs1 hP1 hD1 hS1 => ?_)
  rw [← hv, pic_put E I g10 g4 h1, wl_set E I (up2 I a i x) ha (fun b hb => pic_upA_ne E I a _ b hb)] at hP1 hD1
  exact kk H1 locs1 hP1 hD1 hS1
theorem G.putI {a idx ci i : Nat} {x : Int32} (hd : decode k.2.1 pc = .ok (.putfield idx, 3)) (fl : FL k.1.cls idx ci i 0 .int) (ha : a < NC) (hk : lk a = ci) (kk : G E d k (pc + 3) L st (up2 I a i x) r) : G E d k pc L (.int x :: .ref a :: st) I r := by
  intro p e s m args below meth c H locs ls C hP hD hS hl
  refine w_put (x := x) (v := .int x) hd fl (by decide) ha hk ?_ rfl rfl C hP hD hS (fun H1 locs1 hP1 hD1 hS1 => kk p e s m args below meth c H1 locs1 ls C hP1 hD1 hS1 hl)
  unfold fv
  rw [if_pos rfl, up2_self]
theorem G.putM {a idx ci i q : Nat} {cn : String} (hd : decode k.2.1 pc = .ok (.putfield idx, 3)) (fl : FL k.1.cls idx ci i 2 (.object cn)) (ha : a < NC) (hk : lk a = ci) (hq : q < NC) (kk : G E d k (pc + 3) L st (up2 I a i (enc q)) r) : G E d k pc L (.ref q :: .ref a :: st) I r := by
  intro p e s m args below meth c H locs ls C hP hD hS hl
  refine w_put (x := enc q) (v := .ref (eAd E q)) hd fl (by decide) ha hk ?_ rfl rfl C hP hD hS (fun H1 locs1 hP1 hD1 hS1 => kk p e s m args below meth c H1 locs1 ls C hP1 hD1 hS1 hl)
  unfold fv
  rw [if_neg (by decide), if_neg (by decide), up2_self, dec_enc (by have : NC = 85 := rfl; omega)]
  rfl
theorem G.iald {a : Nat} {i : Int32} (hd : decode k.2.1 pc = .ok (.iaload, 1)) (ha : a < NC) (hk : lk a = 13) (hin : inb i (ln a) = true) (kk : G E d k (pc + 1) L (.int (I a (ix i)) :: st) I r) : G E d k pc L (.int i :: .ref a :: st) I r := by
  intro p e s m args below meth c H locs ls C hP hD hS hl
  exact va_iald C.1 C.2.1 C.2.2.2.2.2.2.2.2.2.1 hP a 0 (by rw [wl_get E I ha, pic_i E I hk]) rfl (inb_in hin) hd (kk p e s m args below meth c H locs ls C hP hD hS hl)
theorem G.zald {a : Nat} {i : Int32} (hd : decode k.2.1 pc = .ok (.baload, 1)) (ha : a < NC) (hk : lk a = 14) (hin : inb i (ln a) = true) (kk : G E d k (pc + 1) L (.int (I a (ix i)) :: st) I r) : G E d k pc L (.int i :: .ref a :: st) I r := by
  intro p e s m args below meth c H locs ls C hP hD hS hl
  exact va_zald C.1 C.2.1 C.2.2.2.2.2.2.2.2.2.1 hP a 1 (by rw [wl_get E I ha, pic_z E I hk]) rfl (inb_in hin) hd (kk p e s m args below meth c H locs ls C hP hD hS hl)
theorem wl_upi (E : EV) (I : Mem) {a : Nat} (ha : a < NC) (hk : lk a = 13) (f : Nat → Int32) : (wl E I).set a (eAd E a, .inl (eC E 0, ln a, .inl f)) = wl E (upA I a f) := by
  rw [← wl_set E I (upA I a f) ha (fun b hb => pic_upA_ne E I a f b hb), pic_i E _ hk, upA_self]
theorem wl_upz (E : EV) (I : Mem) {a : Nat} (ha : a < NC) (hk : lk a = 14) (f : Nat → Int32) : (wl E I).set a (eAd E a, .inl (eC E 1, ln a, .inl f)) = wl E (upA I a f) := by
  rw [← wl_set E I (upA I a f) ha (fun b hb => pic_upA_ne E I a f b hb), pic_z E _ hk, upA_self]
theorem G.iast {a : Nat} {i x : Int32} (hd : decode k.2.1 pc = .ok (.iastore, 1)) (ha : a < NC) (hk : lk a = 13) (hin : inb i (ln a) = true) (kk : G E d k (pc + 1) L st (up2 I a (ix i) x) r) : G E d k pc L (.int x :: .int i :: .ref a :: st) I r := by
  intro p e s m args below meth c H locs ls C hP hD hS hl
  refine va_iast C.1 C.2.1 C.2.2.2.2.2.2.2.2.2.1 hP hD hS a 0 (by rw [wl_get E I ha, pic_i E I hk]) rfl (inb_in hin) hd (fun H1 locs1 hP1 hD1 hS1 => ?_)
  rw [wl_upi E I ha hk] at hP1 hD1
  exact kk p e s m args below meth c H1 locs1 ls C hP1 hD1 hS1 hl
theorem G.zast {a : Nat} {i x v : Int32} (hd : decode k.2.1 pc = .ok (.bastore, 1)) (ha : a < NC) (hk : lk a = 14) (hin : inb i (ln a) = true) (hv : vp_nar .boolean x = v) (kk : G E d k (pc + 1) L st (up2 I a (ix i) v) r) : G E d k pc L (.int x :: .int i :: .ref a :: st) I r := by
  intro p e s m args below meth c H locs ls C hP hD hS hl
  refine va_zast C.1 C.2.1 C.2.2.2.2.2.2.2.2.2.1 hP hD hS a 1 (by rw [wl_get E I ha, pic_z E I hk]) rfl (inb_in hin) hd (fun H1 locs1 hP1 hD1 hS1 => ?_)
  rw [hv, wl_upz E I ha hk] at hP1 hD1
  exact kk p e s m args below meth c H1 locs1 ls C hP1 hD1 hS1 hl
theorem G.alen {a : Nat} {v : Int32} (hd : decode k.2.1 pc = .ok (.arraylength, 1)) (ha : a < NC) (hk : lk a = 13) (hv : nI (ln a) = v) (kk : G E d k (pc + 1) L (.int v :: st) I r) : G E d k pc L (.ref a :: st) I r := by
  intro p e s m args below meth c H locs ls C hP hD hS hl
  exact va_alen (x := (ln a, .inl (I a))) C.1 C.2.1 C.2.2.2.2.2.2.2.2.2.1 hP a 0 (by rw [wl_get E I ha, pic_i E I hk]) rfl hv hd (kk p e s m args below meth c H locs ls C hP hD hS hl)
theorem G.aaldH {a q : Nat} {i : Int32} (hd : decode k.2.1 pc = .ok (.aaload, 1)) (ha : a < NC) (hk : lk a = 15) (hin : inb i (ln a) = true) (hq : fin a (ix i) = some q) (kk : G E d k (pc + 1) L (.ref q :: st) I r) : G E d k pc L (.int i :: .ref a :: st) I r := by
  intro p e s m args below meth c H locs ls C hP hD hS hl
  refine va_aldq C.1 C.2.1 C.2.2.2.2.2.2.2.2.2.1 hP a 2 (by rw [wl_get E I ha, pic_h E I hk]) rfl (inb_in hin) hd ?_
  rw [hq]
  exact (kk p e s m args below meth c H locs ls C hP hD hS hl)
theorem G.aaldO {a q : Nat} {i : Int32} (hd : decode k.2.1 pc = .ok (.aaload, 1)) (ha : a < NC) (hk : lk a = 16) (hin : inb i (ln a) = true) (hq : fin a (ix i) = some q) (kk : G E d k (pc + 1) L (.ref q :: st) I r) : G E d k pc L (.int i :: .ref a :: st) I r := by
  intro p e s m args below meth c H locs ls C hP hD hS hl
  refine va_aldq C.1 C.2.1 C.2.2.2.2.2.2.2.2.2.1 hP a 3 (by rw [wl_get E I ha, pic_o E I hk]) rfl (inb_in hin) hd ?_
  rw [hq]
  exact (kk p e s m args below meth c H locs ls C hP hD hS hl)
theorem G.aaldA {a q : Nat} {i : Int32} (hd : decode k.2.1 pc = .ok (.aaload, 1)) (ha : a < NC) (hk : lk a = 17) (hin : inb i (ln a) = true) (hq : fin a (ix i) = some q) (kk : G E d k (pc + 1) L (.ref q :: st) I r) : G E d k pc L (.int i :: .ref a :: st) I r := by
  intro p e s m args below meth c H locs ls C hP hD hS hl
  have hin2 := inb_in hin
  have hlt : i.toNatClampNeg < ln a := Nat.not_le.mp fun q => hin2 (Or.inr q)
  have hcell := hP a _ (by rw [wl_get E I ha, pic_a E I hk])
  refine W.aald (v := va_rf ((fin a (ix i)).map (eAd E))) (ty := .array .int) C.1 C.2.1 hcell ((C.2.2.2.2.2.2.2.2.2.1.2 4 _ rfl).1 (ln a) (fun j => va_rf ((fin a j).map (eAd E)))) rfl (fun q => by cases q) (by show ¬ (i < 0 ∨ (arrV _ _ _).slots.size ≤ _); rw [arrV_size]; exact hin2) (by show (arrV _ _ _).slots[_]? = _; rw [arrV_read _ _ hlt]) rfl rfl hd ?_
  rw [hq]
  exact (kk p e s m args below meth c H locs ls C hP hD hS hl)
theorem Qr_end {E : EV} {s t : State} {args : Array Value} {H : Heap} {locs : List Loc} {I : Mem} {v : Option Value} (ht : t.heap = H) (hP : va_P (eD E) vwCl (wl E I) H) (hD : va_D (eA E) (wl E I)) (hS : va_S (eA E) s.heap H locs) : Qr E (v, I) args s (.returned (v.map (tv E))) t := ⟨⟨rfl, by rw [ht]; exact hP, hD⟩, hS.F ht⟩
theorem G.iret {v : Int32} (hd : decode k.2.1 pc = .ok (.ireturn, 1)) (hr : k.2.2.2 = some .int) : G E d k pc L [.int v] I (some (.int v), I) := by
  intro p e s m args below meth c H locs ls C hP hD hS hl
  exact W.iret (v := v) C.1 C.2.1 (C.2.2.1.trans hr) (fun t ht _ => Qr_end (v := some (.int v)) ht hP hD hS) hS.2.2 hd C.2.2.2.2.2.1
/-- 0 or 1 -/
def zb (v : Int32) : Bool := decide (v = 0) || decide (v = 1)
theorem G.zret {v : Int32} (hd : decode k.2.1 pc = .ok (.ireturn, 1)) (hr : k.2.2.2 = some .boolean) (hz : zb v = true) : G E d k pc L [.int v] I (some (.int v), I) := by
  intro p e s m args below meth c H locs ls C hP hD hS hl
  have hn : narrow .boolean (.int v) = .int v := by
    rcases (show v = 0 ∨ v = 1 by simpa [zb] using hz) with rfl | rfl <;> rfl
  exact W.zret (v := v) C.1 C.2.1 (C.2.2.1.trans hr) hn (fun t ht _ => Qr_end (v := some (.int v)) ht hP hD hS) hS.2.2 hd C.2.2.2.2.2.1
theorem G.nret {v : Int32} {ty : FieldType} (hd : decode k.2.1 pc = .ok (.ireturn, 1)) (hr : k.2.2.2 = some ty) (hn : narrow ty (.int v) = .int v) : G E d k pc L [.int v] I (some (.int v), I) := by
  intro p e s m args below meth c H locs ls C hP hD hS hl
  exact W.zret (v := v) C.1 C.2.1 (C.2.2.1.trans hr) hn (fun t ht _ => Qr_end (v := some (.int v)) ht hP hD hS) hS.2.2 hd C.2.2.2.2.2.1
theorem G.lret {v : Int64} (hd : decode k.2.1 pc = .ok (.lreturn, 1)) (hr : k.2.2.2 = some .long) : G E d k pc L [.long v] I (some (.long v), I) := by
  intro p e s m args below meth c H locs ls C hP hD hS hl
  exact W.lret (v := v) C.1 C.2.1 (C.2.2.1.trans hr) (fun t ht _ => Qr_end (v := some (.long v)) ht hP hD hS) hS.2.2 hd C.2.2.2.2.2.1
theorem G.vret (hd : decode k.2.1 pc = .ok (.return_, 1)) (hr : k.2.2.2 = none) : G E d k pc L [] I (none, I) := by
  intro p e s m args below meth c H locs ls C hP hD hS hl
  exact W.vret C.1 C.2.1 (C.2.2.1.trans hr) (fun t ht _ => Qr_end (v := none) ht hP hD hS) hS.2.2 hd C.2.2.2.2.2.1
end GR
end
section
section GC
variable {E : EV} {d : Nat} {k : MD} {pc : Nat} {L L' : List (Option Value)} {st : List Value} {I J : Mem} {r : Option Value × Mem} {v : Option Value} {k2 : MD} {av rest : List Value} {idx n b : Nat}
theorem w_back {p : Program} {l : Launch} {e : Env} {R : Room} {s : State} {m : MethodId} {args : Array Value} {below : List Frame} {meth : Method} {c : Code} {H : Heap} {locs : List Loc} {ls : Array Slot} {Q : State → Prop} {pc : Nat} {st0 rest : List Value} {a : Array Value} {v : Option Value} {J : Mem} (hr : va_Run p l e R s m args below meth c H locs 0 0 0 0 (F0 m pc ls st0) rest (Qr E (v, J) a) (eA E)) (hS : va_S (eA E) s.heap H locs)
    (kk : ∀ (H1 : Heap) (locs1 : List Loc), va_P (eD E) vwCl (wl E J) H1 → va_D (eA E) (wl E J) → va_S (eA E) s.heap H1 locs1 → W p l e R s m args below meth c H1 locs1 0 0 Q (F0 m (pc + 3) ls ((v.map (tv E)).toList ++ rest))) : W p l e R s m args below meth c H locs 0 0 Q (F0 m pc ls st0) := by
  intro T hT X
  obtain ⟨v1, st₀, t, T', L, h0, X', hL, e1, e2, ⟨⟨hv, hP1, hD1⟩, hz, hk⟩, st⟩ := hr T hT X
  cases hv
  rw [h0] at hz hk
  obtain ⟨t2, a1, b1⟩ := kk T'.heap (locs ++ L) (by rw [e1]; exact hP1) hD1 ⟨Nat.le_trans hS.1 (by rw [e1]; exact hz), fun q h1 h2 => by rw [e1, hk q (Nat.lt_of_lt_of_le h1 hS.1) h2]; exact hS.2.1 q h1 h2, fun q hq => by
      rcases List.mem_append.mp hq with h | h
      · exact hS.2.2 q h
      · exact hL q h⟩ T' rfl X'
  exact ⟨t2, st t2 a1, b1⟩
theorem Gm_blind (E : EV) (av : List Value) (I : Mem) : FrameBlind (va_Pc (av.map (tv E)) (fun U => CF E U ∧ va_P (eD E) vwCl (wl E I) U.heap ∧ va_D (eA E) (wl E I))) := fun a U g mk h => ⟨h.1, h.2.1.blind g mk a, h.2.2.1, h.2.2.2⟩
theorem Gm_pre {E : EV} {s : State} {H : Heap} {locs : List Loc} {I : Mem} (hC : CF E s) (hP : va_P (eD E) vwCl (wl E I) H) (hD : va_D (eA E) (wl E I)) (hS : va_S (eA E) s.heap H locs) (av : List Value) : ∀ U : State, U.heap = H → s.WarmedH U.vm → va_Pc (av.map (tv E)) (fun U => CF E U ∧ va_P (eD E) vwCl (wl E I) U.heap ∧ va_D (eA E) (wl E I)) (av.map (tv E)).toArray U := fun U hU hW => ⟨rfl, hC.call hS hU hW, by rw [hU]; exact hP, hD⟩
/-- a callee: it is no handle, its parameters, its locals -/
def MK (k2 : MD) (n : Nat) : Prop := Cond.code k2.1 k2.2.1 k2.2.2.1 k2.2.2.2 ∈ lw_g ∧ Cond.initialized k2.1.cls ∈ lw_g ∧ k2.1.cls ≠ "java/lang/invoke/MethodHandle" ∧ k2.1.cls ≠ "java/lang/invoke/VarHandle" ∧ (parseMethodDescriptor k2.1.desc).map (fun d => d.parameters.length) = some n ∧ k2.2.2.1 ≤ 41
def MS (own : String) (idx : Nat) (k2 : MD) (n : Nat) : Prop := MK k2 n ∧ Cond.methodLink own idx k2.1 ∈ lw_g ∧ Cond.static k2.1 ∈ lw_g
def MN (own : String) (idx : Nat) (k2 : MD) (n : Nat) : Prop := MK k2 n ∧ (∃ host, Cond.methodLinkNest own idx k2.1 host ∈ lw_n) ∧ Cond.static k2.1 ∈ lw_g
def MV (own : String) (idx ci : Nat) (k2 : MD) (n : Nat) : Prop := MK k2 n ∧ Cond.methodLink own idx k2.1 ∈ lw_g ∧ Cond.instanceMethod k2.1 ∈ lw_g ∧ Cond.selects k2.1.cls k2.1 k2.1 ∈ lw_g ∧ (∃ (T : u_T) (N : Nat), vwCl[ci]? = some (k2.1.cls, T, N)) ∧ ci < 13
def MO (own : String) (idx ci : Nat) (k2 : MD) (n : Nat) : Prop := MK k2 n ∧ ∃ (C owner : String) (x : MethodName) (T : u_T) (N : Nat) (b0 : ByteArray) (m0 : Nat) (r0 : Option FieldType), vwCl[ci]? = some (C, T, N) ∧ ci < 13 ∧ Cond.methodLink own idx x ∈ lw_g ∧ Cond.sameMethod x.cls owner x.name x.desc ∈ lw_g ∧ Cond.instanceMethod ⟨owner, x.name, x.desc⟩ ∈ lw_g ∧ Cond.selects C x k2.1 ∈ lw_g ∧ Cond.instanceMethod k2.1 ∈ lw_g ∧ Cond.code ⟨owner, x.name, x.desc⟩ b0 m0 r0 ∈ lw_g ∧ owner ≠ "java/lang/invoke/MethodHandle" ∧ owner ≠ "java/lang/invoke/VarHandle" ∧ (parseMethodDescriptor x.desc).map (fun d => d.parameters.length) = some n
def MP (own : String) (idx ci : Nat) (k2 : MD) (n : Nat) : Prop := MK k2 n ∧ Cond.methodLink own idx k2.1 ∈ lw_g ∧ Cond.sameMethod k2.1.cls k2.1.cls k2.1.name k2.1.desc ∈ lw_g ∧ Cond.superclass own k2.1.cls ∈ lw_g ∧ Cond.instanceMethod k2.1 ∈ lw_g ∧ k2.1.name ≠ "<init>" ∧ (∃ (C : String) (T : u_T) (N : Nat), vwCl[ci]? = some (C, T, N)) ∧ ci < 13
theorem mk_words {s : State} {args : Array Value} (hC : CF E s) (h : MK k2 n) : ∀ w ∈ [Cond.code k2.1 k2.2.1 k2.2.2.1 k2.2.2.2], ∀ (a' : Array Value) (U : State), s.WarmedH U.vm → w.before a' U = true := fun w hw a' U hW => by
  rw [List.mem_singleton] at hw
  rw [hw]
  exact word_at hW (good_word h.1) (hC.1 _ h.1)
theorem mk_len (h : MK k2 n) : ∀ sig, parseMethodDescriptor k2.1.desc = some sig → n = sig.parameters.length := fun sig hs => by
  have h2 := h.2.2.2.2.1
  rw [hs] at h2
  exact (Option.some.inj h2).symm
theorem mk_room (h : MK k2 n) : (rmd d).frames + 1 ≤ (rmd (d + 1)).frames ∧ 8 + (k2.2.2.1 + 11) + (rmd d).locals ≤ (rmd (d + 1)).locals := ⟨Nat.le_refl _, by have := h.2.2.2.2.2; show 8 + (k2.2.2.1 + 11) + 60 * d ≤ 60 * (d + 1); omega⟩
theorem st_rev (E : EV) (av rest : List Value) : (av.reverse ++ rest).map (tv E) = (av.map (tv E)).reverse ++ rest.map (tv E) := by rw [List.map_append, List.map_reverse]
theorem st_cat (E : EV) (rest : List Value) : ((rest.map (tv E)).map fun v => v.category).sum = (rest.map fun v => v.category).sum := by
  rw [List.map_map]
  congr 1
  apply List.map_congr_left
  intro v _
  exact tv_cat E v
theorem st_back (E : EV) (v : Option Value) (rest : List Value) : (v.map (tv E)).toList ++ rest.map (tv E) = (v.toList ++ rest).map (tv E) := by cases v <;> rfl
theorem G.callS (hd : decode k.2.1 pc = .ok (.invokestatic idx, 3)) (ms : MS k.1.cls idx k2 n) (hg : Gm E d k2 av I (v, J)) (hst : st = av.reverse ++ rest) (hn : av.length = n) (hW : (rest.map fun v => v.category).sum ≤ 8) (kk : G E (d + 1) k (pc + 3) L (v.toList ++ rest) J r) : G E (d + 1) k pc L st I r := by
  intro p e s m args below meth c H locs ls C hP hD hS hl
  obtain ⟨mk, m1, m2⟩ := ms
  have hts := C.2.2.2.2.2.2.hts args
  have hrun := va_runS (g := F0 m pc ls (st.map (tv E))) (nL := k.2.2.1) (As := av.map (tv E)) (rest := rest.map (tv E)) (n := n) (cells := 0) (slots := 0) (below := below) (e := e) (R := rmd (d + 1)) (locs := locs) (H := H) (bytes := k2.2.1) (maxL := k2.2.2.1) (ret := k2.2.2.2) (meth := meth) ⟨C.1, C.2.1, C.2.2.2.1, C.2.2.2.2.1, hts⟩ hg ⟨⟨rfl, rfl, (mk_room mk).1, (mk_room mk).2, mk_words (args := args) C.2.2.2.2.2.2 mk, List.mem_singleton_self _, hts _ mk.1, hts _ mk.2.1, ⟨mk.2.2.1, mk.2.2.2.1⟩, mk_len mk, hts _ m1⟩, hts _ m2⟩ ⟨Gm_blind E av I, Gm_pre C.2.2.2.2.2.2 hP hD hS av⟩ rfl (by rw [List.length_map]; exact hn) hl.1 (by rw [hst]; exact st_rev E av rest) (lv_room (by rw [st_cat]; exact hW)) hd ⟨Nat.le_refl _, Nat.le_refl _⟩
  refine w_back hrun hS (fun H1 locs1 hP1 hD1 hS1 => ?_)
  rw [st_back]
  exact kk p e s m args below meth c H1 locs1 ls C hP1 hD1 hS1 hl
theorem G.callN (hd : decode k.2.1 pc = .ok (.invokestatic idx, 3)) (ms : MN k.1.cls idx k2 n) (hg : Gm E d k2 av I (v, J)) (hst : st = av.reverse ++ rest) (hn : av.length = n) (hW : (rest.map fun v => v.category).sum ≤ 8) (kk : G E (d + 1) k (pc + 3) L (v.toList ++ rest) J r) : G E (d + 1) k pc L st I r := by
  intro p e s m args below meth c H locs ls C hP hD hS hl
  obtain ⟨mk, ⟨host, m1⟩, m2⟩ := ms
  have hts := C.2.2.2.2.2.2.hts args
  have hrun := va_runSN (g := F0 m pc ls (st.map (tv E))) (nL := k.2.2.1) (As := av.map (tv E)) (rest := rest.map (tv E)) (n := n) (cells := 0) (slots := 0) (below := below) (e := e) (R := rmd (d + 1)) (locs := locs) (H := H) (bytes := k2.2.1) (maxL := k2.2.2.1) (ret := k2.2.2.2) (meth := meth) (host := host) ⟨C.1, C.2.1, C.2.2.2.1, C.2.2.2.2.1, hts⟩ hg ⟨⟨⟨rfl, rfl, (mk_room mk).1, (mk_room mk).2, mk_words (args := args) C.2.2.2.2.2.2 mk, List.mem_singleton_self _⟩, hts _ mk.1, hts _ mk.2.1, ⟨mk.2.2.1, mk.2.2.2.1⟩, mk_len mk, va_Nw.use rfl (C.2.2.2.2.2.2.2.1 _ m1)⟩, hts _ m2, trivial⟩ ⟨Gm_blind E av I, Gm_pre C.2.2.2.2.2.2 hP hD hS av⟩ rfl (by rw [List.length_map]; exact hn) hl.1 (by rw [hst]; exact st_rev E av rest) (lv_room (by rw [st_cat]; exact hW)) hd ⟨Nat.le_refl _, Nat.le_refl _⟩
  refine w_back hrun hS (fun H1 locs1 hP1 hD1 hS1 => ?_)
  rw [st_back]
  exact kk p e s m args below meth c H1 locs1 ls C hP1 hD1 hS1 hl
theorem st_revV (E : EV) (b : Nat) (av rest : List Value) : (av.reverse ++ .ref b :: rest).map (tv E) = (av.map (tv E)).reverse ++ .ref (eAd E b) :: rest.map (tv E) := by rw [List.map_append, List.map_reverse]; rfl
theorem G.callV {ci : Nat} (hd : decode k.2.1 pc = .ok (.invokevirtual idx, 3)) (ms : MV k.1.cls idx ci k2 n) (hg : Gm E d k2 (.ref b :: av) I (v, J)) (hb : b < NC) (hk : lk b = ci) (hst : st = av.reverse ++ .ref b :: rest) (hn : av.length = n) (hW : (rest.map fun v => v.category).sum ≤ 8) (kk : G E (d + 1) k (pc + 3) L (v.toList ++ rest) J r) : G E (d + 1) k pc L st I r := by
  intro p e s m args below meth c H locs ls C hP hD hS hl
  obtain ⟨mk, m1, m2, m3, ⟨T, N, m4⟩, m5⟩ := ms
  subst hk
  have hts := C.2.2.2.2.2.2.hts args
  have hrun := va_runV (g := F0 m pc ls (st.map (tv E))) (nL := k.2.2.1) (b := eAd E b) (As := av.map (tv E)) (rest := rest.map (tv E)) (n := n) (cells := 0) (slots := 0) (below := below) (e := e) (R := rmd (d + 1)) (locs := locs) (H := H) (C := k2.1.cls) (bytes := k2.2.1) (maxL := k2.2.2.1) (ret := k2.2.2.2) (meth := meth) ⟨C.1, C.2.1, C.2.2.2.1, C.2.2.2.2.1, hts⟩ hg ⟨⟨rfl, rfl, (mk_room mk).1, (mk_room mk).2, mk_words (args := args) C.2.2.2.2.2.2 mk, List.mem_singleton_self _, hts _ mk.1, hts _ mk.2.1, ⟨mk.2.2.1, mk.2.2.2.1⟩, mk_len mk, hts _ m1⟩, hts _ m2, hts _ m3⟩ ⟨Gm_blind E _ I, va_recv C.2.2.2.2.2.2.2.2.2.1 hP m4 (by rw [wl_get E I hb, pic_r E I m5]), Gm_pre C.2.2.2.2.2.2 hP hD hS (.ref b :: av)⟩ rfl (by rw [List.length_map]; exact hn) hl.1 (by rw [hst]; exact st_revV E b av rest) (lv_room (by rw [st_cat]; exact hW)) hd ⟨Nat.le_refl _, Nat.le_refl _⟩
  refine w_back hrun hS (fun H1 locs1 hP1 hD1 hS1 => ?_)
  rw [st_back]
  exact kk p e s m args below meth c H1 locs1 ls C hP1 hD1 hS1 hl
theorem G.callO {ci : Nat} (hd : decode k.2.1 pc = .ok (.invokevirtual idx, 3)) (ms : MO k.1.cls idx ci k2 n) (hg : Gm E d k2 (.ref b :: av) I (v, J)) (hb : b < NC) (hk : lk b = ci) (hst : st = av.reverse ++ .ref b :: rest) (hn : av.length = n) (hW : (rest.map fun v => v.category).sum ≤ 8) (kk : G E (d + 1) k (pc + 3) L (v.toList ++ rest) J r) : G E (d + 1) k pc L st I r := by
  intro p e s m args below meth c H locs ls C hP hD hS hl
  obtain ⟨mk, C9, owner, x, T, N, b0, m0, r0, m4, m5, m1, m2, m3, m6, m7, m8, m9, m10, m11⟩ := ms
  subst hk
  have hts := C.2.2.2.2.2.2.hts args
  have hlen : ∀ sig, parseMethodDescriptor x.desc = some sig → n = sig.parameters.length := fun sig hs => by
    rw [hs] at m11
    exact (Option.some.inj m11).symm
  have hrun := va_runU (g := F0 m pc ls (st.map (tv E))) (nL := k.2.2.1) (b := eAd E b) (As := av.map (tv E)) (rest := rest.map (tv E)) (n := n) (cells := 0) (slots := 0) (below := below) (e := e) (R := rmd (d + 1)) (locs := locs) (H := H) (C := C9) (owner := owner) (x := x) (bytes := k2.2.1) (maxL := k2.2.2.1) (ret := k2.2.2.2) (meth := meth) ⟨C.1, C.2.1, C.2.2.2.1, C.2.2.2.2.1, hts⟩ hg ⟨⟨rfl, rfl, (mk_room mk).1, (mk_room mk).2, mk_words (args := args) C.2.2.2.2.2.2 mk, List.mem_singleton_self _⟩, hts _ mk.1, hts _ mk.2.1, ⟨m9, m10⟩, hlen, hts _ m1, hts _ m2, va_Decl.of (hts _ m3) (hts _ m8), hts _ m6, hts _ m7⟩ ⟨Gm_blind E _ I, va_recv C.2.2.2.2.2.2.2.2.2.1 hP m4 (by rw [wl_get E I hb, pic_r E I m5]), Gm_pre C.2.2.2.2.2.2 hP hD hS (.ref b :: av)⟩ rfl (by rw [List.length_map]; exact hn) hl.1 (by rw [hst]; exact st_revV E b av rest) (lv_room (by rw [st_cat]; exact hW)) hd ⟨Nat.le_refl _, Nat.le_refl _⟩
  refine w_back hrun hS (fun H1 locs1 hP1 hD1 hS1 => ?_)
  rw [st_back]
  exact kk p e s m args below meth c H1 locs1 ls C hP1 hD1 hS1 hl
theorem G.callP {ci : Nat} (hd : decode k.2.1 pc = .ok (.invokespecial idx, 3)) (ms : MP k.1.cls idx ci k2 n) (hg : Gm E d k2 (.ref b :: av) I (v, J)) (hb : b < NC) (hk : lk b = ci) (hst : st = av.reverse ++ .ref b :: rest) (hn : av.length = n) (hW : (rest.map fun v => v.category).sum ≤ 8) (kk : G E (d + 1) k (pc + 3) L (v.toList ++ rest) J r) : G E (d + 1) k pc L st I r := by
  intro p e s m args below meth c H locs ls C hP hD hS hl
  obtain ⟨mk, m1, m2, m3, m4, m5, ⟨C9, T, N, m6⟩, m7⟩ := ms
  subst hk
  have hts := C.2.2.2.2.2.2.hts args
  have hat : ClassAt s C9 (E.2.1 (lk b)) := by
    have h9 := C.2.2.2.2.2.2.2.2.2.1.1 _ _ m6
    exact h9.2
  have hrun := va_runSU (g := F0 m pc ls (st.map (tv E))) (nL := k.2.2.1) (b := eAd E b) (As := av.map (tv E)) (rest := rest.map (tv E)) (n := n) (cells := 0) (slots := 0) (below := below) (e := e) (R := rmd (d + 1)) (locs := locs) (H := H) (C := C9) (bytes := k2.2.1) (maxL := k2.2.2.1) (ret := k2.2.2.2) (meth := meth) hat ⟨C.1, C.2.1, C.2.2.2.1, C.2.2.2.2.1, hts⟩ hg ⟨⟨rfl, rfl, (mk_room mk).1, (mk_room mk).2, mk_words (args := args) C.2.2.2.2.2.2 mk, List.mem_singleton_self _⟩, hts _ m1, hts _ m2, hts _ m3, hts _ m4, hts _ mk.2.1, hts _ mk.1, m5, mk_len mk⟩ ⟨Gm_blind E _ I, va_recv C.2.2.2.2.2.2.2.2.2.1 hP m6 (by rw [wl_get E I hb, pic_r E I m7]), Gm_pre C.2.2.2.2.2.2 hP hD hS (.ref b :: av)⟩ rfl (by rw [List.length_map]; exact hn) hl.1 (by rw [hst]; exact st_revV E b av rest) (lv_room (by rw [st_cat]; exact hW)) hd ⟨Nat.le_refl _, Nat.le_refl _⟩
  refine w_back hrun hS (fun H1 locs1 hP1 hD1 hS1 => ?_)
  rw [st_back]
  exact kk p e s m args below meth c H1 locs1 ls C hP1 hD1 hS1 hl
/-- System.arraycopy of ints -/
def cpA (f g : Nat → Int32) (sp dp n : Nat) : Nat → Int32 := va_cpy f g sp dp n
/-- the places are within -/
def cpok (sp dp n : Int32) (n0 n1 : Nat) : Bool := !(decide (sp < 0)) && !(decide (dp < 0)) && !(decide (n < 0)) && decide (ix sp + ix n ≤ n0) && decide (ix dp + ix n ≤ n1)
def MA (own : String) (idx : Nat) : Prop := Cond.methodLink own idx arraycopyName ∈ lw_g ∧ Cond.native arraycopyName ∈ lw_g ∧ Cond.static arraycopyName ∈ lw_g ∧ Cond.initialized "java/lang/System" ∈ lw_g
theorem G.acopy {a a0 : Nat} {sp dp n : Int32} (hd : decode k.2.1 pc = .ok (.invokestatic idx, 3)) (ms : MA k.1.cls idx) (ha0 : a0 < NC) (hk0 : lk a0 = 13) (ha : a < NC) (hk : lk a = 13) (hok : cpok sp dp n (ln a0) (ln a) = true) (hW : (rest.map fun v => v.category).sum ≤ 8) (kk : G E (d + 1) k (pc + 3) L rest (upA I a (cpA (I a0) (I a) (ix sp) (ix dp) (ix n))) r) : G E (d + 1) k pc L (.int n :: .int dp :: .ref a :: .int sp :: .ref a0 :: rest) I r := by
  intro p e s m args below meth c H locs ls C hP hD hS hl
  have hts := C.2.2.2.2.2.2.hts args
  simp only [cpok, Bool.and_eq_true, Bool.not_eq_true', decide_eq_false_iff_not, decide_eq_true_eq] at hok
  obtain ⟨⟨⟨⟨o1, o2⟩, o3⟩, o4⟩, o5⟩ := hok
  have hR1 : 1 ≤ (rmd (d + 1)).frames := by show 1 ≤ d + 1; omega
  have hR2 : ((rest.map (tv E)).map fun v => v.category).sum + (nativeFrameWords "java/lang/System" "arraycopy" 5 + 11) ≤ (rmd (d + 1)).locals := by
    rw [st_cat]
    have h9 : nativeFrameWords "java/lang/System" "arraycopy" 5 + 11 ≤ 40 := by decide
    show _ ≤ 60 * (d + 1)
    omega
  refine va_copyi (R := rmd (d + 1)) (sp := sp) (dp := dp) (n := n) (rest := rest.map (tv E)) C.1 C.2.1 (C.2.2.2.1.trans hl.1.symm) C.2.2.2.2.1 (hts _ ms.1) (hts _ ms.2.1) (hts _ ms.2.2.1) (hts _ ms.2.2.2) C.2.2.2.2.2.2.2.2.2.1 hP hD hS a0 a 0 0 (ty := .int) (by rw [wl_get E I ha0, pic_i E I hk0]) (by rw [wl_get E I ha, pic_i E I hk]) rfl rfl rfl o1 o2 o3 o4 o5 (fun _ _ => rfl) hR1 hR2 hd (fun H1 locs1 hP1 hD1 hS1 => ?_)
  rw [wl_upi E I ha hk] at hP1 hD1
  exact kk p e s m args below meth c H1 locs1 ls C hP1 hD1 hS1 hl
end GC
end
section
theorem mt {w : Cond} (j : Nat) (h : tables_1[j]? = some w) (hg : goodWord w = true) : w ∈ lw_g := List.mem_filter.mpr ⟨List.mem_append_right _ (List.mem_of_getElem? h), hg⟩
theorem mps {w : Cond} (j : Nat) (h : (k2_sels lw_privs)[j]? = some w) (hg : goodWord w = true) : w ∈ lw_g := List.mem_filter.mpr ⟨List.mem_append_left _ (List.mem_of_getElem? h), hg⟩
theorem mtn {w : Cond} (j : Nat) (h : tables_1[j]? = some w) (hg : isNest w = true) : w ∈ lw_n := List.mem_filter.mpr ⟨List.mem_append_right _ (List.mem_of_getElem? h), hg⟩
theorem qX0 : ∀ w ∈ u_ws RX0 TX0 0, w ∈ lw_g := by decide +kernel
theorem qX1 : ∀ w ∈ u_ws RX1 TX1 0, w ∈ lw_g := by decide +kernel
theorem qX2 : ∀ w ∈ u_ws RX2 TX2 11, w ∈ lw_g := by decide +kernel
theorem qX3 : ∀ w ∈ u_ws RX3 TX3 0, w ∈ lw_g := by decide +kernel
theorem qX4 : ∀ w ∈ u_ws RX4 TX4 15, w ∈ lw_g := by decide +kernel
theorem qX5 : ∀ w ∈ u_ws RX5 TX5 0, w ∈ lw_g := by decide +kernel
theorem qX6 : ∀ w ∈ u_ws RX6 TX6 7, w ∈ lw_g := by decide +kernel
theorem qX7 : ∀ w ∈ u_ws RX7 TX7 0, w ∈ lw_g := by decide +kernel
theorem qX8 : ∀ w ∈ u_ws RX8 TX8 7, w ∈ lw_g := by decide +kernel
theorem qX9 : ∀ w ∈ u_ws RX9 TX9 6, w ∈ lw_g := by decide +kernel
theorem qX10 : ∀ w ∈ u_ws RX10 TX10 3, w ∈ lw_g := by decide +kernel
theorem qX11 : ∀ w ∈ u_ws RX11 TX11 13, w ∈ lw_g := by decide +kernel
theorem qX12 : ∀ w ∈ u_ws RX12 TX12 18, w ∈ lw_g := by decide +kernel
theorem flX4_9 : FL RX4 9 4 0 0 .int := ⟨RX4, TX4, 15, tyX4, rfl, qX4, (mt 39 (by decide +kernel) rfl), rfl, by decide, tyX4_ok, nmX4, by decide +kernel, rfl, by decide⟩
theorem flX11_85 : FL RX11 85 4 0 0 .int := ⟨RX4, TX4, 15, tyX4, rfl, qX4, (mt 40 (by decide +kernel) rfl), rfl, by decide, tyX4_ok, nmX4, by decide +kernel, rfl, by decide⟩
theorem flX2_87 : FL RX2 87 4 0 0 .int := ⟨RX4, TX4, 15, tyX4, rfl, qX4, (mt 41 (by decide +kernel) rfl), rfl, by decide, tyX4_ok, nmX4, by decide +kernel, rfl, by decide⟩
theorem flX9_57 : FL RX9 57 4 0 0 .int := ⟨RX4, TX4, 15, tyX4, rfl, qX4, (mt 42 (by decide +kernel) rfl), rfl, by decide, tyX4_ok, nmX4, by decide +kernel, rfl, by decide⟩
theorem flX8_51 : FL RX8 51 4 0 0 .int := ⟨RX4, TX4, 15, tyX4, rfl, qX4, (mt 43 (by decide +kernel) rfl), rfl, by decide, tyX4_ok, nmX4, by decide +kernel, rfl, by decide⟩
theorem flX4_43 : FL RX4 43 4 1 0 .int := ⟨RX4, TX4, 15, tyX4, rfl, qX4, (mt 44 (by decide +kernel) rfl), rfl, by decide, tyX4_ok, nmX4, by decide +kernel, rfl, by decide⟩
theorem flX11_105 : FL RX11 105 4 1 0 .int := ⟨RX4, TX4, 15, tyX4, rfl, qX4, (mt 45 (by decide +kernel) rfl), rfl, by decide, tyX4_ok, nmX4, by decide +kernel, rfl, by decide⟩
theorem flX8_57 : FL RX8 57 4 1 0 .int := ⟨RX4, TX4, 15, tyX4, rfl, qX4, (mt 46 (by decide +kernel) rfl), rfl, by decide, tyX4_ok, nmX4, by decide +kernel, rfl, by decide⟩
theorem flX10_15 : FL RX10 15 4 2 0 .int := ⟨RX4, TX4, 15, tyX4, rfl, qX4, (mt 47 (by decide +kernel) rfl), rfl, by decide, tyX4_ok, nmX4, by decide +kernel, rfl, by decide⟩
theorem flX4_46 : FL RX4 46 4 2 0 .int := ⟨RX4, TX4, 15, tyX4, rfl, qX4, (mt 48 (by decide +kernel) rfl), rfl, by decide, tyX4_ok, nmX4, by decide +kernel, rfl, by decide⟩
theorem flX2_74 : FL RX2 74 4 2 0 .int := ⟨RX4, TX4, 15, tyX4, rfl, qX4, (mt 49 (by decide +kernel) rfl), rfl, by decide, tyX4_ok, nmX4, by decide +kernel, rfl, by decide⟩
theorem flX8_63 : FL RX8 63 4 2 0 .int := ⟨RX4, TX4, 15, tyX4, rfl, qX4, (mt 50 (by decide +kernel) rfl), rfl, by decide, tyX4_ok, nmX4, by decide +kernel, rfl, by decide⟩
theorem flX11_111 : FL RX11 111 4 2 0 .int := ⟨RX4, TX4, 15, tyX4, rfl, qX4, (mt 51 (by decide +kernel) rfl), rfl, by decide, tyX4_ok, nmX4, by decide +kernel, rfl, by decide⟩
theorem flX4_49 : FL RX4 49 4 3 0 .int := ⟨RX4, TX4, 15, tyX4, rfl, qX4, (mt 52 (by decide +kernel) rfl), rfl, by decide, tyX4_ok, nmX4, by decide +kernel, rfl, by decide⟩
theorem flX6_54 : FL RX6 54 4 3 0 .int := ⟨RX4, TX4, 15, tyX4, rfl, qX4, (mt 53 (by decide +kernel) rfl), rfl, by decide, tyX4_ok, nmX4, by decide +kernel, rfl, by decide⟩
theorem flX2_64 : FL RX2 64 4 3 0 .int := ⟨RX4, TX4, 15, tyX4, rfl, qX4, (mt 54 (by decide +kernel) rfl), rfl, by decide, tyX4_ok, nmX4, by decide +kernel, rfl, by decide⟩
theorem flX11_151 : FL RX11 151 4 3 0 .int := ⟨RX4, TX4, 15, tyX4, rfl, qX4, (mt 55 (by decide +kernel) rfl), rfl, by decide, tyX4_ok, nmX4, by decide +kernel, rfl, by decide⟩
theorem flX4_52 : FL RX4 52 4 4 0 .int := ⟨RX4, TX4, 15, tyX4, rfl, qX4, (mt 56 (by decide +kernel) rfl), rfl, by decide, tyX4_ok, nmX4, by decide +kernel, rfl, by decide⟩
theorem flX8_75 : FL RX8 75 4 4 0 .int := ⟨RX4, TX4, 15, tyX4, rfl, qX4, (mt 57 (by decide +kernel) rfl), rfl, by decide, tyX4_ok, nmX4, by decide +kernel, rfl, by decide⟩
theorem flX11_120 : FL RX11 120 4 4 0 .int := ⟨RX4, TX4, 15, tyX4, rfl, qX4, (mt 58 (by decide +kernel) rfl), rfl, by decide, tyX4_ok, nmX4, by decide +kernel, rfl, by decide⟩
theorem flX4_55 : FL RX4 55 4 5 0 .int := ⟨RX4, TX4, 15, tyX4, rfl, qX4, (mt 59 (by decide +kernel) rfl), rfl, by decide, tyX4_ok, nmX4, by decide +kernel, rfl, by decide⟩
theorem flX6_81 : FL RX6 81 4 5 0 .int := ⟨RX4, TX4, 15, tyX4, rfl, qX4, (mt 60 (by decide +kernel) rfl), rfl, by decide, tyX4_ok, nmX4, by decide +kernel, rfl, by decide⟩
theorem flX2_117 : FL RX2 117 4 5 0 .int := ⟨RX4, TX4, 15, tyX4, rfl, qX4, (mt 61 (by decide +kernel) rfl), rfl, by decide, tyX4_ok, nmX4, by decide +kernel, rfl, by decide⟩
theorem flX11_229 : FL RX11 229 4 5 0 .int := ⟨RX4, TX4, 15, tyX4, rfl, qX4, (mt 62 (by decide +kernel) rfl), rfl, by decide, tyX4_ok, nmX4, by decide +kernel, rfl, by decide⟩
theorem flX4_58 : FL RX4 58 4 6 0 .int := ⟨RX4, TX4, 15, tyX4, rfl, qX4, (mt 63 (by decide +kernel) rfl), rfl, by decide, tyX4_ok, nmX4, by decide +kernel, rfl, by decide⟩
theorem flX11_177 : FL RX11 177 4 6 0 .int := ⟨RX4, TX4, 15, tyX4, rfl, qX4, (mt 64 (by decide +kernel) rfl), rfl, by decide, tyX4_ok, nmX4, by decide +kernel, rfl, by decide⟩
theorem flX4_61 : FL RX4 61 4 7 0 .int := ⟨RX4, TX4, 15, tyX4, rfl, qX4, (mt 65 (by decide +kernel) rfl), rfl, by decide, tyX4_ok, nmX4, by decide +kernel, rfl, by decide⟩
theorem flX11_164 : FL RX11 164 4 7 0 .int := ⟨RX4, TX4, 15, tyX4, rfl, qX4, (mt 66 (by decide +kernel) rfl), rfl, by decide, tyX4_ok, nmX4, by decide +kernel, rfl, by decide⟩
theorem flX4_15 : FL RX4 15 4 8 1 (.array .int) := ⟨RX4, TX4, 15, tyX4, rfl, qX4, (mt 67 (by decide +kernel) rfl), rfl, by decide, tyX4_ok, nmX4, by decide +kernel, rfl, by decide⟩
theorem flX11_97 : FL RX11 97 4 8 1 (.array .int) := ⟨RX4, TX4, 15, tyX4, rfl, qX4, (mt 68 (by decide +kernel) rfl), rfl, by decide, tyX4_ok, nmX4, by decide +kernel, rfl, by decide⟩
theorem flX9_60 : FL RX9 60 4 8 1 (.array .int) := ⟨RX4, TX4, 15, tyX4, rfl, qX4, (mt 69 (by decide +kernel) rfl), rfl, by decide, tyX4_ok, nmX4, by decide +kernel, rfl, by decide⟩
theorem flX8_54 : FL RX8 54 4 8 1 (.array .int) := ⟨RX4, TX4, 15, tyX4, rfl, qX4, (mt 70 (by decide +kernel) rfl), rfl, by decide, tyX4_ok, nmX4, by decide +kernel, rfl, by decide⟩
theorem flX4_19 : FL RX4 19 4 9 1 (.array .int) := ⟨RX4, TX4, 15, tyX4, rfl, qX4, (mt 71 (by decide +kernel) rfl), rfl, by decide, tyX4_ok, nmX4, by decide +kernel, rfl, by decide⟩
theorem flX9_43 : FL RX9 43 4 9 1 (.array .int) := ⟨RX4, TX4, 15, tyX4, rfl, qX4, (mt 72 (by decide +kernel) rfl), rfl, by decide, tyX4_ok, nmX4, by decide +kernel, rfl, by decide⟩
theorem flX8_60 : FL RX8 60 4 9 1 (.array .int) := ⟨RX4, TX4, 15, tyX4, rfl, qX4, (mt 73 (by decide +kernel) rfl), rfl, by decide, tyX4_ok, nmX4, by decide +kernel, rfl, by decide⟩
theorem flX11_108 : FL RX11 108 4 9 1 (.array .int) := ⟨RX4, TX4, 15, tyX4, rfl, qX4, (mt 74 (by decide +kernel) rfl), rfl, by decide, tyX4_ok, nmX4, by decide +kernel, rfl, by decide⟩
theorem flX4_22 : FL RX4 22 4 10 1 (.array .int) := ⟨RX4, TX4, 15, tyX4, rfl, qX4, (mt 75 (by decide +kernel) rfl), rfl, by decide, tyX4_ok, nmX4, by decide +kernel, rfl, by decide⟩
theorem flX11_223 : FL RX11 223 4 10 1 (.array .int) := ⟨RX4, TX4, 15, tyX4, rfl, qX4, (mt 76 (by decide +kernel) rfl), rfl, by decide, tyX4_ok, nmX4, by decide +kernel, rfl, by decide⟩
theorem flX4_25 : FL RX4 25 4 11 1 (.array .int) := ⟨RX4, TX4, 15, tyX4, rfl, qX4, (mt 77 (by decide +kernel) rfl), rfl, by decide, tyX4_ok, nmX4, by decide +kernel, rfl, by decide⟩
theorem flX11_171 : FL RX11 171 4 11 1 (.array .int) := ⟨RX4, TX4, 15, tyX4, rfl, qX4, (mt 78 (by decide +kernel) rfl), rfl, by decide, tyX4_ok, nmX4, by decide +kernel, rfl, by decide⟩
theorem flX4_28 : FL RX4 28 4 12 1 (.array .int) := ⟨RX4, TX4, 15, tyX4, rfl, qX4, (mt 79 (by decide +kernel) rfl), rfl, by decide, tyX4_ok, nmX4, by decide +kernel, rfl, by decide⟩
theorem flX2_77 : FL RX2 77 4 12 1 (.array .int) := ⟨RX4, TX4, 15, tyX4, rfl, qX4, (mt 80 (by decide +kernel) rfl), rfl, by decide, tyX4_ok, nmX4, by decide +kernel, rfl, by decide⟩
theorem flX8_72 : FL RX8 72 4 12 1 (.array .int) := ⟨RX4, TX4, 15, tyX4, rfl, qX4, (mt 81 (by decide +kernel) rfl), rfl, by decide, tyX4_ok, nmX4, by decide +kernel, rfl, by decide⟩
theorem flX11_130 : FL RX11 130 4 12 1 (.array .int) := ⟨RX4, TX4, 15, tyX4, rfl, qX4, (mt 82 (by decide +kernel) rfl), rfl, by decide, tyX4_ok, nmX4, by decide +kernel, rfl, by decide⟩
theorem flX4_31 : FL RX4 31 4 13 1 (.array .int) := ⟨RX4, TX4, 15, tyX4, rfl, qX4, (mt 83 (by decide +kernel) rfl), rfl, by decide, tyX4_ok, nmX4, by decide +kernel, rfl, by decide⟩
theorem flX11_180 : FL RX11 180 4 13 1 (.array .int) := ⟨RX4, TX4, 15, tyX4, rfl, qX4, (mt 84 (by decide +kernel) rfl), rfl, by decide, tyX4_ok, nmX4, by decide +kernel, rfl, by decide⟩
theorem flX4_34 : FL RX4 34 4 14 1 (.array .int) := ⟨RX4, TX4, 15, tyX4, rfl, qX4, (mt 85 (by decide +kernel) rfl), rfl, by decide, tyX4_ok, nmX4, by decide +kernel, rfl, by decide⟩
theorem flX8_15 : FL RX8 15 8 0 0 .int := ⟨RX8, TX8, 7, tyX8, rfl, qX8, (mt 125 (by decide +kernel) rfl), rfl, by decide, tyX8_ok, nmX8, by decide +kernel, rfl, by decide⟩
theorem flX11_133 : FL RX11 133 8 0 0 .int := ⟨RX8, TX8, 7, tyX8, rfl, qX8, (mt 126 (by decide +kernel) rfl), rfl, by decide, tyX8_ok, nmX8, by decide +kernel, rfl, by decide⟩
theorem flX8_9 : FL RX8 9 8 1 1 (.array .int) := ⟨RX8, TX8, 7, tyX8, rfl, qX8, (mt 127 (by decide +kernel) rfl), rfl, by decide, tyX8_ok, nmX8, by decide +kernel, rfl, by decide⟩
theorem flX8_28 : FL RX8 28 8 2 0 .int := ⟨RX8, TX8, 7, tyX8, rfl, qX8, (mt 128 (by decide +kernel) rfl), rfl, by decide, tyX8_ok, nmX8, by decide +kernel, rfl, by decide⟩
theorem flX8_31 : FL RX8 31 8 3 0 .int := ⟨RX8, TX8, 7, tyX8, rfl, qX8, (mt 129 (by decide +kernel) rfl), rfl, by decide, tyX8_ok, nmX8, by decide +kernel, rfl, by decide⟩
theorem flX8_19 : FL RX8 19 8 4 0 .int := ⟨RX8, TX8, 7, tyX8, rfl, qX8, (mt 130 (by decide +kernel) rfl), rfl, by decide, tyX8_ok, nmX8, by decide +kernel, rfl, by decide⟩
theorem flX8_78 : FL RX8 78 8 5 0 .int := ⟨RX8, TX8, 7, tyX8, rfl, qX8, (mt 131 (by decide +kernel) rfl), rfl, by decide, tyX8_ok, nmX8, by decide +kernel, rfl, by decide⟩
theorem flX8_22 : FL RX8 22 8 6 0 .int := ⟨RX8, TX8, 7, tyX8, rfl, qX8, (mt 132 (by decide +kernel) rfl), rfl, by decide, tyX8_ok, nmX8, by decide +kernel, rfl, by decide⟩
theorem flX6_78 : FL RX6 78 10 0 0 .int := ⟨RX10, TX10, 3, tyX10, rfl, qX10, (mt 191 (by decide +kernel) rfl), rfl, by decide, tyX10_ok, nmX10, by decide +kernel, rfl, by decide⟩
theorem flX2_102 : FL RX2 102 10 0 0 .int := ⟨RX10, TX10, 3, tyX10, rfl, qX10, (mt 192 (by decide +kernel) rfl), rfl, by decide, tyX10_ok, nmX10, by decide +kernel, rfl, by decide⟩
theorem flX10_49 : FL RX10 49 10 0 0 .int := ⟨RX10, TX10, 3, tyX10, rfl, qX10, (mt 193 (by decide +kernel) rfl), rfl, by decide, tyX10_ok, nmX10, by decide +kernel, rfl, by decide⟩
theorem flX4_96 : FL RX4 96 10 0 0 .int := ⟨RX10, TX10, 3, tyX10, rfl, qX10, (mt 194 (by decide +kernel) rfl), rfl, by decide, tyX10_ok, nmX10, by decide +kernel, rfl, by decide⟩
theorem flX11_200 : FL RX11 200 10 0 0 .int := ⟨RX10, TX10, 3, tyX10, rfl, qX10, (mt 195 (by decide +kernel) rfl), rfl, by decide, tyX10_ok, nmX10, by decide +kernel, rfl, by decide⟩
theorem flX10_21 : FL RX10 21 10 1 0 .int := ⟨RX10, TX10, 3, tyX10, rfl, qX10, (mt 196 (by decide +kernel) rfl), rfl, by decide, tyX10_ok, nmX10, by decide +kernel, rfl, by decide⟩
theorem flX10_9 : FL RX10 9 10 2 1 (.array .int) := ⟨RX10, TX10, 3, tyX10, rfl, qX10, (mt 197 (by decide +kernel) rfl), rfl, by decide, tyX10_ok, nmX10, by decide +kernel, rfl, by decide⟩
theorem flX2_9 : FL RX2 9 2 0 1 (.array .int) := ⟨RX2, TX2, 11, tyX2, rfl, qX2, (mt 215 (by decide +kernel) rfl), rfl, by decide, tyX2_ok, nmX2, by decide +kernel, rfl, by decide⟩
theorem flX11_191 : FL RX11 191 2 0 1 (.array .int) := ⟨RX2, TX2, 11, tyX2, rfl, qX2, (mt 216 (by decide +kernel) rfl), rfl, by decide, tyX2_ok, nmX2, by decide +kernel, rfl, by decide⟩
theorem flX2_39 : FL RX2 39 2 1 2 (.object "AloneRooms$House") := ⟨RX2, TX2, 11, tyX2, rfl, qX2, (mt 217 (by decide +kernel) rfl), rfl, by decide, tyX2_ok, nmX2, by decide +kernel, rfl, by decide⟩
theorem flX2_43 : FL RX2 43 2 2 2 (.object "AloneRooms$Once") := ⟨RX2, TX2, 11, tyX2, rfl, qX2, (mt 218 (by decide +kernel) rfl), rfl, by decide, tyX2_ok, nmX2, by decide +kernel, rfl, by decide⟩
theorem flX2_47 : FL RX2 47 2 3 0 .int := ⟨RX2, TX2, 11, tyX2, rfl, qX2, (mt 219 (by decide +kernel) rfl), rfl, by decide, tyX2_ok, nmX2, by decide +kernel, rfl, by decide⟩
theorem flX2_71 : FL RX2 71 2 4 0 .int := ⟨RX2, TX2, 11, tyX2, rfl, qX2, (mt 220 (by decide +kernel) rfl), rfl, by decide, tyX2_ok, nmX2, by decide +kernel, rfl, by decide⟩
theorem flX2_17 : FL RX2 17 2 5 1 (.array (.array .int)) := ⟨RX2, TX2, 11, tyX2, rfl, qX2, (mt 221 (by decide +kernel) rfl), rfl, by decide, tyX2_ok, nmX2, by decide +kernel, rfl, by decide⟩
theorem flX2_20 : FL RX2 20 2 6 1 (.array (.array .int)) := ⟨RX2, TX2, 11, tyX2, rfl, qX2, (mt 222 (by decide +kernel) rfl), rfl, by decide, tyX2_ok, nmX2, by decide +kernel, rfl, by decide⟩
theorem flX2_23 : FL RX2 23 2 7 1 (.array .int) := ⟨RX2, TX2, 11, tyX2, rfl, qX2, (mt 223 (by decide +kernel) rfl), rfl, by decide, tyX2_ok, nmX2, by decide +kernel, rfl, by decide⟩
theorem flX2_26 : FL RX2 26 2 8 1 (.array .int) := ⟨RX2, TX2, 11, tyX2, rfl, qX2, (mt 224 (by decide +kernel) rfl), rfl, by decide, tyX2_ok, nmX2, by decide +kernel, rfl, by decide⟩
theorem flX2_32 : FL RX2 32 2 9 1 (.object "AloneRooms$Ways") := ⟨RX2, TX2, 11, tyX2, rfl, qX2, (mt 225 (by decide +kernel) rfl), rfl, by decide, tyX2_ok, nmX2, by decide +kernel, rfl, by decide⟩
theorem flX2_36 : FL RX2 36 2 10 1 (.object "AloneRooms$Ways") := ⟨RX2, TX2, 11, tyX2, rfl, qX2, (mt 226 (by decide +kernel) rfl), rfl, by decide, tyX2_ok, nmX2, by decide +kernel, rfl, by decide⟩
theorem flX6_30 : FL RX6 30 6 0 2 (.object "AloneRooms$House") := ⟨RX6, TX6, 7, tyX6, rfl, qX6, (mt 259 (by decide +kernel) rfl), rfl, by decide, tyX6_ok, nmX6, by decide +kernel, rfl, by decide⟩
theorem flX6_34 : FL RX6 34 6 1 2 (.object "AloneRooms$Once") := ⟨RX6, TX6, 7, tyX6, rfl, qX6, (mt 260 (by decide +kernel) rfl), rfl, by decide, tyX6_ok, nmX6, by decide +kernel, rfl, by decide⟩
theorem flX6_11 : FL RX6 11 6 2 1 (.array (.array .int)) := ⟨RX6, TX6, 7, tyX6, rfl, qX6, (mt 261 (by decide +kernel) rfl), rfl, by decide, tyX6_ok, nmX6, by decide +kernel, rfl, by decide⟩
theorem flX6_16 : FL RX6 16 6 3 1 (.array .int) := ⟨RX6, TX6, 7, tyX6, rfl, qX6, (mt 262 (by decide +kernel) rfl), rfl, by decide, tyX6_ok, nmX6, by decide +kernel, rfl, by decide⟩
theorem flX6_50 : FL RX6 50 6 4 0 .int := ⟨RX6, TX6, 7, tyX6, rfl, qX6, (mt 263 (by decide +kernel) rfl), rfl, by decide, tyX6_ok, nmX6, by decide +kernel, rfl, by decide⟩
theorem flX6_20 : FL RX6 20 6 5 1 (.array .int) := ⟨RX6, TX6, 7, tyX6, rfl, qX6, (mt 264 (by decide +kernel) rfl), rfl, by decide, tyX6_ok, nmX6, by decide +kernel, rfl, by decide⟩
theorem flX6_26 : FL RX6 26 6 6 1 (.object "AloneRooms$Ways") := ⟨RX6, TX6, 7, tyX6, rfl, qX6, (mt 265 (by decide +kernel) rfl), rfl, by decide, tyX6_ok, nmX6, by decide +kernel, rfl, by decide⟩
theorem flX9_32 : FL RX9 32 9 0 0 .int := ⟨RX9, TX9, 6, tyX9, rfl, qX9, (mt 287 (by decide +kernel) rfl), rfl, by decide, tyX9_ok, nmX9, by decide +kernel, rfl, by decide⟩
theorem flX11_210 : FL RX11 210 9 0 0 .int := ⟨RX9, TX9, 6, tyX9, rfl, qX9, (mt 288 (by decide +kernel) rfl), rfl, by decide, tyX9_ok, nmX9, by decide +kernel, rfl, by decide⟩
theorem flX9_48 : FL RX9 48 9 1 0 .int := ⟨RX9, TX9, 6, tyX9, rfl, qX9, (mt 289 (by decide +kernel) rfl), rfl, by decide, tyX9_ok, nmX9, by decide +kernel, rfl, by decide⟩
theorem flX11_213 : FL RX11 213 9 1 0 .int := ⟨RX9, TX9, 6, tyX9, rfl, qX9, (mt 290 (by decide +kernel) rfl), rfl, by decide, tyX9_ok, nmX9, by decide +kernel, rfl, by decide⟩
theorem flX9_9 : FL RX9 9 9 2 1 (.array .int) := ⟨RX9, TX9, 6, tyX9, rfl, qX9, (mt 291 (by decide +kernel) rfl), rfl, by decide, tyX9_ok, nmX9, by decide +kernel, rfl, by decide⟩
theorem flX11_216 : FL RX11 216 9 2 1 (.array .int) := ⟨RX9, TX9, 6, tyX9, rfl, qX9, (mt 292 (by decide +kernel) rfl), rfl, by decide, tyX9_ok, nmX9, by decide +kernel, rfl, by decide⟩
theorem flX9_18 : FL RX9 18 9 3 2 (.object "AloneRooms$House") := ⟨RX9, TX9, 6, tyX9, rfl, qX9, (mt 293 (by decide +kernel) rfl), rfl, by decide, tyX9_ok, nmX9, by decide +kernel, rfl, by decide⟩
theorem flX9_28 : FL RX9 28 9 4 0 .int := ⟨RX9, TX9, 6, tyX9, rfl, qX9, (mt 294 (by decide +kernel) rfl), rfl, by decide, tyX9_ok, nmX9, by decide +kernel, rfl, by decide⟩
theorem flX9_15 : FL RX9 15 9 5 1 (.array .int) := ⟨RX9, TX9, 6, tyX9, rfl, qX9, (mt 295 (by decide +kernel) rfl), rfl, by decide, tyX9_ok, nmX9, by decide +kernel, rfl, by decide⟩
theorem flX11_10 : FL RX11 10 11 0 1 (.object "AloneRooms$House") := ⟨RX11, TX11, 13, tyX11, rfl, qX11, (mt 309 (by decide +kernel) rfl), rfl, by decide, tyX11_ok, nmX11, by decide +kernel, rfl, by decide⟩
theorem flX11_16 : FL RX11 16 11 1 1 (.object "AloneRooms$House") := ⟨RX11, TX11, 13, tyX11, rfl, qX11, (mt 310 (by decide +kernel) rfl), rfl, by decide, tyX11_ok, nmX11, by decide +kernel, rfl, by decide⟩
theorem flX11_19 : FL RX11 19 11 2 1 (.array (.object "AloneRooms$House")) := ⟨RX11, TX11, 13, tyX11, rfl, qX11, (mt 311 (by decide +kernel) rfl), rfl, by decide, tyX11_ok, nmX11, by decide +kernel, rfl, by decide⟩
theorem flX11_23 : FL RX11 23 11 3 1 (.array .boolean) := ⟨RX11, TX11, 13, tyX11, rfl, qX11, (mt 312 (by decide +kernel) rfl), rfl, by decide, tyX11_ok, nmX11, by decide +kernel, rfl, by decide⟩
theorem flX11_30 : FL RX11 30 11 4 1 (.object "AloneRooms$Text") := ⟨RX11, TX11, 13, tyX11, rfl, qX11, (mt 313 (by decide +kernel) rfl), rfl, by decide, tyX11_ok, nmX11, by decide +kernel, rfl, by decide⟩
theorem flX11_49 : FL RX11 49 11 5 1 (.array (.object "AloneRooms$Once")) := ⟨RX11, TX11, 13, tyX11, rfl, qX11, (mt 314 (by decide +kernel) rfl), rfl, by decide, tyX11_ok, nmX11, by decide +kernel, rfl, by decide⟩
theorem flX11_56 : FL RX11 56 11 6 1 (.object "AloneRooms$Ways") := ⟨RX11, TX11, 13, tyX11, rfl, qX11, (mt 315 (by decide +kernel) rfl), rfl, by decide, tyX11_ok, nmX11, by decide +kernel, rfl, by decide⟩
theorem flX11_63 : FL RX11 63 11 7 1 (.object "AloneRooms$Evening") := ⟨RX11, TX11, 13, tyX11, rfl, qX11, (mt 316 (by decide +kernel) rfl), rfl, by decide, tyX11_ok, nmX11, by decide +kernel, rfl, by decide⟩
theorem flX11_70 : FL RX11 70 11 8 1 (.object "AloneRooms$Search") := ⟨RX11, TX11, 13, tyX11, rfl, qX11, (mt 317 (by decide +kernel) rfl), rfl, by decide, tyX11_ok, nmX11, by decide +kernel, rfl, by decide⟩
theorem flX11_77 : FL RX11 77 11 9 1 (.object "AloneRooms$Walk") := ⟨RX11, TX11, 13, tyX11, rfl, qX11, (mt 318 (by decide +kernel) rfl), rfl, by decide, tyX11_ok, nmX11, by decide +kernel, rfl, by decide⟩
theorem flX11_263 : FL RX11 263 11 10 0 .int := ⟨RX11, TX11, 13, tyX11, rfl, qX11, (mt 319 (by decide +kernel) rfl), rfl, by decide, tyX11_ok, nmX11, by decide +kernel, rfl, by decide⟩
theorem flX11_266 : FL RX11 266 11 11 0 .int := ⟨RX11, TX11, 13, tyX11, rfl, qX11, (mt 320 (by decide +kernel) rfl), rfl, by decide, tyX11_ok, nmX11, by decide +kernel, rfl, by decide⟩
theorem flX11_269 : FL RX11 269 11 12 0 .int := ⟨RX11, TX11, 13, tyX11, rfl, qX11, (mt 321 (by decide +kernel) rfl), rfl, by decide, tyX11_ok, nmX11, by decide +kernel, rfl, by decide⟩
theorem flX12_7 : FL RX12 7 12 0 1 (.array .int) := ⟨RX12, TX12, 18, tyX12, rfl, qX12, (mt 880 (by decide +kernel) rfl), rfl, by decide, tyX12_ok, nmX12, by decide +kernel, rfl, by decide⟩
theorem flX12_13 : FL RX12 13 12 1 1 (.array .boolean) := ⟨RX12, TX12, 18, tyX12, rfl, qX12, (mt 881 (by decide +kernel) rfl), rfl, by decide, tyX12_ok, nmX12, by decide +kernel, rfl, by decide⟩
theorem flX12_17 : FL RX12 17 12 2 1 (.array .int) := ⟨RX12, TX12, 18, tyX12, rfl, qX12, (mt 882 (by decide +kernel) rfl), rfl, by decide, tyX12_ok, nmX12, by decide +kernel, rfl, by decide⟩
theorem flX12_94 : FL RX12 94 12 3 0 .int := ⟨RX12, TX12, 18, tyX12, rfl, qX12, (mt 883 (by decide +kernel) rfl), rfl, by decide, tyX12_ok, nmX12, by decide +kernel, rfl, by decide⟩
theorem flX12_20 : FL RX12 20 12 4 1 (.array .int) := ⟨RX12, TX12, 18, tyX12, rfl, qX12, (mt 884 (by decide +kernel) rfl), rfl, by decide, tyX12_ok, nmX12, by decide +kernel, rfl, by decide⟩
theorem flX12_99 : FL RX12 99 12 5 0 .int := ⟨RX12, TX12, 18, tyX12, rfl, qX12, (mt 885 (by decide +kernel) rfl), rfl, by decide, tyX12_ok, nmX12, by decide +kernel, rfl, by decide⟩
theorem flX12_102 : FL RX12 102 12 6 0 .int := ⟨RX12, TX12, 18, tyX12, rfl, qX12, (mt 886 (by decide +kernel) rfl), rfl, by decide, tyX12_ok, nmX12, by decide +kernel, rfl, by decide⟩
theorem flX12_108 : FL RX12 108 12 7 0 .int := ⟨RX12, TX12, 18, tyX12, rfl, qX12, (mt 887 (by decide +kernel) rfl), rfl, by decide, tyX12_ok, nmX12, by decide +kernel, rfl, by decide⟩
theorem flX12_23 : FL RX12 23 12 8 1 (.array .int) := ⟨RX12, TX12, 18, tyX12, rfl, qX12, (mt 888 (by decide +kernel) rfl), rfl, by decide, tyX12_ok, nmX12, by decide +kernel, rfl, by decide⟩
theorem flX12_119 : FL RX12 119 12 9 0 .int := ⟨RX12, TX12, 18, tyX12, rfl, qX12, (mt 889 (by decide +kernel) rfl), rfl, by decide, tyX12_ok, nmX12, by decide +kernel, rfl, by decide⟩
theorem flX12_125 : FL RX12 125 12 10 0 .int := ⟨RX12, TX12, 18, tyX12, rfl, qX12, (mt 890 (by decide +kernel) rfl), rfl, by decide, tyX12_ok, nmX12, by decide +kernel, rfl, by decide⟩
theorem flX12_132 : FL RX12 132 12 11 0 .int := ⟨RX12, TX12, 18, tyX12, rfl, qX12, (mt 891 (by decide +kernel) rfl), rfl, by decide, tyX12_ok, nmX12, by decide +kernel, rfl, by decide⟩
theorem flX12_26 : FL RX12 26 12 12 1 (.array .int) := ⟨RX12, TX12, 18, tyX12, rfl, qX12, (mt 892 (by decide +kernel) rfl), rfl, by decide, tyX12_ok, nmX12, by decide +kernel, rfl, by decide⟩
theorem flX12_29 : FL RX12 29 12 13 1 (.array .int) := ⟨RX12, TX12, 18, tyX12, rfl, qX12, (mt 893 (by decide +kernel) rfl), rfl, by decide, tyX12_ok, nmX12, by decide +kernel, rfl, by decide⟩
theorem flX12_32 : FL RX12 32 12 14 1 (.array .int) := ⟨RX12, TX12, 18, tyX12, rfl, qX12, (mt 894 (by decide +kernel) rfl), rfl, by decide, tyX12_ok, nmX12, by decide +kernel, rfl, by decide⟩
theorem flX12_35 : FL RX12 35 12 15 0 .int := ⟨RX12, TX12, 18, tyX12, rfl, qX12, (mt 895 (by decide +kernel) rfl), rfl, by decide, tyX12_ok, nmX12, by decide +kernel, rfl, by decide⟩
theorem flX12_39 : FL RX12 39 12 16 1 (.array .int) := ⟨RX12, TX12, 18, tyX12, rfl, qX12, (mt 896 (by decide +kernel) rfl), rfl, by decide, tyX12_ok, nmX12, by decide +kernel, rfl, by decide⟩
theorem flX12_42 : FL RX12 42 12 17 1 (.array .int) := ⟨RX12, TX12, 18, tyX12, rfl, qX12, (mt 897 (by decide +kernel) rfl), rfl, by decide, tyX12_ok, nmX12, by decide +kernel, rfl, by decide⟩
theorem kcJ6_265 : Cond.constant RJ6 265 (1431655765) ∈ lw_g := (mt 603 (by decide +kernel) rfl)
theorem kcJ6_266 : Cond.constant RJ6 266 (858993459) ∈ lw_g := (mt 604 (by decide +kernel) rfl)
theorem kcJ6_267 : Cond.constant RJ6 267 (252645135) ∈ lw_g := (mt 605 (by decide +kernel) rfl)
theorem kcX11_170 : Cond.constant RX11 170 (-100000) ∈ lw_g := (mt 626 (by decide +kernel) rfl)
theorem kcJ6_264 : Cond.constant RJ6 264 (65536) ∈ lw_g := (mt 678 (by decide +kernel) rfl)
theorem kcX11_236 : Cond.constant RX11 236 (999999) ∈ lw_g := (mt 823 (by decide +kernel) rfl)
theorem kcX11_237 : Cond.constantLong RX11 237 (1103515245) ∈ lw_g := (mt 824 (by decide +kernel) rfl)
theorem kcX11_239 : Cond.constantLong RX11 239 (12345) ∈ lw_g := (mt 825 (by decide +kernel) rfl)
theorem kcX11_241 : Cond.constantLong RX11 241 (2147483648) ∈ lw_g := (mt 826 (by decide +kernel) rfl)
theorem kcX11_249 : Cond.constantLong RX11 249 (65536) ∈ lw_g := (mt 828 (by decide +kernel) rfl)
theorem kcX11_275 : Cond.constantLong RX11 275 (757) ∈ lw_g := (mt 862 (by decide +kernel) rfl)
theorem kcX11_277 : Cond.constantLong RX11 277 (31) ∈ lw_g := (mt 863 (by decide +kernel) rfl)
theorem kcX12_53 : Cond.constantLong RX12 53 (28) ∈ lw_g := (mt 875 (by decide +kernel) rfl)
theorem kcX12_55 : Cond.constantLong RX12 55 (43) ∈ lw_g := (mt 876 (by decide +kernel) rfl)
theorem kcX12_57 : Cond.constantLong RX12 57 (5) ∈ lw_g := (mt 939 (by decide +kernel) rfl)
theorem kcX12_79 : Cond.constantLong RX12 79 (999) ∈ lw_g := (mt 971 (by decide +kernel) rfl)
theorem kcX12_87 : Cond.constantLong RX12 87 (4) ∈ lw_g := (mt 988 (by decide +kernel) rfl)
theorem kcX12_92 : Cond.constantLong RX12 92 (8) ∈ lw_g := (mt 1001 (by decide +kernel) rfl)
theorem kcX12_97 : Cond.constantLong RX12 97 (255) ∈ lw_g := (mt 1002 (by decide +kernel) rfl)
theorem kcX12_111 : Cond.constant RX12 111 (20364786) ∈ lw_g := (mt 1030 (by decide +kernel) rfl)
theorem kcX12_115 : Cond.constant RX12 115 (605668) ∈ lw_g := (mt 1035 (by decide +kernel) rfl)
theorem kcX12_116 : Cond.constant RX12 116 (405811) ∈ lw_g := (mt 1036 (by decide +kernel) rfl)
theorem kcX12_117 : Cond.constant RX12 117 (486131888) ∈ lw_g := (mt 1037 (by decide +kernel) rfl)
theorem kcX12_118 : Cond.constant RX12 118 (281911) ∈ lw_g := (mt 1038 (by decide +kernel) rfl)
theorem kcX12_185 : Cond.constant RX12 185 (-100000) ∈ lw_g := (mt 1110 (by decide +kernel) rfl)
theorem kcX12_196 : Cond.constant RX12 196 (268435456) ∈ lw_g := (mt 1155 (by decide +kernel) rfl)
theorem kcX12_213 : Cond.constantLong RX12 213 (6) ∈ lw_g := (mt 1180 (by decide +kernel) rfl)
theorem kcX12_231 : Cond.constantLong RX12 231 (1999) ∈ lw_g := (mt 1208 (by decide +kernel) rfl)
theorem kcX12_236 : Cond.constantLong RX12 236 (99) ∈ lw_g := (mt 1225 (by decide +kernel) rfl)
theorem kcX12_238 : Cond.constantLong RX12 238 (999999) ∈ lw_g := (mt 1230 (by decide +kernel) rfl)
theorem kcX12_240 : Cond.constantLong RX12 240 (20) ∈ lw_g := (mt 1231 (by decide +kernel) rfl)
theorem kcX12_242 : Cond.constantLong RX12 242 (1103515245) ∈ lw_g := (mt 1232 (by decide +kernel) rfl)
theorem kcX12_244 : Cond.constantLong RX12 244 (12345) ∈ lw_g := (mt 1233 (by decide +kernel) rfl)
theorem kcX12_246 : Cond.constantLong RX12 246 (2147483648) ∈ lw_g := (mt 1234 (by decide +kernel) rfl)
theorem kcX12_248 : Cond.constantLong RX12 248 (65536) ∈ lw_g := (mt 1235 (by decide +kernel) rfl)
theorem kcX12_253 : Cond.constantLong RX12 253 (2) ∈ lw_g := (mt 1251 (by decide +kernel) rfl)
theorem kcX12_255 : Cond.constantLong RX12 255 (7) ∈ lw_g := (mt 1256 (by decide +kernel) rfl)
theorem kcX12_260 : Cond.constantLong RX12 260 (757) ∈ lw_g := (mt 1265 (by decide +kernel) rfl)
theorem kcX12_262 : Cond.constantLong RX12 262 (31) ∈ lw_g := (mt 1266 (by decide +kernel) rfl)
theorem kcL_46 : Cond.constantLong RL 46 (4294967295) ∈ lw_g := (mt 1267 (by decide +kernel) rfl)
abbrev kX0_lays : MD := (yX0_lays, cX0_lays, 4, (some .boolean))
theorem mkX0_lays : MK kX0_lays 3 := ⟨(mt 572 (by decide +kernel) rfl), (mt 9 (by decide +kernel) rfl), by decide +kernel, by decide +kernel, by decide +kernel, by decide⟩
abbrev kX1_lays : MD := (yX1_lays, cX1_lays, 4, (some .boolean))
theorem mkX1_lays : MK kX1_lays 3 := ⟨(mt 578 (by decide +kernel) rfl), (mt 6 (by decide +kernel) rfl), by decide +kernel, by decide +kernel, by decide +kernel, by decide⟩
abbrev kX2_weigh : MD := (yX2_weigh, cX2_weigh, 6, (some .int))
theorem mkX2_weigh : MK kX2_weigh 3 := ⟨(mt 656 (by decide +kernel) rfl), (mt 11 (by decide +kernel) rfl), by decide +kernel, by decide +kernel, by decide +kernel, by decide⟩
abbrev kX2_markKeeping : MD := (yX2_markKeeping, cX2_markKeeping, 8, none)
theorem mkX2_markKeeping : MK kX2_markKeeping 1 := ⟨(mt 687 (by decide +kernel) rfl), (mt 11 (by decide +kernel) rfl), by decide +kernel, by decide +kernel, by decide +kernel, by decide⟩
abbrev kX2_fillRest : MD := (yX2_fillRest, cX2_fillRest, 6, none)
theorem mkX2_fillRest : MK kX2_fillRest 1 := ⟨(mt 695 (by decide +kernel) rfl), (mt 11 (by decide +kernel) rfl), by decide +kernel, by decide +kernel, by decide +kernel, by decide⟩
abbrev kX2_leastFrom : MD := (yX2_leastFrom, cX2_leastFrom, 9, (some .int))
theorem mkX2_leastFrom : MK kX2_leastFrom 2 := ⟨(mt 704 (by decide +kernel) rfl), (mt 11 (by decide +kernel) rfl), by decide +kernel, by decide +kernel, by decide +kernel, by decide⟩
abbrev kX3_share : MD := (yX3_share, cX3_share, 2, (some .int))
theorem mkX3_share : MK kX3_share 1 := ⟨(mt 595 (by decide +kernel) rfl), (mt 7 (by decide +kernel) rfl), by decide +kernel, by decide +kernel, by decide +kernel, by decide⟩
abbrev kX4_empty : MD := (yX4_empty, cX4_empty, 2, none)
theorem mkX4_empty : MK kX4_empty 1 := ⟨(mt 360 (by decide +kernel) rfl), (mt 2 (by decide +kernel) rfl), by decide +kernel, by decide +kernel, by decide +kernel, by decide⟩
abbrev kX4_copy : MD := (yX4_copy, cX4_copy, 2, none)
theorem mkX4_copy : MK kX4_copy 1 := ⟨(mt 524 (by decide +kernel) rfl), (mt 2 (by decide +kernel) rfl), by decide +kernel, by decide +kernel, by decide +kernel, by decide⟩
abbrev kX4_enter : MD := (yX4_enter, cX4_enter, 2, none)
theorem mkX4_enter : MK kX4_enter 1 := ⟨(mt 387 (by decide +kernel) rfl), (mt 2 (by decide +kernel) rfl), by decide +kernel, by decide +kernel, by decide +kernel, by decide⟩
abbrev kX4_doorCount : MD := (yX4_doorCount, cX4_doorCount, 3, (some .int))
theorem mkX4_doorCount : MK kX4_doorCount 0 := ⟨(mt 857 (by decide +kernel) rfl), (mt 2 (by decide +kernel) rfl), by decide +kernel, by decide +kernel, by decide +kernel, by decide⟩
abbrev kX4_reach : MD := (yX4_reach, cX4_reach, 2, (some .int))
theorem mkX4_reach : MK kX4_reach 1 := ⟨(mt 548 (by decide +kernel) rfl), (mt 2 (by decide +kernel) rfl), by decide +kernel, by decide +kernel, by decide +kernel, by decide⟩
abbrev kX4_everywhere : MD := (yX4_everywhere, cX4_everywhere, 1, (some .int))
theorem mkX4_everywhere : MK kX4_everywhere 0 := ⟨(mt 668 (by decide +kernel) rfl), (mt 2 (by decide +kernel) rfl), by decide +kernel, by decide +kernel, by decide +kernel, by decide⟩
abbrev kX4_canGo : MD := (yX4_canGo, cX4_canGo, 4, (some .boolean))
theorem mkX4_canGo : MK kX4_canGo 2 := ⟨(mt 543 (by decide +kernel) rfl), (mt 2 (by decide +kernel) rfl), by decide +kernel, by decide +kernel, by decide +kernel, by decide⟩
abbrev kX4_peopled : MD := (yX4_peopled, cX4_peopled, 3, (some .int))
theorem mkX4_peopled : MK kX4_peopled 0 := ⟨(mt 837 (by decide +kernel) rfl), (mt 2 (by decide +kernel) rfl), by decide +kernel, by decide +kernel, by decide +kernel, by decide⟩
abbrev kX4_lone : MD := (yX4_lone, cX4_lone, 6, (some .int))
theorem mkX4_lone : MK kX4_lone 1 := ⟨(mt 561 (by decide +kernel) rfl), (mt 2 (by decide +kernel) rfl), by decide +kernel, by decide +kernel, by decide +kernel, by decide⟩
abbrev kX4_isAloneIn : MD := (yX4_isAloneIn, cX4_isAloneIn, 3, (some .boolean))
theorem mkX4_isAloneIn : MK kX4_isAloneIn 2 := ⟨(mt 809 (by decide +kernel) rfl), (mt 2 (by decide +kernel) rfl), by decide +kernel, by decide +kernel, by decide +kernel, by decide⟩
abbrev kX4_markLone : MD := (yX4_markLone, cX4_markLone, 5, none)
theorem mkX4_markLone : MK kX4_markLone 2 := ⟨(mt 660 (by decide +kernel) rfl), (mt 2 (by decide +kernel) rfl), by decide +kernel, by decide +kernel, by decide +kernel, by decide⟩
abbrev kX4_payers : MD := (yX4_payers, cX4_payers, 10, (some .int))
theorem mkX4_payers : MK kX4_payers 6 := ⟨(mt 565 (by decide +kernel) rfl), (mt 2 (by decide +kernel) rfl), by decide +kernel, by decide +kernel, by decide +kernel, by decide⟩
abbrev kX4_go : MD := (yX4_go, cX4_go, 6, (some .int))
theorem mkX4_go : MK kX4_go 2 := ⟨(mt 557 (by decide +kernel) rfl), (mt 2 (by decide +kernel) rfl), by decide +kernel, by decide +kernel, by decide +kernel, by decide⟩
abbrev kX4_gather : MD := (yX4_gather, cX4_gather, 9, none)
theorem mkX4_gather : MK kX4_gather 3 := ⟨(mt 588 (by decide +kernel) rfl), (mt 2 (by decide +kernel) rfl), by decide +kernel, by decide +kernel, by decide +kernel, by decide⟩
abbrev kX4_isAsTold : MD := (yX4_isAsTold, cX4_isAsTold, 2, (some .boolean))
theorem mkX4_isAsTold : MK kX4_isAsTold 0 := ⟨(mt 805 (by decide +kernel) rfl), (mt 2 (by decide +kernel) rfl), by decide +kernel, by decide +kernel, by decide +kernel, by decide⟩
abbrev kX4_remember : MD := (yX4_remember, cX4_remember, 2, none)
theorem mkX4_remember : MK kX4_remember 0 := ⟨(mt 553 (by decide +kernel) rfl), (mt 2 (by decide +kernel) rfl), by decide +kernel, by decide +kernel, by decide +kernel, by decide⟩
abbrev kX4_goBack : MD := (yX4_goBack, cX4_goBack, 2, none)
theorem mkX4_goBack : MK kX4_goBack 0 := ⟨(mt 613 (by decide +kernel) rfl), (mt 2 (by decide +kernel) rfl), by decide +kernel, by decide +kernel, by decide +kernel, by decide⟩
abbrev kX4_merge : MD := (yX4_merge, cX4_merge, 6, none)
theorem mkX4_merge : MK kX4_merge 2 := ⟨(mt 785 (by decide +kernel) rfl), (mt 2 (by decide +kernel) rfl), by decide +kernel, by decide +kernel, by decide +kernel, by decide⟩
abbrev kX4_toFirst : MD := (yX4_toFirst, cX4_toFirst, 3, (some .int))
theorem mkX4_toFirst : MK kX4_toFirst 3 := ⟨(mt 788 (by decide +kernel) rfl), (mt 2 (by decide +kernel) rfl), by decide +kernel, by decide +kernel, by decide +kernel, by decide⟩
abbrev kX5_lays : MD := (yX5_lays, cX5_lays, 4, (some .boolean))
theorem mkX5_lays : MK kX5_lays 3 := ⟨(mt 584 (by decide +kernel) rfl), (mt 5 (by decide +kernel) rfl), by decide +kernel, by decide +kernel, by decide +kernel, by decide⟩
abbrev kX5_mindsBeats : MD := (yX5_mindsBeats, cX5_mindsBeats, 1, (some .boolean))
theorem mkX5_mindsBeats : MK kX5_mindsBeats 0 := ⟨(mt 744 (by decide +kernel) rfl), (mt 5 (by decide +kernel) rfl), by decide +kernel, by decide +kernel, by decide +kernel, by decide⟩
abbrev kX5_share : MD := (yX5_share, cX5_share, 2, (some .int))
theorem mkX5_share : MK kX5_share 1 := ⟨(mt 599 (by decide +kernel) rfl), (mt 5 (by decide +kernel) rfl), by decide +kernel, by decide +kernel, by decide +kernel, by decide⟩
abbrev kX6_beatsTo : MD := (yX6_beatsTo, cX6_beatsTo, 6, (some .int))
theorem mkX6_beatsTo : MK kX6_beatsTo 3 := ⟨(mt 723 (by decide +kernel) rfl), (mt 12 (by decide +kernel) rfl), by decide +kernel, by decide +kernel, by decide +kernel, by decide⟩
abbrev kX6_spread : MD := (yX6_spread, cX6_spread, 7, none)
theorem mkX6_spread : MK kX6_spread 2 := ⟨(mt 751 (by decide +kernel) rfl), (mt 12 (by decide +kernel) rfl), by decide +kernel, by decide +kernel, by decide +kernel, by decide⟩
abbrev kX6_reach : MD := (yX6_reach, cX6_reach, 3, none)
theorem mkX6_reach : MK kX6_reach 2 := ⟨(mt 729 (by decide +kernel) rfl), (mt 12 (by decide +kernel) rfl), by decide +kernel, by decide +kernel, by decide +kernel, by decide⟩
abbrev kX6_sideOf : MD := (yX6_sideOf, cX6_sideOf, 2, (some .int))
theorem mkX6_sideOf : MK kX6_sideOf 1 := ⟨(mt 733 (by decide +kernel) rfl), (mt 12 (by decide +kernel) rfl), by decide +kernel, by decide +kernel, by decide +kernel, by decide⟩
abbrev kX7_lays : MD := (yX7_lays, cX7_lays, 4, (some .boolean))
theorem mkX7_lays : MK kX7_lays 3 := ⟨(mt 582 (by decide +kernel) rfl), (mt 8 (by decide +kernel) rfl), by decide +kernel, by decide +kernel, by decide +kernel, by decide⟩
abbrev kX7_mindsBeats : MD := (yX7_mindsBeats, cX7_mindsBeats, 1, (some .boolean))
theorem mkX7_mindsBeats : MK kX7_mindsBeats 0 := ⟨(mt 743 (by decide +kernel) rfl), (mt 8 (by decide +kernel) rfl), by decide +kernel, by decide +kernel, by decide +kernel, by decide⟩
abbrev kX8_add : MD := (yX8_add, cX8_add, 5, none)
theorem mkX8_add : MK kX8_add 2 := ⟨(mt 414 (by decide +kernel) rfl), (mt 4 (by decide +kernel) rfl), by decide +kernel, by decide +kernel, by decide +kernel, by decide⟩
abbrev kX8_parse : MD := (yX8_parse, cX8_parse, 3, (some .int))
theorem mkX8_parse : MK kX8_parse 1 := ⟨(mt 426 (by decide +kernel) rfl), (mt 4 (by decide +kernel) rfl), by decide +kernel, by decide +kernel, by decide +kernel, by decide⟩
abbrev kX8_takeItem : MD := (yX8_takeItem, cX8_takeItem, 8, none)
theorem mkX8_takeItem : MK kX8_takeItem 1 := ⟨(mt 518 (by decide +kernel) rfl), (mt 4 (by decide +kernel) rfl), by decide +kernel, by decide +kernel, by decide +kernel, by decide⟩
abbrev kX8_takeNumber : MD := (yX8_takeNumber, cX8_takeNumber, 3, (some .int))
theorem mkX8_takeNumber : MK kX8_takeNumber 2 := ⟨(mt 509 (by decide +kernel) rfl), (mt 4 (by decide +kernel) rfl), by decide +kernel, by decide +kernel, by decide +kernel, by decide⟩
abbrev kX8_takeStop : MD := (yX8_takeStop, cX8_takeStop, 1, none)
theorem mkX8_takeStop : MK kX8_takeStop 0 := ⟨(mt 514 (by decide +kernel) rfl), (mt 4 (by decide +kernel) rfl), by decide +kernel, by decide +kernel, by decide +kernel, by decide⟩
abbrev kX8_advance : MD := (yX8_advance, cX8_advance, 1, none)
theorem mkX8_advance : MK kX8_advance 0 := ⟨(mt 430 (by decide +kernel) rfl), (mt 4 (by decide +kernel) rfl), by decide +kernel, by decide +kernel, by decide +kernel, by decide⟩
abbrev kX8_isWithin : MD := (yX8_isWithin, cX8_isWithin, 4, (some .boolean))
theorem mkX8_isWithin : MK kX8_isWithin 3 := ⟨(mt 434 (by decide +kernel) rfl), (mt 4 (by decide +kernel) rfl), by decide +kernel, by decide +kernel, by decide +kernel, by decide⟩
abbrev kX8_endOf : MD := (yX8_endOf, cX8_endOf, 4, (some .int))
theorem mkX8_endOf : MK kX8_endOf 2 := ⟨(mt 438 (by decide +kernel) rfl), (mt 4 (by decide +kernel) rfl), by decide +kernel, by decide +kernel, by decide +kernel, by decide⟩
abbrev kX8_numberToken : MD := (yX8_numberToken, cX8_numberToken, 2, (some .int))
theorem mkX8_numberToken : MK kX8_numberToken 0 := ⟨(mt 505 (by decide +kernel) rfl), (mt 4 (by decide +kernel) rfl), by decide +kernel, by decide +kernel, by decide +kernel, by decide⟩
abbrev kX8_wordToken : MD := (yX8_wordToken, cX8_wordToken, 1, (some .int))
theorem mkX8_wordToken : MK kX8_wordToken 0 := ⟨(mt 442 (by decide +kernel) rfl), (mt 4 (by decide +kernel) rfl), by decide +kernel, by decide +kernel, by decide +kernel, by decide⟩
abbrev kX8_spells : MD := (yX8_spells, cX8_spells, 3, (some .boolean))
theorem mkX8_spells : MK kX8_spells 1 := ⟨(mt 447 (by decide +kernel) rfl), (mt 4 (by decide +kernel) rfl), by decide +kernel, by decide +kernel, by decide +kernel, by decide⟩
abbrev kX9_look : MD := (yX9_look, cX9_look, 4, none)
theorem mkX9_look : MK kX9_look 3 := ⟨(mt 771 (by decide +kernel) rfl), (mt 13 (by decide +kernel) rfl), by decide +kernel, by decide +kernel, by decide +kernel, by decide⟩
abbrev kX9_go : MD := (yX9_go, cX9_go, 7, none)
theorem mkX9_go : MK kX9_go 5 := ⟨(mt 775 (by decide +kernel) rfl), (mt 13 (by decide +kernel) rfl), by decide +kernel, by decide +kernel, by decide +kernel, by decide⟩
abbrev kX10_all : MD := (yX10_all, cX10_all, 2, (some .int))
theorem mkX10_all : MK kX10_all 1 := ⟨(mt 664 (by decide +kernel) rfl), (mt 10 (by decide +kernel) rfl), by decide +kernel, by decide +kernel, by decide +kernel, by decide⟩
abbrev kX10_among : MD := (yX10_among, cX10_among, 3, (some .int))
theorem mkX10_among : MK kX10_among 2 := ⟨(mt 699 (by decide +kernel) rfl), (mt 10 (by decide +kernel) rfl), by decide +kernel, by decide +kernel, by decide +kernel, by decide⟩
abbrev kX10_onward : MD := (yX10_onward, cX10_onward, 4, (some .int))
theorem mkX10_onward : MK kX10_onward 2 := ⟨(mt 755 (by decide +kernel) rfl), (mt 10 (by decide +kernel) rfl), by decide +kernel, by decide +kernel, by decide +kernel, by decide⟩
abbrev kX10_onwardAmong : MD := (yX10_onwardAmong, cX10_onwardAmong, 5, (some .int))
theorem mkX10_onwardAmong : MK kX10_onwardAmong 3 := ⟨(mt 708 (by decide +kernel) rfl), (mt 10 (by decide +kernel) rfl), by decide +kernel, by decide +kernel, by decide +kernel, by decide⟩
abbrev kX10_begin : MD := (yX10_begin, cX10_begin, 3, (some .int))
theorem mkX10_begin : MK kX10_begin 0 := ⟨(mt 673 (by decide +kernel) rfl), (mt 10 (by decide +kernel) rfl), by decide +kernel, by decide +kernel, by decide +kernel, by decide⟩
abbrev kX10_step : MD := (yX10_step, cX10_step, 5, none)
theorem mkX10_step : MK kX10_step 0 := ⟨(mt 682 (by decide +kernel) rfl), (mt 10 (by decide +kernel) rfl), by decide +kernel, by decide +kernel, by decide +kernel, by decide⟩
abbrev kX11_rooms : MD := (yX11_rooms, cX11_rooms, 3, (some .int))
theorem mkX11_rooms : MK kX11_rooms 1 := ⟨(mt 352 (by decide +kernel) rfl), (mt 1 (by decide +kernel) rfl), by decide +kernel, by decide +kernel, by decide +kernel, by decide⟩
abbrev kX11_door : MD := (yX11_door, cX11_door, 4, (some .int))
theorem mkX11_door : MK kX11_door 3 := ⟨(mt 364 (by decide +kernel) rfl), (mt 1 (by decide +kernel) rfl), by decide +kernel, by decide +kernel, by decide +kernel, by decide⟩
abbrev kX11_cat : MD := (yX11_cat, cX11_cat, 3, (some .int))
theorem mkX11_cat : MK kX11_cat 2 := ⟨(mt 375 (by decide +kernel) rfl), (mt 1 (by decide +kernel) rfl), by decide +kernel, by decide +kernel, by decide +kernel, by decide⟩
abbrev kX11_lay : MD := (yX11_lay, cX11_lay, 4, (some .int))
theorem mkX11_lay : MK kX11_lay 2 := ⟨(mt 379 (by decide +kernel) rfl), (mt 1 (by decide +kernel) rfl), by decide +kernel, by decide +kernel, by decide +kernel, by decide⟩
abbrev kX11_person : MD := (yX11_person, cX11_person, 2, (some .int))
theorem mkX11_person : MK kX11_person 1 := ⟨(mt 383 (by decide +kernel) rfl), (mt 1 (by decide +kernel) rfl), by decide +kernel, by decide +kernel, by decide +kernel, by decide⟩
abbrev kX11_law : MD := (yX11_law, cX11_law, 3, (some .int))
theorem mkX11_law : MK kX11_law 1 := ⟨(mt 391 (by decide +kernel) rfl), (mt 1 (by decide +kernel) rfl), by decide +kernel, by decide +kernel, by decide +kernel, by decide⟩
abbrev kX11_wish : MD := (yX11_wish, cX11_wish, 6, (some .int))
theorem mkX11_wish : MK kX11_wish 3 := ⟨(mt 399 (by decide +kernel) rfl), (mt 1 (by decide +kernel) rfl), by decide +kernel, by decide +kernel, by decide +kernel, by decide⟩
abbrev kX11_type : MD := (yX11_type, cX11_type, 4, (some .int))
theorem mkX11_type : MK kX11_type 2 := ⟨(mt 410 (by decide +kernel) rfl), (mt 1 (by decide +kernel) rfl), by decide +kernel, by decide +kernel, by decide +kernel, by decide⟩
abbrev kX11_clear : MD := (yX11_clear, cX11_clear, 2, (some .int))
theorem mkX11_clear : MK kX11_clear 0 := ⟨(mt 418 (by decide +kernel) rfl), (mt 1 (by decide +kernel) rfl), by decide +kernel, by decide +kernel, by decide +kernel, by decide⟩
abbrev kX11_read : MD := (yX11_read, cX11_read, 2, (some .int))
theorem mkX11_read : MK kX11_read 0 := ⟨(mt 422 (by decide +kernel) rfl), (mt 1 (by decide +kernel) rfl), by decide +kernel, by decide +kernel, by decide +kernel, by decide⟩
abbrev kX11_beat : MD := (yX11_beat, cX11_beat, 2, (some .int))
theorem mkX11_beat : MK kX11_beat 1 := ⟨(mt 532 (by decide +kernel) rfl), (mt 1 (by decide +kernel) rfl), by decide +kernel, by decide +kernel, by decide +kernel, by decide⟩
abbrev kX11_undo : MD := (yX11_undo, cX11_undo, 1, (some .int))
theorem mkX11_undo : MK kX11_undo 0 := ⟨(mt 609 (by decide +kernel) rfl), (mt 1 (by decide +kernel) rfl), by decide +kernel, by decide +kernel, by decide +kernel, by decide⟩
abbrev kX11_standing : MD := (yX11_standing, cX11_standing, 1, (some .int))
theorem mkX11_standing : MK kX11_standing 0 := ⟨(mt 617 (by decide +kernel) rfl), (mt 1 (by decide +kernel) rfl), by decide +kernel, by decide +kernel, by decide +kernel, by decide⟩
abbrev kX11_sill : MD := (yX11_sill, cX11_sill, 2, (some .int))
theorem mkX11_sill : MK kX11_sill 1 := ⟨(mt 621 (by decide +kernel) rfl), (mt 1 (by decide +kernel) rfl), by decide +kernel, by decide +kernel, by decide +kernel, by decide⟩
abbrev kX11_purse : MD := (yX11_purse, cX11_purse, 2, (some .int))
theorem mkX11_purse : MK kX11_purse 1 := ⟨(mt 625 (by decide +kernel) rfl), (mt 1 (by decide +kernel) rfl), by decide +kernel, by decide +kernel, by decide +kernel, by decide⟩
abbrev kX11_alone : MD := (yX11_alone, cX11_alone, 2, (some .int))
theorem mkX11_alone : MK kX11_alone 1 := ⟨(mt 630 (by decide +kernel) rfl), (mt 1 (by decide +kernel) rfl), by decide +kernel, by decide +kernel, by decide +kernel, by decide⟩
abbrev kX11_plan : MD := (yX11_plan, cX11_plan, 2, (some .int))
theorem mkX11_plan : MK kX11_plan 1 := ⟨(mt 635 (by decide +kernel) rfl), (mt 1 (by decide +kernel) rfl), by decide +kernel, by decide +kernel, by decide +kernel, by decide⟩
abbrev kX11_scrap : MD := (yX11_scrap, cX11_scrap, 2, (some .int))
theorem mkX11_scrap : MK kX11_scrap 0 := ⟨(mt 639 (by decide +kernel) rfl), (mt 1 (by decide +kernel) rfl), by decide +kernel, by decide +kernel, by decide +kernel, by decide⟩
abbrev kX11_judge : MD := (yX11_judge, cX11_judge, 3, (some .int))
theorem mkX11_judge : MK kX11_judge 0 := ⟨(mt 643 (by decide +kernel) rfl), (mt 1 (by decide +kernel) rfl), by decide +kernel, by decide +kernel, by decide +kernel, by decide⟩
abbrev kX11_cost : MD := (yX11_cost, cX11_cost, 4, (some .int))
theorem mkX11_cost : MK kX11_cost 1 := ⟨(mt 647 (by decide +kernel) rfl), (mt 1 (by decide +kernel) rfl), by decide +kernel, by decide +kernel, by decide +kernel, by decide⟩
abbrev kX11_least : MD := (yX11_least, cX11_least, 4, (some .int))
theorem mkX11_least : MK kX11_least 2 := ⟨(mt 652 (by decide +kernel) rfl), (mt 1 (by decide +kernel) rfl), by decide +kernel, by decide +kernel, by decide +kernel, by decide⟩
abbrev kX11_fewest : MD := (yX11_fewest, cX11_fewest, 2, (some .int))
theorem mkX11_fewest : MK kX11_fewest 1 := ⟨(mt 719 (by decide +kernel) rfl), (mt 1 (by decide +kernel) rfl), by decide +kernel, by decide +kernel, by decide +kernel, by decide⟩
abbrev kX11_quiet : MD := (yX11_quiet, cX11_quiet, 4, (some .int))
theorem mkX11_quiet : MK kX11_quiet 0 := ⟨(mt 761 (by decide +kernel) rfl), (mt 1 (by decide +kernel) rfl), by decide +kernel, by decide +kernel, by decide +kernel, by decide⟩
abbrev kX11_picks : MD := (yX11_picks, cX11_picks, 4, (some .int))
theorem mkX11_picks : MK kX11_picks 3 := ⟨(mt 767 (by decide +kernel) rfl), (mt 1 (by decide +kernel) rfl), by decide +kernel, by decide +kernel, by decide +kernel, by decide⟩
abbrev kX11_join : MD := (yX11_join, cX11_join, 7, (some .int))
theorem mkX11_join : MK kX11_join 1 := ⟨(mt 781 (by decide +kernel) rfl), (mt 1 (by decide +kernel) rfl), by decide +kernel, by decide +kernel, by decide +kernel, by decide⟩
abbrev kX11_spy : MD := (yX11_spy, cX11_spy, 4, (some .int))
theorem mkX11_spy : MK kX11_spy 2 := ⟨(mt 792 (by decide +kernel) rfl), (mt 1 (by decide +kernel) rfl), by decide +kernel, by decide +kernel, by decide +kernel, by decide⟩
abbrev kX11_fits : MD := (yX11_fits, cX11_fits, 1, (some .int))
theorem mkX11_fits : MK kX11_fits 0 := ⟨(mt 796 (by decide +kernel) rfl), (mt 1 (by decide +kernel) rfl), by decide +kernel, by decide +kernel, by decide +kernel, by decide⟩
abbrev kX11_was : MD := (yX11_was, cX11_was, 3, (some .int))
theorem mkX11_was : MK kX11_was 2 := ⟨(mt 813 (by decide +kernel) rfl), (mt 1 (by decide +kernel) rfl), by decide +kernel, by decide +kernel, by decide +kernel, by decide⟩
abbrev kX11_rent : MD := (yX11_rent, cX11_rent, 6, (some .int))
theorem mkX11_rent : MK kX11_rent 2 := ⟨(mt 817 (by decide +kernel) rfl), (mt 1 (by decide +kernel) rfl), by decide +kernel, by decide +kernel, by decide +kernel, by decide⟩
abbrev kX11_drawn : MD := (yX11_drawn, cX11_drawn, 11, (some .int))
theorem mkX11_drawn : MK kX11_drawn 3 := ⟨(mt 822 (by decide +kernel) rfl), (mt 1 (by decide +kernel) rfl), by decide +kernel, by decide +kernel, by decide +kernel, by decide⟩
abbrev kX11_image : MD := (yX11_image, cX11_image, 2, (some .int))
theorem mkX11_image : MK kX11_image 1 := ⟨(mt 841 (by decide +kernel) rfl), (mt 1 (by decide +kernel) rfl), by decide +kernel, by decide +kernel, by decide +kernel, by decide⟩
abbrev kX11_from : MD := (yX11_from, cX11_from, 2, (some .int))
theorem mkX11_from : MK kX11_from 1 := ⟨(mt 845 (by decide +kernel) rfl), (mt 1 (by decide +kernel) rfl), by decide +kernel, by decide +kernel, by decide +kernel, by decide⟩
abbrev kX11_status : MD := (yX11_status, cX11_status, 2, (some .int))
theorem mkX11_status : MK kX11_status 1 := ⟨(mt 849 (by decide +kernel) rfl), (mt 1 (by decide +kernel) rfl), by decide +kernel, by decide +kernel, by decide +kernel, by decide⟩
abbrev kX11_count : MD := (yX11_count, cX11_count, 2, (some .int))
theorem mkX11_count : MK kX11_count 1 := ⟨(mt 853 (by decide +kernel) rfl), (mt 1 (by decide +kernel) rfl), by decide +kernel, by decide +kernel, by decide +kernel, by decide⟩
abbrev kX11_digest : MD := (yX11_digest, cX11_digest, 5, (some .long))
theorem mkX11_digest : MK kX11_digest 0 := ⟨(mt 861 (by decide +kernel) rfl), (mt 1 (by decide +kernel) rfl), by decide +kernel, by decide +kernel, by decide +kernel, by decide⟩
abbrev kX11_refuse : MD := (yX11_refuse, cX11_refuse, 2, (some .int))
theorem mkX11_refuse : MK kX11_refuse 1 := ⟨(mt 356 (by decide +kernel) rfl), (mt 1 (by decide +kernel) rfl), by decide +kernel, by decide +kernel, by decide +kernel, by decide⟩
abbrev kX11_isRoom : MD := (yX11_isRoom, cX11_isRoom, 2, (some .boolean))
theorem mkX11_isRoom : MK kX11_isRoom 1 := ⟨(mt 368 (by decide +kernel) rfl), (mt 1 (by decide +kernel) rfl), by decide +kernel, by decide +kernel, by decide +kernel, by decide⟩
abbrev kX11_isPerson : MD := (yX11_isPerson, cX11_isPerson, 2, (some .boolean))
theorem mkX11_isPerson : MK kX11_isPerson 1 := ⟨(mt 403 (by decide +kernel) rfl), (mt 1 (by decide +kernel) rfl), by decide +kernel, by decide +kernel, by decide +kernel, by decide⟩
abbrev kX11_isLaw : MD := (yX11_isLaw, cX11_isLaw, 2, (some .boolean))
theorem mkX11_isLaw : MK kX11_isLaw 1 := ⟨(mt 395 (by decide +kernel) rfl), (mt 1 (by decide +kernel) rfl), by decide +kernel, by decide +kernel, by decide +kernel, by decide⟩
abbrev kX11_isStanding : MD := (yX11_isStanding, cX11_isStanding, 3, (some .boolean))
theorem mkX11_isStanding : MK kX11_isStanding 1 := ⟨(mt 536 (by decide +kernel) rfl), (mt 1 (by decide +kernel) rfl), by decide +kernel, by decide +kernel, by decide +kernel, by decide⟩
abbrev kX11_countFits : MD := (yX11_countFits, cX11_countFits, 6, (some .int))
theorem mkX11_countFits : MK kX11_countFits 2 := ⟨(mt 800 (by decide +kernel) rfl), (mt 1 (by decide +kernel) rfl), by decide +kernel, by decide +kernel, by decide +kernel, by decide⟩
abbrev kX11_has : MD := (yX11_has, cX11_has, 2, (some .boolean))
theorem mkX11_has : MK kX11_has 2 := ⟨(mt 371 (by decide +kernel) rfl), (mt 1 (by decide +kernel) rfl), by decide +kernel, by decide +kernel, by decide +kernel, by decide⟩
abbrev kX11_roomOf : MD := (yX11_roomOf, cX11_roomOf, 2, (some .int))
theorem mkX11_roomOf : MK kX11_roomOf 2 := ⟨(mt 539 (by decide +kernel) rfl), (mt 1 (by decide +kernel) rfl), by decide +kernel, by decide +kernel, by decide +kernel, by decide⟩
abbrev kX11_wishPlace : MD := (yX11_wishPlace, cX11_wishPlace, 2, (some .int))
theorem mkX11_wishPlace : MK kX11_wishPlace 2 := ⟨(mt 406 (by decide +kernel) rfl), (mt 1 (by decide +kernel) rfl), by decide +kernel, by decide +kernel, by decide +kernel, by decide⟩
abbrev kX11_drawRoom : MD := (yX11_drawRoom, cX11_drawRoom, 6, (some .int))
theorem mkX11_drawRoom : MK kX11_drawRoom 2 := ⟨(mt 831 (by decide +kernel) rfl), (mt 1 (by decide +kernel) rfl), by decide +kernel, by decide +kernel, by decide +kernel, by decide⟩
abbrev kX12_in : MD := (yX12_in, cX12_in, 6, (some .boolean))
theorem mkX12_in : MK kX12_in 3 := ⟨(mt 879 (by decide +kernel) rfl), (mt 14 (by decide +kernel) rfl), by decide +kernel, by decide +kernel, by decide +kernel, by decide⟩
abbrev kX12_has : MD := (yX12_has, cX12_has, 2, (some .boolean))
theorem mkX12_has : MK kX12_has 2 := ⟨(mt 954 (by decide +kernel) rfl), (mt 14 (by decide +kernel) rfl), by decide +kernel, by decide +kernel, by decide +kernel, by decide⟩
abbrev kX12_bits : MD := (yX12_bits, cX12_bits, 3, (some .int))
theorem mkX12_bits : MK kX12_bits 1 := ⟨(mt 1238 (by decide +kernel) rfl), (mt 14 (by decide +kernel) rfl), by decide +kernel, by decide +kernel, by decide +kernel, by decide⟩
abbrev kX12_bad : MD := (yX12_bad, cX12_bad, 2, (some .int))
theorem mkX12_bad : MK kX12_bad 1 := ⟨(mt 943 (by decide +kernel) rfl), (mt 14 (by decide +kernel) rfl), by decide +kernel, by decide +kernel, by decide +kernel, by decide⟩
abbrev kX12_no : MD := (yX12_no, cX12_no, 1, (some .int))
theorem mkX12_no : MK kX12_no 0 := ⟨(mt 958 (by decide +kernel) rfl), (mt 14 (by decide +kernel) rfl), by decide +kernel, by decide +kernel, by decide +kernel, by decide⟩
abbrev kX12_full : MD := (yX12_full, cX12_full, 1, (some .int))
theorem mkX12_full : MK kX12_full 0 := ⟨(mt 979 (by decide +kernel) rfl), (mt 14 (by decide +kernel) rfl), by decide +kernel, by decide +kernel, by decide +kernel, by decide⟩
abbrev kX12_isRoom : MD := (yX12_isRoom, cX12_isRoom, 2, (some .boolean))
theorem mkX12_isRoom : MK kX12_isRoom 1 := ⟨(mt 951 (by decide +kernel) rfl), (mt 14 (by decide +kernel) rfl), by decide +kernel, by decide +kernel, by decide +kernel, by decide⟩
abbrev kX12_isPerson : MD := (yX12_isPerson, cX12_isPerson, 2, (some .boolean))
theorem mkX12_isPerson : MK kX12_isPerson 1 := ⟨(mt 996 (by decide +kernel) rfl), (mt 14 (by decide +kernel) rfl), by decide +kernel, by decide +kernel, by decide +kernel, by decide⟩
abbrev kX12_clearAll : MD := (yX12_clearAll, cX12_clearAll, 3, none)
theorem mkX12_clearAll : MK kX12_clearAll 1 := ⟨(mt 874 (by decide +kernel) rfl), (mt 14 (by decide +kernel) rfl), by decide +kernel, by decide +kernel, by decide +kernel, by decide⟩
abbrev kX12_rooms : MD := (yX12_rooms, cX12_rooms, 3, (some .int))
theorem mkX12_rooms : MK kX12_rooms 1 := ⟨(mt 938 (by decide +kernel) rfl), (mt 14 (by decide +kernel) rfl), by decide +kernel, by decide +kernel, by decide +kernel, by decide⟩
abbrev kX12_layDoor : MD := (yX12_layDoor, cX12_layDoor, 4, none)
theorem mkX12_layDoor : MK kX12_layDoor 3 := ⟨(mt 962 (by decide +kernel) rfl), (mt 14 (by decide +kernel) rfl), by decide +kernel, by decide +kernel, by decide +kernel, by decide⟩
abbrev kX12_door : MD := (yX12_door, cX12_door, 4, (some .int))
theorem mkX12_door : MK kX12_door 3 := ⟨(mt 947 (by decide +kernel) rfl), (mt 14 (by decide +kernel) rfl), by decide +kernel, by decide +kernel, by decide +kernel, by decide⟩
abbrev kX12_cat : MD := (yX12_cat, cX12_cat, 3, (some .int))
theorem mkX12_cat : MK kX12_cat 2 := ⟨(mt 966 (by decide +kernel) rfl), (mt 14 (by decide +kernel) rfl), by decide +kernel, by decide +kernel, by decide +kernel, by decide⟩
abbrev kX12_lay : MD := (yX12_lay, cX12_lay, 4, (some .int))
theorem mkX12_lay : MK kX12_lay 2 := ⟨(mt 970 (by decide +kernel) rfl), (mt 14 (by decide +kernel) rfl), by decide +kernel, by decide +kernel, by decide +kernel, by decide⟩
abbrev kX12_addPerson : MD := (yX12_addPerson, cX12_addPerson, 3, (some .int))
theorem mkX12_addPerson : MK kX12_addPerson 1 := ⟨(mt 983 (by decide +kernel) rfl), (mt 14 (by decide +kernel) rfl), by decide +kernel, by decide +kernel, by decide +kernel, by decide⟩
abbrev kX12_person : MD := (yX12_person, cX12_person, 2, (some .int))
theorem mkX12_person : MK kX12_person 1 := ⟨(mt 975 (by decide +kernel) rfl), (mt 14 (by decide +kernel) rfl), by decide +kernel, by decide +kernel, by decide +kernel, by decide⟩
abbrev kX12_law : MD := (yX12_law, cX12_law, 3, (some .int))
theorem mkX12_law : MK kX12_law 1 := ⟨(mt 987 (by decide +kernel) rfl), (mt 14 (by decide +kernel) rfl), by decide +kernel, by decide +kernel, by decide +kernel, by decide⟩
abbrev kX12_wish : MD := (yX12_wish, cX12_wish, 5, (some .int))
theorem mkX12_wish : MK kX12_wish 3 := ⟨(mt 992 (by decide +kernel) rfl), (mt 14 (by decide +kernel) rfl), by decide +kernel, by decide +kernel, by decide +kernel, by decide⟩
abbrev kX12_type : MD := (yX12_type, cX12_type, 5, (some .int))
theorem mkX12_type : MK kX12_type 2 := ⟨(mt 1000 (by decide +kernel) rfl), (mt 14 (by decide +kernel) rfl), by decide +kernel, by decide +kernel, by decide +kernel, by decide⟩
abbrev kX12_clear : MD := (yX12_clear, cX12_clear, 2, (some .int))
theorem mkX12_clear : MK kX12_clear 0 := ⟨(mt 1006 (by decide +kernel) rfl), (mt 14 (by decide +kernel) rfl), by decide +kernel, by decide +kernel, by decide +kernel, by decide⟩
abbrev kX12_sort : MD := (yX12_sort, cX12_sort, 1, (some .int))
theorem mkX12_sort : MK kX12_sort 1 := ⟨(mt 1021 (by decide +kernel) rfl), (mt 14 (by decide +kernel) rfl), by decide +kernel, by decide +kernel, by decide +kernel, by decide⟩
abbrev kX12_token : MD := (yX12_token, cX12_token, 1, none)
theorem mkX12_token : MK kX12_token 0 := ⟨(mt 1018 (by decide +kernel) rfl), (mt 14 (by decide +kernel) rfl), by decide +kernel, by decide +kernel, by decide +kernel, by decide⟩
abbrev kX12_isWord : MD := (yX12_isWord, cX12_isWord, 5, (some .boolean))
theorem mkX12_isWord : MK kX12_isWord 2 := ⟨(mt 1034 (by decide +kernel) rfl), (mt 14 (by decide +kernel) rfl), by decide +kernel, by decide +kernel, by decide +kernel, by decide⟩
abbrev kX12_wordOf : MD := (yX12_wordOf, cX12_wordOf, 1, (some .int))
theorem mkX12_wordOf : MK kX12_wordOf 0 := ⟨(mt 1029 (by decide +kernel) rfl), (mt 14 (by decide +kernel) rfl), by decide +kernel, by decide +kernel, by decide +kernel, by decide⟩
abbrev kX12_reads : MD := (yX12_reads, cX12_reads, 7, (some .boolean))
theorem mkX12_reads : MK kX12_reads 4 := ⟨(mt 1046 (by decide +kernel) rfl), (mt 14 (by decide +kernel) rfl), by decide +kernel, by decide +kernel, by decide +kernel, by decide⟩
abbrev kX12_readsRest : MD := (yX12_readsRest, cX12_readsRest, 3, (some .boolean))
theorem mkX12_readsRest : MK kX12_readsRest 1 := ⟨(mt 1042 (by decide +kernel) rfl), (mt 14 (by decide +kernel) rfl), by decide +kernel, by decide +kernel, by decide +kernel, by decide⟩
abbrev kX12_readsItem : MD := (yX12_readsItem, cX12_readsItem, 2, (some .boolean))
theorem mkX12_readsItem : MK kX12_readsItem 0 := ⟨(mt 1025 (by decide +kernel) rfl), (mt 14 (by decide +kernel) rfl), by decide +kernel, by decide +kernel, by decide +kernel, by decide⟩
abbrev kX12_fault : MD := (yX12_fault, cX12_fault, 2, (some .int))
theorem mkX12_fault : MK kX12_fault 0 := ⟨(mt 1014 (by decide +kernel) rfl), (mt 14 (by decide +kernel) rfl), by decide +kernel, by decide +kernel, by decide +kernel, by decide⟩
abbrev kX12_tell : MD := (yX12_tell, cX12_tell, 4, none)
theorem mkX12_tell : MK kX12_tell 1 := ⟨(mt 1050 (by decide +kernel) rfl), (mt 14 (by decide +kernel) rfl), by decide +kernel, by decide +kernel, by decide +kernel, by decide⟩
abbrev kX12_read : MD := (yX12_read, cX12_read, 3, (some .int))
theorem mkX12_read : MK kX12_read 0 := ⟨(mt 1010 (by decide +kernel) rfl), (mt 14 (by decide +kernel) rfl), by decide +kernel, by decide +kernel, by decide +kernel, by decide⟩
abbrev kX12_roomIn : MD := (yX12_roomIn, cX12_roomIn, 2, (some .int))
theorem mkX12_roomIn : MK kX12_roomIn 2 := ⟨(mt 1061 (by decide +kernel) rfl), (mt 14 (by decide +kernel) rfl), by decide +kernel, by decide +kernel, by decide +kernel, by decide⟩
abbrev kX12_isStanding : MD := (yX12_isStanding, cX12_isStanding, 4, (some .boolean))
theorem mkX12_isStanding : MK kX12_isStanding 1 := ⟨(mt 1058 (by decide +kernel) rfl), (mt 14 (by decide +kernel) rfl), by decide +kernel, by decide +kernel, by decide +kernel, by decide⟩
abbrev kX12_now : MD := (yX12_now, cX12_now, 3, (some .int))
theorem mkX12_now : MK kX12_now 0 := ⟨(mt 1065 (by decide +kernel) rfl), (mt 14 (by decide +kernel) rfl), by decide +kernel, by decide +kernel, by decide +kernel, by decide⟩
abbrev kX12_isAlone : MD := (yX12_isAlone, cX12_isAlone, 6, (some .boolean))
theorem mkX12_isAlone : MK kX12_isAlone 2 := ⟨(mt 1081 (by decide +kernel) rfl), (mt 14 (by decide +kernel) rfl), by decide +kernel, by decide +kernel, by decide +kernel, by decide⟩
abbrev kX12_mayGo : MD := (yX12_mayGo, cX12_mayGo, 7, (some .boolean))
theorem mkX12_mayGo : MK kX12_mayGo 2 := ⟨(mt 1069 (by decide +kernel) rfl), (mt 14 (by decide +kernel) rfl), by decide +kernel, by decide +kernel, by decide +kernel, by decide⟩
abbrev kX12_lays : MD := (yX12_lays, cX12_lays, 7, (some .boolean))
theorem mkX12_lays : MK kX12_lays 5 := ⟨(mt 1077 (by decide +kernel) rfl), (mt 14 (by decide +kernel) rfl), by decide +kernel, by decide +kernel, by decide +kernel, by decide⟩
abbrev kX12_laid : MD := (yX12_laid, cX12_laid, 7, (some .int))
theorem mkX12_laid : MK kX12_laid 4 := ⟨(mt 1138 (by decide +kernel) rfl), (mt 14 (by decide +kernel) rfl), by decide +kernel, by decide +kernel, by decide +kernel, by decide⟩
abbrev kX12_eldest : MD := (yX12_eldest, cX12_eldest, 7, (some .int))
theorem mkX12_eldest : MK kX12_eldest 5 := ⟨(mt 1089 (by decide +kernel) rfl), (mt 14 (by decide +kernel) rfl), by decide +kernel, by decide +kernel, by decide +kernel, by decide⟩
abbrev kX12_gather : MD := (yX12_gather, cX12_gather, 7, none)
theorem mkX12_gather : MK kX12_gather 3 := ⟨(mt 1085 (by decide +kernel) rfl), (mt 14 (by decide +kernel) rfl), by decide +kernel, by decide +kernel, by decide +kernel, by decide⟩
abbrev kX12_tryBeat : MD := (yX12_tryBeat, cX12_tryBeat, 6, (some .int))
theorem mkX12_tryBeat : MK kX12_tryBeat 2 := ⟨(mt 1073 (by decide +kernel) rfl), (mt 14 (by decide +kernel) rfl), by decide +kernel, by decide +kernel, by decide +kernel, by decide⟩
abbrev kX12_keepPast : MD := (yX12_keepPast, cX12_keepPast, 3, none)
theorem mkX12_keepPast : MK kX12_keepPast 0 := ⟨(mt 1093 (by decide +kernel) rfl), (mt 14 (by decide +kernel) rfl), by decide +kernel, by decide +kernel, by decide +kernel, by decide⟩
abbrev kX12_beat : MD := (yX12_beat, cX12_beat, 5, (some .int))
theorem mkX12_beat : MK kX12_beat 1 := ⟨(mt 1054 (by decide +kernel) rfl), (mt 14 (by decide +kernel) rfl), by decide +kernel, by decide +kernel, by decide +kernel, by decide⟩
abbrev kX12_undo : MD := (yX12_undo, cX12_undo, 3, (some .int))
theorem mkX12_undo : MK kX12_undo 0 := ⟨(mt 1097 (by decide +kernel) rfl), (mt 14 (by decide +kernel) rfl), by decide +kernel, by decide +kernel, by decide +kernel, by decide⟩
abbrev kX12_standing : MD := (yX12_standing, cX12_standing, 1, (some .int))
theorem mkX12_standing : MK kX12_standing 0 := ⟨(mt 1101 (by decide +kernel) rfl), (mt 14 (by decide +kernel) rfl), by decide +kernel, by decide +kernel, by decide +kernel, by decide⟩
abbrev kX12_sill : MD := (yX12_sill, cX12_sill, 2, (some .int))
theorem mkX12_sill : MK kX12_sill 1 := ⟨(mt 1105 (by decide +kernel) rfl), (mt 14 (by decide +kernel) rfl), by decide +kernel, by decide +kernel, by decide +kernel, by decide⟩
abbrev kX12_purse : MD := (yX12_purse, cX12_purse, 2, (some .int))
theorem mkX12_purse : MK kX12_purse 1 := ⟨(mt 1109 (by decide +kernel) rfl), (mt 14 (by decide +kernel) rfl), by decide +kernel, by decide +kernel, by decide +kernel, by decide⟩
abbrev kX12_alone : MD := (yX12_alone, cX12_alone, 2, (some .int))
theorem mkX12_alone : MK kX12_alone 1 := ⟨(mt 1114 (by decide +kernel) rfl), (mt 14 (by decide +kernel) rfl), by decide +kernel, by decide +kernel, by decide +kernel, by decide⟩
abbrev kX12_plan : MD := (yX12_plan, cX12_plan, 2, (some .int))
theorem mkX12_plan : MK kX12_plan 1 := ⟨(mt 1118 (by decide +kernel) rfl), (mt 14 (by decide +kernel) rfl), by decide +kernel, by decide +kernel, by decide +kernel, by decide⟩
abbrev kX12_scrap : MD := (yX12_scrap, cX12_scrap, 2, (some .int))
theorem mkX12_scrap : MK kX12_scrap 0 := ⟨(mt 1122 (by decide +kernel) rfl), (mt 14 (by decide +kernel) rfl), by decide +kernel, by decide +kernel, by decide +kernel, by decide⟩
abbrev kX12_firstWrong : MD := (yX12_firstWrong, cX12_firstWrong, 3, (some .int))
theorem mkX12_firstWrong : MK kX12_firstWrong 0 := ⟨(mt 1130 (by decide +kernel) rfl), (mt 14 (by decide +kernel) rfl), by decide +kernel, by decide +kernel, by decide +kernel, by decide⟩
abbrev kX12_judge : MD := (yX12_judge, cX12_judge, 1, (some .int))
theorem mkX12_judge : MK kX12_judge 0 := ⟨(mt 1126 (by decide +kernel) rfl), (mt 14 (by decide +kernel) rfl), by decide +kernel, by decide +kernel, by decide +kernel, by decide⟩
abbrev kX12_cost : MD := (yX12_cost, cX12_cost, 5, (some .int))
theorem mkX12_cost : MK kX12_cost 1 := ⟨(mt 1134 (by decide +kernel) rfl), (mt 14 (by decide +kernel) rfl), by decide +kernel, by decide +kernel, by decide +kernel, by decide⟩
abbrev kX12_standingOf : MD := (yX12_standingOf, cX12_standingOf, 6, (some .int))
theorem mkX12_standingOf : MK kX12_standingOf 1 := ⟨(mt 1154 (by decide +kernel) rfl), (mt 14 (by decide +kernel) rfl), by decide +kernel, by decide +kernel, by decide +kernel, by decide⟩
abbrev kX12_standings : MD := (yX12_standings, cX12_standings, 3, (some .int))
theorem mkX12_standings : MK kX12_standings 0 := ⟨(mt 1150 (by decide +kernel) rfl), (mt 14 (by decide +kernel) rfl), by decide +kernel, by decide +kernel, by decide +kernel, by decide⟩
abbrev kX12_keepsWishes : MD := (yX12_keepsWishes, cX12_keepsWishes, 6, (some .boolean))
theorem mkX12_keepsWishes : MK kX12_keepsWishes 2 := ⟨(mt 1163 (by decide +kernel) rfl), (mt 14 (by decide +kernel) rfl), by decide +kernel, by decide +kernel, by decide +kernel, by decide⟩
abbrev kX12_by : MD := (yX12_by, cX12_by, 5, (some .int))
theorem mkX12_by : MK kX12_by 3 := ⟨(mt 1159 (by decide +kernel) rfl), (mt 14 (by decide +kernel) rfl), by decide +kernel, by decide +kernel, by decide +kernel, by decide⟩
abbrev kX12_layCosts : MD := (yX12_layCosts, cX12_layCosts, 9, none)
theorem mkX12_layCosts : MK kX12_layCosts 1 := ⟨(mt 1146 (by decide +kernel) rfl), (mt 14 (by decide +kernel) rfl), by decide +kernel, by decide +kernel, by decide +kernel, by decide⟩
abbrev kX12_firstOf : MD := (yX12_firstOf, cX12_firstOf, 4, (some .int))
theorem mkX12_firstOf : MK kX12_firstOf 2 := ⟨(mt 1167 (by decide +kernel) rfl), (mt 14 (by decide +kernel) rfl), by decide +kernel, by decide +kernel, by decide +kernel, by decide⟩
abbrev kX12_least : MD := (yX12_least, cX12_least, 6, (some .int))
theorem mkX12_least : MK kX12_least 2 := ⟨(mt 1142 (by decide +kernel) rfl), (mt 14 (by decide +kernel) rfl), by decide +kernel, by decide +kernel, by decide +kernel, by decide⟩
abbrev kX12_fewest : MD := (yX12_fewest, cX12_fewest, 10, (some .int))
theorem mkX12_fewest : MK kX12_fewest 1 := ⟨(mt 1171 (by decide +kernel) rfl), (mt 14 (by decide +kernel) rfl), by decide +kernel, by decide +kernel, by decide +kernel, by decide⟩
abbrev kX12_quiet : MD := (yX12_quiet, cX12_quiet, 6, (some .int))
theorem mkX12_quiet : MK kX12_quiet 0 := ⟨(mt 1175 (by decide +kernel) rfl), (mt 14 (by decide +kernel) rfl), by decide +kernel, by decide +kernel, by decide +kernel, by decide⟩
abbrev kX12_liesOn : MD := (yX12_liesOn, cX12_liesOn, 10, (some .int))
theorem mkX12_liesOn : MK kX12_liesOn 3 := ⟨(mt 1184 (by decide +kernel) rfl), (mt 14 (by decide +kernel) rfl), by decide +kernel, by decide +kernel, by decide +kernel, by decide⟩
abbrev kX12_picks : MD := (yX12_picks, cX12_picks, 11, (some .int))
theorem mkX12_picks : MK kX12_picks 3 := ⟨(mt 1179 (by decide +kernel) rfl), (mt 14 (by decide +kernel) rfl), by decide +kernel, by decide +kernel, by decide +kernel, by decide⟩
abbrev kX12_figure : MD := (yX12_figure, cX12_figure, 4, (some .int))
theorem mkX12_figure : MK kX12_figure 2 := ⟨(mt 1187 (by decide +kernel) rfl), (mt 14 (by decide +kernel) rfl), by decide +kernel, by decide +kernel, by decide +kernel, by decide⟩
abbrev kX12_copy : MD := (yX12_copy, cX12_copy, 4, none)
theorem mkX12_copy : MK kX12_copy 2 := ⟨(mt 1199 (by decide +kernel) rfl), (mt 14 (by decide +kernel) rfl), by decide +kernel, by decide +kernel, by decide +kernel, by decide⟩
abbrev kX12_joinTwo : MD := (yX12_joinTwo, cX12_joinTwo, 6, none)
theorem mkX12_joinTwo : MK kX12_joinTwo 2 := ⟨(mt 1203 (by decide +kernel) rfl), (mt 14 (by decide +kernel) rfl), by decide +kernel, by decide +kernel, by decide +kernel, by decide⟩
abbrev kX12_leastBy : MD := (yX12_leastBy, cX12_leastBy, 2, (some .int))
theorem mkX12_leastBy : MK kX12_leastBy 1 := ⟨(mt 1195 (by decide +kernel) rfl), (mt 14 (by decide +kernel) rfl), by decide +kernel, by decide +kernel, by decide +kernel, by decide⟩
abbrev kX12_join : MD := (yX12_join, cX12_join, 8, (some .int))
theorem mkX12_join : MK kX12_join 1 := ⟨(mt 1191 (by decide +kernel) rfl), (mt 14 (by decide +kernel) rfl), by decide +kernel, by decide +kernel, by decide +kernel, by decide⟩
abbrev kX12_spy : MD := (yX12_spy, cX12_spy, 4, (some .int))
theorem mkX12_spy : MK kX12_spy 2 := ⟨(mt 1207 (by decide +kernel) rfl), (mt 14 (by decide +kernel) rfl), by decide +kernel, by decide +kernel, by decide +kernel, by decide⟩
abbrev kX12_isSoBy : MD := (yX12_isSoBy, cX12_isSoBy, 5, (some .boolean))
theorem mkX12_isSoBy : MK kX12_isSoBy 2 := ⟨(mt 1216 (by decide +kernel) rfl), (mt 14 (by decide +kernel) rfl), by decide +kernel, by decide +kernel, by decide +kernel, by decide⟩
abbrev kX12_fits : MD := (yX12_fits, cX12_fits, 4, (some .int))
theorem mkX12_fits : MK kX12_fits 0 := ⟨(mt 1212 (by decide +kernel) rfl), (mt 14 (by decide +kernel) rfl), by decide +kernel, by decide +kernel, by decide +kernel, by decide⟩
abbrev kX12_was : MD := (yX12_was, cX12_was, 7, (some .int))
theorem mkX12_was : MK kX12_was 2 := ⟨(mt 1220 (by decide +kernel) rfl), (mt 14 (by decide +kernel) rfl), by decide +kernel, by decide +kernel, by decide +kernel, by decide⟩
abbrev kX12_rent : MD := (yX12_rent, cX12_rent, 4, (some .int))
theorem mkX12_rent : MK kX12_rent 2 := ⟨(mt 1224 (by decide +kernel) rfl), (mt 14 (by decide +kernel) rfl), by decide +kernel, by decide +kernel, by decide +kernel, by decide⟩
abbrev kX12_drawn : MD := (yX12_drawn, cX12_drawn, 14, (some .int))
theorem mkX12_drawn : MK kX12_drawn 3 := ⟨(mt 1229 (by decide +kernel) rfl), (mt 14 (by decide +kernel) rfl), by decide +kernel, by decide +kernel, by decide +kernel, by decide⟩
abbrev kX12_image : MD := (yX12_image, cX12_image, 2, (some .int))
theorem mkX12_image : MK kX12_image 1 := ⟨(mt 1242 (by decide +kernel) rfl), (mt 14 (by decide +kernel) rfl), by decide +kernel, by decide +kernel, by decide +kernel, by decide⟩
abbrev kX12_from : MD := (yX12_from, cX12_from, 2, (some .int))
theorem mkX12_from : MK kX12_from 1 := ⟨(mt 1246 (by decide +kernel) rfl), (mt 14 (by decide +kernel) rfl), by decide +kernel, by decide +kernel, by decide +kernel, by decide⟩
abbrev kX12_status : MD := (yX12_status, cX12_status, 2, (some .int))
theorem mkX12_status : MK kX12_status 1 := ⟨(mt 1250 (by decide +kernel) rfl), (mt 14 (by decide +kernel) rfl), by decide +kernel, by decide +kernel, by decide +kernel, by decide⟩
abbrev kX12_countOf : MD := (yX12_countOf, cX12_countOf, 4, (some .int))
theorem mkX12_countOf : MK kX12_countOf 1 := ⟨(mt 1260 (by decide +kernel) rfl), (mt 14 (by decide +kernel) rfl), by decide +kernel, by decide +kernel, by decide +kernel, by decide⟩
abbrev kX12_count : MD := (yX12_count, cX12_count, 2, (some .int))
theorem mkX12_count : MK kX12_count 1 := ⟨(mt 1255 (by decide +kernel) rfl), (mt 14 (by decide +kernel) rfl), by decide +kernel, by decide +kernel, by decide +kernel, by decide⟩
abbrev kX12_digest : MD := (yX12_digest, cX12_digest, 5, (some .long))
theorem mkX12_digest : MK kX12_digest 0 := ⟨(mt 1264 (by decide +kernel) rfl), (mt 14 (by decide +kernel) rfl), by decide +kernel, by decide +kernel, by decide +kernel, by decide⟩
abbrev kJ6_numberOfTrailingZeros_0f7a4 : MD := (yJ6_numberOfTrailingZeros_0f7a4, cJ6_numberOfTrailingZeros_0f7a4, 2, (some .int))
theorem mkJ6_numberOfTrailingZeros_0f7a4 : MK kJ6_numberOfTrailingZeros_0f7a4 1 := ⟨(mt 677 (by decide +kernel) rfl), (mt 20 (by decide +kernel) rfl), by decide +kernel, by decide +kernel, by decide +kernel, by decide⟩
abbrev kJ6_bitCount_0f7a4 : MD := (yJ6_bitCount_0f7a4, cJ6_bitCount_0f7a4, 1, (some .int))
theorem mkJ6_bitCount_0f7a4 : MK kJ6_bitCount_0f7a4 1 := ⟨(mt 602 (by decide +kernel) rfl), (mt 20 (by decide +kernel) rfl), by decide +kernel, by decide +kernel, by decide +kernel, by decide⟩
abbrev kJ9_max_7cf53 : MD := (yJ9_max_7cf53, cJ9_max_7cf53, 2, (some .int))
theorem mkJ9_max_7cf53 : MK kJ9_max_7cf53 2 := ⟨(mt 747 (by decide +kernel) rfl), (mt 21 (by decide +kernel) rfl), by decide +kernel, by decide +kernel, by decide +kernel, by decide⟩
abbrev kJ9_min_7cf53 : MD := (yJ9_min_7cf53, cJ9_min_7cf53, 2, (some .int))
theorem mkJ9_min_7cf53 : MK kJ9_min_7cf53 2 := ⟨(mt 715 (by decide +kernel) rfl), (mt 21 (by decide +kernel) rfl), by decide +kernel, by decide +kernel, by decide +kernel, by decide⟩
abbrev kJ0_length_8abf5 : MD := (yJ0_length_8abf5, cJ0_length_8abf5, 1, (some .int))
theorem mkJ0_length_8abf5 : MK kJ0_length_8abf5 0 := ⟨(mt 451 (by decide +kernel) rfl), (mt 15 (by decide +kernel) rfl), by decide +kernel, by decide +kernel, by decide +kernel, by decide⟩
abbrev kJ0_charAt_5068e : MD := (yJ0_charAt_5068e, cJ0_charAt_5068e, 2, (some .char))
theorem mkJ0_charAt_5068e : MK kJ0_charAt_5068e 1 := ⟨(mt 461 (by decide +kernel) rfl), (mt 15 (by decide +kernel) rfl), by decide +kernel, by decide +kernel, by decide +kernel, by decide⟩
abbrev kJ0_coder_7d493 : MD := (yJ0_coder_7d493, cJ0_coder_7d493, 1, (some .byte))
theorem mkJ0_coder_7d493 : MK kJ0_coder_7d493 0 := ⟨(mt 455 (by decide +kernel) rfl), (mt 15 (by decide +kernel) rfl), by decide +kernel, by decide +kernel, by decide +kernel, by decide⟩
abbrev kJ0_isLatin1_aae02 : MD := (yJ0_isLatin1_aae02, cJ0_isLatin1_aae02, 1, (some .boolean))
theorem mkJ0_isLatin1_aae02 : MK kJ0_isLatin1_aae02 0 := ⟨(mt 465 (by decide +kernel) rfl), (mt 15 (by decide +kernel) rfl), by decide +kernel, by decide +kernel, by decide +kernel, by decide⟩
abbrev kJ0_checkIndex_df160 : MD := (yJ0_checkIndex_df160, cJ0_checkIndex_df160, 2, none)
theorem mkJ0_checkIndex_df160 : MK kJ0_checkIndex_df160 2 := ⟨(mt 471 (by decide +kernel) rfl), (mt 15 (by decide +kernel) rfl), by decide +kernel, by decide +kernel, by decide +kernel, by decide⟩
abbrev kJ1_charAt_3b067 : MD := (yJ1_charAt_3b067, cJ1_charAt_3b067, 2, (some .char))
theorem mkJ1_charAt_3b067 : MK kJ1_charAt_3b067 2 := ⟨(mt 468 (by decide +kernel) rfl), (mt 16 (by decide +kernel) rfl), by decide +kernel, by decide +kernel, by decide +kernel, by decide⟩
abbrev kJ2_getChar_3b067 : MD := (yJ2_getChar_3b067, cJ2_getChar_3b067, 2, (some .char))
theorem mkJ2_getChar_3b067 : MK kJ2_getChar_3b067 2 := ⟨(mt 489 (by decide +kernel) rfl), (mt 18 (by decide +kernel) rfl), by decide +kernel, by decide +kernel, by decide +kernel, by decide⟩
abbrev kJ2_length_9d52b : MD := (yJ2_length_9d52b, cJ2_length_9d52b, 1, (some .int))
theorem mkJ2_length_9d52b : MK kJ2_length_9d52b 1 := ⟨(mt 485 (by decide +kernel) rfl), (mt 18 (by decide +kernel) rfl), by decide +kernel, by decide +kernel, by decide +kernel, by decide⟩
abbrev kJ2_charAt_3b067 : MD := (yJ2_charAt_3b067, cJ2_charAt_3b067, 2, (some .char))
theorem mkJ2_charAt_3b067 : MK kJ2_charAt_3b067 2 := ⟨(mt 479 (by decide +kernel) rfl), (mt 18 (by decide +kernel) rfl), by decide +kernel, by decide +kernel, by decide +kernel, by decide⟩
abbrev kJ2_checkIndex_2214a : MD := (yJ2_checkIndex_2214a, cJ2_checkIndex_2214a, 2, none)
theorem mkJ2_checkIndex_2214a : MK kJ2_checkIndex_2214a 2 := ⟨(mt 482 (by decide +kernel) rfl), (mt 18 (by decide +kernel) rfl), by decide +kernel, by decide +kernel, by decide +kernel, by decide⟩
abbrev kJ7_fill_53178 : MD := (yJ7_fill_53178, cJ7_fill_53178, 4, none)
theorem mkJ7_fill_53178 : MK kJ7_fill_53178 2 := ⟨(mt 38 (by decide +kernel) rfl), (mt 3 (by decide +kernel) rfl), by decide +kernel, by decide +kernel, by decide +kernel, by decide⟩
abbrev kJ3_checkIndex_8e157 : MD := (yJ3_checkIndex_8e157, cJ3_checkIndex_8e157, 3, (some .int))
theorem mkJ3_checkIndex_8e157 : MK kJ3_checkIndex_8e157 3 := ⟨(mt 476 (by decide +kernel) rfl), (mt 17 (by decide +kernel) rfl), by decide +kernel, by decide +kernel, by decide +kernel, by decide⟩
theorem msX4_37 : MS RX4 37 kJ7_fill_53178 2 := ⟨mkJ7_fill_53178, (mt 36 (by decide +kernel) rfl), (mt 37 (by decide +kernel) rfl)⟩
theorem mvL_13 : MV RL 13 11 kX11_rooms 1 := ⟨mkX11_rooms, (mt 349 (by decide +kernel) rfl), (mt 350 (by decide +kernel) rfl), (mt 351 (by decide +kernel) rfl), ⟨TX11, 13, rfl⟩, by decide⟩
theorem mvX11_81 : MV RX11 81 11 kX11_refuse 1 := ⟨mkX11_refuse, (mt 353 (by decide +kernel) rfl), (mt 355 (by decide +kernel) rfl), (mps 0 (by decide +kernel) rfl), ⟨TX11, 13, rfl⟩, by decide⟩
theorem mvX11_89 : MV RX11 89 4 kX4_empty 1 := ⟨mkX4_empty, (mt 357 (by decide +kernel) rfl), (mt 358 (by decide +kernel) rfl), (mt 359 (by decide +kernel) rfl), ⟨TX4, 15, rfl⟩, by decide⟩
theorem mvL_18 : MV RL 18 11 kX11_door 3 := ⟨mkX11_door, (mt 361 (by decide +kernel) rfl), (mt 362 (by decide +kernel) rfl), (mt 363 (by decide +kernel) rfl), ⟨TX11, 13, rfl⟩, by decide⟩
theorem mvX11_93 : MV RX11 93 11 kX11_isRoom 1 := ⟨mkX11_isRoom, (mt 365 (by decide +kernel) rfl), (mt 367 (by decide +kernel) rfl), (mps 1 (by decide +kernel) rfl), ⟨TX11, 13, rfl⟩, by decide⟩
theorem msX11_101 : MS RX11 101 kX11_has 2 := ⟨mkX11_has, (mt 369 (by decide +kernel) rfl), (mt 370 (by decide +kernel) rfl)⟩
theorem mvL_23 : MV RL 23 11 kX11_cat 2 := ⟨mkX11_cat, (mt 372 (by decide +kernel) rfl), (mt 373 (by decide +kernel) rfl), (mt 374 (by decide +kernel) rfl), ⟨TX11, 13, rfl⟩, by decide⟩
theorem mvL_28 : MV RL 28 11 kX11_lay 2 := ⟨mkX11_lay, (mt 376 (by decide +kernel) rfl), (mt 377 (by decide +kernel) rfl), (mt 378 (by decide +kernel) rfl), ⟨TX11, 13, rfl⟩, by decide⟩
theorem mvL_33 : MV RL 33 11 kX11_person 1 := ⟨mkX11_person, (mt 380 (by decide +kernel) rfl), (mt 381 (by decide +kernel) rfl), (mt 382 (by decide +kernel) rfl), ⟨TX11, 13, rfl⟩, by decide⟩
theorem mvX11_114 : MV RX11 114 4 kX4_enter 1 := ⟨mkX4_enter, (mt 384 (by decide +kernel) rfl), (mt 385 (by decide +kernel) rfl), (mt 386 (by decide +kernel) rfl), ⟨TX4, 15, rfl⟩, by decide⟩
theorem mvL_37 : MV RL 37 11 kX11_law 1 := ⟨mkX11_law, (mt 388 (by decide +kernel) rfl), (mt 389 (by decide +kernel) rfl), (mt 390 (by decide +kernel) rfl), ⟨TX11, 13, rfl⟩, by decide⟩
theorem mvX11_117 : MV RX11 117 11 kX11_isLaw 1 := ⟨mkX11_isLaw, (mt 392 (by decide +kernel) rfl), (mt 394 (by decide +kernel) rfl), (mps 2 (by decide +kernel) rfl), ⟨TX11, 13, rfl⟩, by decide⟩
theorem mvL_41 : MV RL 41 11 kX11_wish 3 := ⟨mkX11_wish, (mt 396 (by decide +kernel) rfl), (mt 397 (by decide +kernel) rfl), (mt 398 (by decide +kernel) rfl), ⟨TX11, 13, rfl⟩, by decide⟩
theorem mvX11_123 : MV RX11 123 11 kX11_isPerson 1 := ⟨mkX11_isPerson, (mt 400 (by decide +kernel) rfl), (mt 402 (by decide +kernel) rfl), (mps 3 (by decide +kernel) rfl), ⟨TX11, 13, rfl⟩, by decide⟩
theorem msX11_126 : MS RX11 126 kX11_wishPlace 2 := ⟨mkX11_wishPlace, (mt 404 (by decide +kernel) rfl), (mt 405 (by decide +kernel) rfl)⟩
theorem mvL_48 : MV RL 48 11 kX11_type 2 := ⟨mkX11_type, (mt 407 (by decide +kernel) rfl), (mt 408 (by decide +kernel) rfl), (mt 409 (by decide +kernel) rfl), ⟨TX11, 13, rfl⟩, by decide⟩
theorem mvX11_136 : MV RX11 136 8 kX8_add 2 := ⟨mkX8_add, (mt 411 (by decide +kernel) rfl), (mt 412 (by decide +kernel) rfl), (mt 413 (by decide +kernel) rfl), ⟨TX8, 7, rfl⟩, by decide⟩
theorem mvL_53 : MV RL 53 11 kX11_clear 0 := ⟨mkX11_clear, (mt 415 (by decide +kernel) rfl), (mt 416 (by decide +kernel) rfl), (mt 417 (by decide +kernel) rfl), ⟨TX11, 13, rfl⟩, by decide⟩
theorem mvL_58 : MV RL 58 11 kX11_read 0 := ⟨mkX11_read, (mt 419 (by decide +kernel) rfl), (mt 420 (by decide +kernel) rfl), (mt 421 (by decide +kernel) rfl), ⟨TX11, 13, rfl⟩, by decide⟩
theorem mvX11_140 : MV RX11 140 8 kX8_parse 1 := ⟨mkX8_parse, (mt 423 (by decide +kernel) rfl), (mt 424 (by decide +kernel) rfl), (mt 425 (by decide +kernel) rfl), ⟨TX8, 7, rfl⟩, by decide⟩
theorem mvX8_25 : MV RX8 25 8 kX8_advance 0 := ⟨mkX8_advance, (mt 427 (by decide +kernel) rfl), (mt 429 (by decide +kernel) rfl), (mps 4 (by decide +kernel) rfl), ⟨TX8, 7, rfl⟩, by decide⟩
theorem mvX8_81 : MV RX8 81 8 kX8_isWithin 3 := ⟨mkX8_isWithin, (mt 431 (by decide +kernel) rfl), (mt 433 (by decide +kernel) rfl), (mps 5 (by decide +kernel) rfl), ⟨TX8, 7, rfl⟩, by decide⟩
theorem mvX8_85 : MV RX8 85 8 kX8_endOf 2 := ⟨mkX8_endOf, (mt 435 (by decide +kernel) rfl), (mt 437 (by decide +kernel) rfl), (mps 6 (by decide +kernel) rfl), ⟨TX8, 7, rfl⟩, by decide⟩
theorem mvX8_89 : MV RX8 89 8 kX8_wordToken 0 := ⟨mkX8_wordToken, (mt 439 (by decide +kernel) rfl), (mt 441 (by decide +kernel) rfl), (mps 7 (by decide +kernel) rfl), ⟨TX8, 7, rfl⟩, by decide⟩
theorem mvX8_98 : MV RX8 98 8 kX8_spells 1 := ⟨mkX8_spells, (mt 444 (by decide +kernel) rfl), (mt 446 (by decide +kernel) rfl), (mps 8 (by decide +kernel) rfl), ⟨TX8, 7, rfl⟩, by decide⟩
theorem msJ0_495 : MS RJ0 495 kJ1_charAt_3b067 2 := ⟨mkJ1_charAt_3b067, (mt 466 (by decide +kernel) rfl), (mt 467 (by decide +kernel) rfl)⟩
theorem msJ1_9 : MS RJ1 9 kJ0_checkIndex_df160 2 := ⟨mkJ0_checkIndex_df160, (mt 469 (by decide +kernel) rfl), (mt 470 (by decide +kernel) rfl)⟩
theorem msJ0_1059 : MS RJ0 1059 kJ3_checkIndex_8e157 3 := ⟨mkJ3_checkIndex_8e157, (mt 474 (by decide +kernel) rfl), (mt 475 (by decide +kernel) rfl)⟩
theorem msJ0_498 : MS RJ0 498 kJ2_charAt_3b067 2 := ⟨mkJ2_charAt_3b067, (mt 477 (by decide +kernel) rfl), (mt 478 (by decide +kernel) rfl)⟩
theorem msJ2_67 : MS RJ2 67 kJ2_checkIndex_2214a 2 := ⟨mkJ2_checkIndex_2214a, (mt 480 (by decide +kernel) rfl), (mt 481 (by decide +kernel) rfl)⟩
theorem msJ2_48 : MS RJ2 48 kJ2_length_9d52b 1 := ⟨mkJ2_length_9d52b, (mt 483 (by decide +kernel) rfl), (mt 484 (by decide +kernel) rfl)⟩
theorem msJ2_414 : MS RJ2 414 kJ0_checkIndex_df160 2 := ⟨mkJ0_checkIndex_df160, (mt 486 (by decide +kernel) rfl), (mt 470 (by decide +kernel) rfl)⟩
theorem msJ2_71 : MS RJ2 71 kJ2_getChar_3b067 2 := ⟨mkJ2_getChar_3b067, (mt 487 (by decide +kernel) rfl), (mt 488 (by decide +kernel) rfl)⟩
theorem mvX8_93 : MV RX8 93 8 kX8_numberToken 0 := ⟨mkX8_numberToken, (mt 502 (by decide +kernel) rfl), (mt 504 (by decide +kernel) rfl), (mps 9 (by decide +kernel) rfl), ⟨TX8, 7, rfl⟩, by decide⟩
theorem mvX8_34 : MV RX8 34 8 kX8_takeNumber 2 := ⟨mkX8_takeNumber, (mt 506 (by decide +kernel) rfl), (mt 508 (by decide +kernel) rfl), (mps 10 (by decide +kernel) rfl), ⟨TX8, 7, rfl⟩, by decide⟩
theorem mvX8_38 : MV RX8 38 4 kX4_empty 1 := ⟨mkX4_empty, (mt 510 (by decide +kernel) rfl), (mt 358 (by decide +kernel) rfl), (mt 359 (by decide +kernel) rfl), ⟨TX4, 15, rfl⟩, by decide⟩
theorem mvX8_44 : MV RX8 44 8 kX8_takeStop 0 := ⟨mkX8_takeStop, (mt 511 (by decide +kernel) rfl), (mt 513 (by decide +kernel) rfl), (mps 11 (by decide +kernel) rfl), ⟨TX8, 7, rfl⟩, by decide⟩
theorem mvX8_47 : MV RX8 47 8 kX8_takeItem 1 := ⟨mkX8_takeItem, (mt 515 (by decide +kernel) rfl), (mt 517 (by decide +kernel) rfl), (mps 12 (by decide +kernel) rfl), ⟨TX8, 7, rfl⟩, by decide⟩
theorem mvX8_66 : MV RX8 66 4 kX4_enter 1 := ⟨mkX4_enter, (mt 519 (by decide +kernel) rfl), (mt 385 (by decide +kernel) rfl), (mt 386 (by decide +kernel) rfl), ⟨TX4, 15, rfl⟩, by decide⟩
theorem mnX8_69 : MN RX8 69 kX11_wishPlace 2 := ⟨mkX11_wishPlace, ⟨"AloneRooms", mtn 520 (by decide +kernel) rfl⟩, (mt 405 (by decide +kernel) rfl)⟩
theorem mvX11_144 : MV RX11 144 4 kX4_copy 1 := ⟨mkX4_copy, (mt 521 (by decide +kernel) rfl), (mt 522 (by decide +kernel) rfl), (mt 523 (by decide +kernel) rfl), ⟨TX4, 15, rfl⟩, by decide⟩
theorem maX4_64 : MA RX4 64 := ⟨(mt 525 (by decide +kernel) rfl), (mt 527 (by decide +kernel) rfl), (mt 526 (by decide +kernel) rfl), (mt 19 (by decide +kernel) rfl)⟩
theorem mvL_62 : MV RL 62 11 kX11_beat 1 := ⟨mkX11_beat, (mt 529 (by decide +kernel) rfl), (mt 530 (by decide +kernel) rfl), (mt 531 (by decide +kernel) rfl), ⟨TX11, 13, rfl⟩, by decide⟩
theorem mvX11_148 : MV RX11 148 11 kX11_isStanding 1 := ⟨mkX11_isStanding, (mt 533 (by decide +kernel) rfl), (mt 535 (by decide +kernel) rfl), (mps 13 (by decide +kernel) rfl), ⟨TX11, 13, rfl⟩, by decide⟩
theorem msX11_243 : MS RX11 243 kX11_roomOf 2 := ⟨mkX11_roomOf, (mt 537 (by decide +kernel) rfl), (mt 538 (by decide +kernel) rfl)⟩
theorem mvX11_154 : MV RX11 154 4 kX4_canGo 2 := ⟨mkX4_canGo, (mt 540 (by decide +kernel) rfl), (mt 541 (by decide +kernel) rfl), (mt 542 (by decide +kernel) rfl), ⟨TX4, 15, rfl⟩, by decide⟩
theorem mnX4_76 : MN RX4 76 kX11_roomOf 2 := ⟨mkX11_roomOf, ⟨"AloneRooms", mtn 544 (by decide +kernel) rfl⟩, (mt 538 (by decide +kernel) rfl)⟩
theorem mvX4_80 : MV RX4 80 4 kX4_reach 1 := ⟨mkX4_reach, (mt 545 (by decide +kernel) rfl), (mt 546 (by decide +kernel) rfl), (mt 547 (by decide +kernel) rfl), ⟨TX4, 15, rfl⟩, by decide⟩
theorem mnX4_83 : MN RX4 83 kX11_has 2 := ⟨mkX11_has, ⟨"AloneRooms", mtn 549 (by decide +kernel) rfl⟩, (mt 370 (by decide +kernel) rfl)⟩
theorem mvX11_157 : MV RX11 157 4 kX4_remember 0 := ⟨mkX4_remember, (mt 550 (by decide +kernel) rfl), (mt 551 (by decide +kernel) rfl), (mt 552 (by decide +kernel) rfl), ⟨TX4, 15, rfl⟩, by decide⟩
theorem mvX11_160 : MV RX11 160 4 kX4_go 2 := ⟨mkX4_go, (mt 554 (by decide +kernel) rfl), (mt 555 (by decide +kernel) rfl), (mt 556 (by decide +kernel) rfl), ⟨TX4, 15, rfl⟩, by decide⟩
theorem mvX4_87 : MV RX4 87 4 kX4_lone 1 := ⟨mkX4_lone, (mt 558 (by decide +kernel) rfl), (mt 559 (by decide +kernel) rfl), (mt 560 (by decide +kernel) rfl), ⟨TX4, 15, rfl⟩, by decide⟩
theorem mvX4_108 : MV RX4 108 4 kX4_payers 6 := ⟨mkX4_payers, (mt 562 (by decide +kernel) rfl), (mt 563 (by decide +kernel) rfl), (mt 564 (by decide +kernel) rfl), ⟨TX4, 15, rfl⟩, by decide⟩
theorem mvX4_112 : MV RX4 112 4 kX4_gather 3 := ⟨mkX4_gather, (mt 585 (by decide +kernel) rfl), (mt 587 (by decide +kernel) rfl), (mps 14 (by decide +kernel) rfl), ⟨TX4, 15, rfl⟩, by decide⟩
theorem msX4_70 : MS RX4 70 kJ6_bitCount_0f7a4 1 := ⟨mkJ6_bitCount_0f7a4, (mt 600 (by decide +kernel) rfl), (mt 601 (by decide +kernel) rfl)⟩
theorem mvL_66 : MV RL 66 11 kX11_undo 0 := ⟨mkX11_undo, (mt 606 (by decide +kernel) rfl), (mt 607 (by decide +kernel) rfl), (mt 608 (by decide +kernel) rfl), ⟨TX11, 13, rfl⟩, by decide⟩
theorem mvX11_167 : MV RX11 167 4 kX4_goBack 0 := ⟨mkX4_goBack, (mt 610 (by decide +kernel) rfl), (mt 611 (by decide +kernel) rfl), (mt 612 (by decide +kernel) rfl), ⟨TX4, 15, rfl⟩, by decide⟩
theorem mvL_70 : MV RL 70 11 kX11_standing 0 := ⟨mkX11_standing, (mt 614 (by decide +kernel) rfl), (mt 615 (by decide +kernel) rfl), (mt 616 (by decide +kernel) rfl), ⟨TX11, 13, rfl⟩, by decide⟩
theorem mvL_74 : MV RL 74 11 kX11_sill 1 := ⟨mkX11_sill, (mt 618 (by decide +kernel) rfl), (mt 619 (by decide +kernel) rfl), (mt 620 (by decide +kernel) rfl), ⟨TX11, 13, rfl⟩, by decide⟩
theorem mvL_78 : MV RL 78 11 kX11_purse 1 := ⟨mkX11_purse, (mt 622 (by decide +kernel) rfl), (mt 623 (by decide +kernel) rfl), (mt 624 (by decide +kernel) rfl), ⟨TX11, 13, rfl⟩, by decide⟩
theorem mvL_82 : MV RL 82 11 kX11_alone 1 := ⟨mkX11_alone, (mt 627 (by decide +kernel) rfl), (mt 628 (by decide +kernel) rfl), (mt 629 (by decide +kernel) rfl), ⟨TX11, 13, rfl⟩, by decide⟩
theorem mvX11_174 : MV RX11 174 4 kX4_lone 1 := ⟨mkX4_lone, (mt 631 (by decide +kernel) rfl), (mt 559 (by decide +kernel) rfl), (mt 560 (by decide +kernel) rfl), ⟨TX4, 15, rfl⟩, by decide⟩
theorem mvL_86 : MV RL 86 11 kX11_plan 1 := ⟨mkX11_plan, (mt 632 (by decide +kernel) rfl), (mt 633 (by decide +kernel) rfl), (mt 634 (by decide +kernel) rfl), ⟨TX11, 13, rfl⟩, by decide⟩
theorem mvL_90 : MV RL 90 11 kX11_scrap 0 := ⟨mkX11_scrap, (mt 636 (by decide +kernel) rfl), (mt 637 (by decide +kernel) rfl), (mt 638 (by decide +kernel) rfl), ⟨TX11, 13, rfl⟩, by decide⟩
theorem mvL_94 : MV RL 94 11 kX11_judge 0 := ⟨mkX11_judge, (mt 640 (by decide +kernel) rfl), (mt 641 (by decide +kernel) rfl), (mt 642 (by decide +kernel) rfl), ⟨TX11, 13, rfl⟩, by decide⟩
theorem mvL_98 : MV RL 98 11 kX11_cost 1 := ⟨mkX11_cost, (mt 644 (by decide +kernel) rfl), (mt 645 (by decide +kernel) rfl), (mt 646 (by decide +kernel) rfl), ⟨TX11, 13, rfl⟩, by decide⟩
theorem mvX11_183 : MV RX11 183 11 kX11_judge 0 := ⟨mkX11_judge, (mt 648 (by decide +kernel) rfl), (mt 641 (by decide +kernel) rfl), (mt 642 (by decide +kernel) rfl), ⟨TX11, 13, rfl⟩, by decide⟩
theorem mvL_102 : MV RL 102 11 kX11_least 2 := ⟨mkX11_least, (mt 649 (by decide +kernel) rfl), (mt 650 (by decide +kernel) rfl), (mt 651 (by decide +kernel) rfl), ⟨TX11, 13, rfl⟩, by decide⟩
theorem mvX11_187 : MV RX11 187 2 kX2_weigh 3 := ⟨mkX2_weigh, (mt 653 (by decide +kernel) rfl), (mt 654 (by decide +kernel) rfl), (mt 655 (by decide +kernel) rfl), ⟨TX2, 11, rfl⟩, by decide⟩
theorem mvX2_51 : MV RX2 51 4 kX4_markLone 2 := ⟨mkX4_markLone, (mt 657 (by decide +kernel) rfl), (mt 658 (by decide +kernel) rfl), (mt 659 (by decide +kernel) rfl), ⟨TX4, 15, rfl⟩, by decide⟩
theorem mvX4_90 : MV RX4 90 10 kX10_all 1 := ⟨mkX10_all, (mt 661 (by decide +kernel) rfl), (mt 662 (by decide +kernel) rfl), (mt 663 (by decide +kernel) rfl), ⟨TX10, 3, rfl⟩, by decide⟩
theorem mvX10_22 : MV RX10 22 4 kX4_everywhere 0 := ⟨mkX4_everywhere, (mt 665 (by decide +kernel) rfl), (mt 666 (by decide +kernel) rfl), (mt 667 (by decide +kernel) rfl), ⟨TX4, 15, rfl⟩, by decide⟩
theorem msX10_26 : MS RX10 26 kJ7_fill_53178 2 := ⟨mkJ7_fill_53178, (mt 669 (by decide +kernel) rfl), (mt 37 (by decide +kernel) rfl)⟩
theorem mvX10_32 : MV RX10 32 10 kX10_begin 0 := ⟨mkX10_begin, (mt 670 (by decide +kernel) rfl), (mt 672 (by decide +kernel) rfl), (mps 15 (by decide +kernel) rfl), ⟨TX10, 3, rfl⟩, by decide⟩
theorem msX10_52 : MS RX10 52 kJ6_bitCount_0f7a4 1 := ⟨mkJ6_bitCount_0f7a4, (mt 674 (by decide +kernel) rfl), (mt 601 (by decide +kernel) rfl)⟩
theorem msX10_57 : MS RX10 57 kJ6_numberOfTrailingZeros_0f7a4 1 := ⟨mkJ6_numberOfTrailingZeros_0f7a4, (mt 675 (by decide +kernel) rfl), (mt 676 (by decide +kernel) rfl)⟩
theorem mvX4_99 : MV RX4 99 10 kX10_step 0 := ⟨mkX10_step, (mt 679 (by decide +kernel) rfl), (mt 680 (by decide +kernel) rfl), (mt 681 (by decide +kernel) rfl), ⟨TX10, 3, rfl⟩, by decide⟩
theorem mnX10_41 : MN RX10 41 kX11_roomOf 2 := ⟨mkX11_roomOf, ⟨"AloneRooms", mtn 683 (by decide +kernel) rfl⟩, (mt 538 (by decide +kernel) rfl)⟩
theorem mvX2_57 : MV RX2 57 2 kX2_markKeeping 1 := ⟨mkX2_markKeeping, (mt 684 (by decide +kernel) rfl), (mt 686 (by decide +kernel) rfl), (mps 16 (by decide +kernel) rfl), ⟨TX2, 11, rfl⟩, by decide⟩
theorem mnX2_80 : MN RX2 80 kX11_wishPlace 2 := ⟨mkX11_wishPlace, ⟨"AloneRooms", mtn 688 (by decide +kernel) rfl⟩, (mt 405 (by decide +kernel) rfl)⟩
theorem mvX2_83 : MV RX2 83 4 kX4_everywhere 0 := ⟨mkX4_everywhere, (mt 689 (by decide +kernel) rfl), (mt 666 (by decide +kernel) rfl), (mt 667 (by decide +kernel) rfl), ⟨TX4, 15, rfl⟩, by decide⟩
theorem mvX2_90 : MV RX2 90 4 kX4_reach 1 := ⟨mkX4_reach, (mt 690 (by decide +kernel) rfl), (mt 546 (by decide +kernel) rfl), (mt 547 (by decide +kernel) rfl), ⟨TX4, 15, rfl⟩, by decide⟩
theorem mnX2_94 : MN RX2 94 kX11_has 2 := ⟨mkX11_has, ⟨"AloneRooms", mtn 691 (by decide +kernel) rfl⟩, (mt 370 (by decide +kernel) rfl)⟩
theorem mvX2_61 : MV RX2 61 2 kX2_fillRest 1 := ⟨mkX2_fillRest, (mt 692 (by decide +kernel) rfl), (mt 694 (by decide +kernel) rfl), (mps 17 (by decide +kernel) rfl), ⟨TX2, 11, rfl⟩, by decide⟩
theorem mvX2_98 : MV RX2 98 10 kX10_among 2 := ⟨mkX10_among, (mt 696 (by decide +kernel) rfl), (mt 697 (by decide +kernel) rfl), (mt 698 (by decide +kernel) rfl), ⟨TX10, 3, rfl⟩, by decide⟩
theorem maX10_35 : MA RX10 35 := ⟨(mt 700 (by decide +kernel) rfl), (mt 527 (by decide +kernel) rfl), (mt 526 (by decide +kernel) rfl), (mt 19 (by decide +kernel) rfl)⟩
theorem mvX2_67 : MV RX2 67 2 kX2_leastFrom 2 := ⟨mkX2_leastFrom, (mt 701 (by decide +kernel) rfl), (mt 703 (by decide +kernel) rfl), (mps 18 (by decide +kernel) rfl), ⟨TX2, 11, rfl⟩, by decide⟩
theorem mvX2_113 : MV RX2 113 10 kX10_onwardAmong 3 := ⟨mkX10_onwardAmong, (mt 705 (by decide +kernel) rfl), (mt 706 (by decide +kernel) rfl), (mt 707 (by decide +kernel) rfl), ⟨TX10, 3, rfl⟩, by decide⟩
theorem mvX10_45 : MV RX10 45 4 kX4_reach 1 := ⟨mkX4_reach, (mt 709 (by decide +kernel) rfl), (mt 546 (by decide +kernel) rfl), (mt 547 (by decide +kernel) rfl), ⟨TX4, 15, rfl⟩, by decide⟩
theorem mvX2_120 : MV RX2 120 4 kX4_payers 6 := ⟨mkX4_payers, (mt 710 (by decide +kernel) rfl), (mt 563 (by decide +kernel) rfl), (mt 564 (by decide +kernel) rfl), ⟨TX4, 15, rfl⟩, by decide⟩
theorem msX2_124 : MS RX2 124 kJ6_bitCount_0f7a4 1 := ⟨mkJ6_bitCount_0f7a4, (mt 711 (by decide +kernel) rfl), (mt 601 (by decide +kernel) rfl)⟩
theorem mvX2_110 : MV RX2 110 10 kX10_step 0 := ⟨mkX10_step, (mt 712 (by decide +kernel) rfl), (mt 680 (by decide +kernel) rfl), (mt 681 (by decide +kernel) rfl), ⟨TX10, 3, rfl⟩, by decide⟩
theorem msX2_105 : MS RX2 105 kJ9_min_7cf53 2 := ⟨mkJ9_min_7cf53, (mt 713 (by decide +kernel) rfl), (mt 714 (by decide +kernel) rfl)⟩
theorem mvL_106 : MV RL 106 11 kX11_fewest 1 := ⟨mkX11_fewest, (mt 716 (by decide +kernel) rfl), (mt 717 (by decide +kernel) rfl), (mt 718 (by decide +kernel) rfl), ⟨TX11, 13, rfl⟩, by decide⟩
theorem mvX11_194 : MV RX11 194 6 kX6_beatsTo 3 := ⟨mkX6_beatsTo, (mt 720 (by decide +kernel) rfl), (mt 721 (by decide +kernel) rfl), (mt 722 (by decide +kernel) rfl), ⟨TX6, 7, rfl⟩, by decide⟩
theorem mvX6_38 : MV RX6 38 4 kX4_markLone 2 := ⟨mkX4_markLone, (mt 724 (by decide +kernel) rfl), (mt 658 (by decide +kernel) rfl), (mt 659 (by decide +kernel) rfl), ⟨TX4, 15, rfl⟩, by decide⟩
theorem msX6_44 : MS RX6 44 kJ7_fill_53178 2 := ⟨mkJ7_fill_53178, (mt 725 (by decide +kernel) rfl), (mt 37 (by decide +kernel) rfl)⟩
theorem mvX6_57 : MV RX6 57 6 kX6_reach 2 := ⟨mkX6_reach, (mt 726 (by decide +kernel) rfl), (mt 728 (by decide +kernel) rfl), (mps 19 (by decide +kernel) rfl), ⟨TX6, 7, rfl⟩, by decide⟩
theorem mvX6_70 : MV RX6 70 6 kX6_sideOf 1 := ⟨mkX6_sideOf, (mt 730 (by decide +kernel) rfl), (mt 732 (by decide +kernel) rfl), (mps 20 (by decide +kernel) rfl), ⟨TX6, 7, rfl⟩, by decide⟩
theorem msX6_61 : MS RX6 61 kJ9_max_7cf53 2 := ⟨mkJ9_max_7cf53, (mt 745 (by decide +kernel) rfl), (mt 746 (by decide +kernel) rfl)⟩
theorem mvX6_67 : MV RX6 67 6 kX6_spread 2 := ⟨mkX6_spread, (mt 748 (by decide +kernel) rfl), (mt 750 (by decide +kernel) rfl), (mps 21 (by decide +kernel) rfl), ⟨TX6, 7, rfl⟩, by decide⟩
theorem mvX6_74 : MV RX6 74 10 kX10_onward 2 := ⟨mkX10_onward, (mt 752 (by decide +kernel) rfl), (mt 753 (by decide +kernel) rfl), (mt 754 (by decide +kernel) rfl), ⟨TX10, 3, rfl⟩, by decide⟩
theorem mvX6_84 : MV RX6 84 4 kX4_payers 6 := ⟨mkX4_payers, (mt 756 (by decide +kernel) rfl), (mt 563 (by decide +kernel) rfl), (mt 564 (by decide +kernel) rfl), ⟨TX4, 15, rfl⟩, by decide⟩
theorem mvX6_88 : MV RX6 88 10 kX10_step 0 := ⟨mkX10_step, (mt 757 (by decide +kernel) rfl), (mt 680 (by decide +kernel) rfl), (mt 681 (by decide +kernel) rfl), ⟨TX10, 3, rfl⟩, by decide⟩
theorem mvL_110 : MV RL 110 11 kX11_quiet 0 := ⟨mkX11_quiet, (mt 758 (by decide +kernel) rfl), (mt 759 (by decide +kernel) rfl), (mt 760 (by decide +kernel) rfl), ⟨TX11, 13, rfl⟩, by decide⟩
theorem mvX11_197 : MV RX11 197 10 kX10_all 1 := ⟨mkX10_all, (mt 762 (by decide +kernel) rfl), (mt 662 (by decide +kernel) rfl), (mt 663 (by decide +kernel) rfl), ⟨TX10, 3, rfl⟩, by decide⟩
theorem mvX11_203 : MV RX11 203 10 kX10_step 0 := ⟨mkX10_step, (mt 763 (by decide +kernel) rfl), (mt 680 (by decide +kernel) rfl), (mt 681 (by decide +kernel) rfl), ⟨TX10, 3, rfl⟩, by decide⟩
theorem mvL_114 : MV RL 114 11 kX11_picks 3 := ⟨mkX11_picks, (mt 764 (by decide +kernel) rfl), (mt 765 (by decide +kernel) rfl), (mt 766 (by decide +kernel) rfl), ⟨TX11, 13, rfl⟩, by decide⟩
theorem mvX11_206 : MV RX11 206 9 kX9_look 3 := ⟨mkX9_look, (mt 768 (by decide +kernel) rfl), (mt 769 (by decide +kernel) rfl), (mt 770 (by decide +kernel) rfl), ⟨TX9, 6, rfl⟩, by decide⟩
theorem msX9_22 : MS RX9 22 kJ9_min_7cf53 2 := ⟨mkJ9_min_7cf53, (mt 772 (by decide +kernel) rfl), (mt 714 (by decide +kernel) rfl)⟩
theorem msX9_35 : MS RX9 35 kX9_go 5 := ⟨mkX9_go, (mt 773 (by decide +kernel) rfl), (mt 774 (by decide +kernel) rfl)⟩
theorem mnX9_39 : MN RX9 39 kX11_has 2 := ⟨mkX11_has, ⟨"AloneRooms", mtn 776 (by decide +kernel) rfl⟩, (mt 370 (by decide +kernel) rfl)⟩
theorem maX9_51 : MA RX9 51 := ⟨(mt 777 (by decide +kernel) rfl), (mt 527 (by decide +kernel) rfl), (mt 526 (by decide +kernel) rfl), (mt 19 (by decide +kernel) rfl)⟩
theorem mvL_118 : MV RL 118 11 kX11_join 1 := ⟨mkX11_join, (mt 778 (by decide +kernel) rfl), (mt 779 (by decide +kernel) rfl), (mt 780 (by decide +kernel) rfl), ⟨TX11, 13, rfl⟩, by decide⟩
theorem mvX11_219 : MV RX11 219 4 kX4_merge 2 := ⟨mkX4_merge, (mt 782 (by decide +kernel) rfl), (mt 783 (by decide +kernel) rfl), (mt 784 (by decide +kernel) rfl), ⟨TX4, 15, rfl⟩, by decide⟩
theorem msX4_119 : MS RX4 119 kX4_toFirst 3 := ⟨mkX4_toFirst, (mt 786 (by decide +kernel) rfl), (mt 787 (by decide +kernel) rfl)⟩
theorem mvL_122 : MV RL 122 11 kX11_spy 2 := ⟨mkX11_spy, (mt 789 (by decide +kernel) rfl), (mt 790 (by decide +kernel) rfl), (mt 791 (by decide +kernel) rfl), ⟨TX11, 13, rfl⟩, by decide⟩
theorem mvL_126 : MV RL 126 11 kX11_fits 0 := ⟨mkX11_fits, (mt 793 (by decide +kernel) rfl), (mt 794 (by decide +kernel) rfl), (mt 795 (by decide +kernel) rfl), ⟨TX11, 13, rfl⟩, by decide⟩
theorem mvX11_226 : MV RX11 226 11 kX11_countFits 2 := ⟨mkX11_countFits, (mt 797 (by decide +kernel) rfl), (mt 799 (by decide +kernel) rfl), (mps 22 (by decide +kernel) rfl), ⟨TX11, 13, rfl⟩, by decide⟩
theorem mvX11_282 : MV RX11 282 10 kX10_onward 2 := ⟨mkX10_onward, (mt 801 (by decide +kernel) rfl), (mt 753 (by decide +kernel) rfl), (mt 754 (by decide +kernel) rfl), ⟨TX10, 3, rfl⟩, by decide⟩
theorem mvX11_286 : MV RX11 286 4 kX4_isAsTold 0 := ⟨mkX4_isAsTold, (mt 802 (by decide +kernel) rfl), (mt 803 (by decide +kernel) rfl), (mt 804 (by decide +kernel) rfl), ⟨TX4, 15, rfl⟩, by decide⟩
theorem mvX11_290 : MV RX11 290 4 kX4_isAloneIn 2 := ⟨mkX4_isAloneIn, (mt 806 (by decide +kernel) rfl), (mt 807 (by decide +kernel) rfl), (mt 808 (by decide +kernel) rfl), ⟨TX4, 15, rfl⟩, by decide⟩
theorem mvL_130 : MV RL 130 11 kX11_was 2 := ⟨mkX11_was, (mt 810 (by decide +kernel) rfl), (mt 811 (by decide +kernel) rfl), (mt 812 (by decide +kernel) rfl), ⟨TX11, 13, rfl⟩, by decide⟩
theorem mvL_134 : MV RL 134 11 kX11_rent 2 := ⟨mkX11_rent, (mt 814 (by decide +kernel) rfl), (mt 815 (by decide +kernel) rfl), (mt 816 (by decide +kernel) rfl), ⟨TX11, 13, rfl⟩, by decide⟩
theorem mvL_138 : MV RL 138 11 kX11_drawn 3 := ⟨mkX11_drawn, (mt 819 (by decide +kernel) rfl), (mt 820 (by decide +kernel) rfl), (mt 821 (by decide +kernel) rfl), ⟨TX11, 13, rfl⟩, by decide⟩
theorem mvX11_246 : MV RX11 246 4 kX4_reach 1 := ⟨mkX4_reach, (mt 827 (by decide +kernel) rfl), (mt 546 (by decide +kernel) rfl), (mt 547 (by decide +kernel) rfl), ⟨TX4, 15, rfl⟩, by decide⟩
theorem msX11_251 : MS RX11 251 kX11_drawRoom 2 := ⟨mkX11_drawRoom, (mt 829 (by decide +kernel) rfl), (mt 830 (by decide +kernel) rfl)⟩
theorem msX11_258 : MS RX11 258 kJ6_bitCount_0f7a4 1 := ⟨mkJ6_bitCount_0f7a4, (mt 832 (by decide +kernel) rfl), (mt 601 (by decide +kernel) rfl)⟩
theorem msX11_293 : MS RX11 293 kJ6_numberOfTrailingZeros_0f7a4 1 := ⟨mkJ6_numberOfTrailingZeros_0f7a4, (mt 833 (by decide +kernel) rfl), (mt 676 (by decide +kernel) rfl)⟩
theorem mvX11_255 : MV RX11 255 4 kX4_peopled 0 := ⟨mkX4_peopled, (mt 834 (by decide +kernel) rfl), (mt 835 (by decide +kernel) rfl), (mt 836 (by decide +kernel) rfl), ⟨TX4, 15, rfl⟩, by decide⟩
theorem mvL_142 : MV RL 142 11 kX11_image 1 := ⟨mkX11_image, (mt 838 (by decide +kernel) rfl), (mt 839 (by decide +kernel) rfl), (mt 840 (by decide +kernel) rfl), ⟨TX11, 13, rfl⟩, by decide⟩
theorem mvL_146 : MV RL 146 11 kX11_from 1 := ⟨mkX11_from, (mt 842 (by decide +kernel) rfl), (mt 843 (by decide +kernel) rfl), (mt 844 (by decide +kernel) rfl), ⟨TX11, 13, rfl⟩, by decide⟩
theorem mvL_150 : MV RL 150 11 kX11_status 1 := ⟨mkX11_status, (mt 846 (by decide +kernel) rfl), (mt 847 (by decide +kernel) rfl), (mt 848 (by decide +kernel) rfl), ⟨TX11, 13, rfl⟩, by decide⟩
theorem mvL_154 : MV RL 154 11 kX11_count 1 := ⟨mkX11_count, (mt 850 (by decide +kernel) rfl), (mt 851 (by decide +kernel) rfl), (mt 852 (by decide +kernel) rfl), ⟨TX11, 13, rfl⟩, by decide⟩
theorem mvX11_272 : MV RX11 272 4 kX4_doorCount 0 := ⟨mkX4_doorCount, (mt 854 (by decide +kernel) rfl), (mt 855 (by decide +kernel) rfl), (mt 856 (by decide +kernel) rfl), ⟨TX4, 15, rfl⟩, by decide⟩
theorem mvL_158 : MV RL 158 11 kX11_digest 0 := ⟨mkX11_digest, (mt 858 (by decide +kernel) rfl), (mt 859 (by decide +kernel) rfl), (mt 860 (by decide +kernel) rfl), ⟨TX11, 13, rfl⟩, by decide⟩
theorem mvX11_279 : MV RX11 279 11 kX11_count 1 := ⟨mkX11_count, (mt 864 (by decide +kernel) rfl), (mt 851 (by decide +kernel) rfl), (mt 852 (by decide +kernel) rfl), ⟨TX11, 13, rfl⟩, by decide⟩
theorem mvX12_45 : MV RX12 45 12 kX12_clearAll 1 := ⟨mkX12_clearAll, (mt 871 (by decide +kernel) rfl), (mt 873 (by decide +kernel) rfl), (mps 23 (by decide +kernel) rfl), ⟨TX12, 18, rfl⟩, by decide⟩
theorem msX12_49 : MS RX12 49 kX12_in 3 := ⟨mkX12_in, (mt 877 (by decide +kernel) rfl), (mt 878 (by decide +kernel) rfl)⟩
theorem mvL_17 : MV RL 17 12 kX12_rooms 1 := ⟨mkX12_rooms, (mt 935 (by decide +kernel) rfl), (mt 936 (by decide +kernel) rfl), (mt 937 (by decide +kernel) rfl), ⟨TX12, 18, rfl⟩, by decide⟩
theorem mvX12_59 : MV RX12 59 12 kX12_bad 1 := ⟨mkX12_bad, (mt 940 (by decide +kernel) rfl), (mt 942 (by decide +kernel) rfl), (mps 24 (by decide +kernel) rfl), ⟨TX12, 18, rfl⟩, by decide⟩
theorem mvL_22 : MV RL 22 12 kX12_door 3 := ⟨mkX12_door, (mt 944 (by decide +kernel) rfl), (mt 945 (by decide +kernel) rfl), (mt 946 (by decide +kernel) rfl), ⟨TX12, 18, rfl⟩, by decide⟩
theorem mvX12_63 : MV RX12 63 12 kX12_isRoom 1 := ⟨mkX12_isRoom, (mt 948 (by decide +kernel) rfl), (mt 950 (by decide +kernel) rfl), (mps 25 (by decide +kernel) rfl), ⟨TX12, 18, rfl⟩, by decide⟩
theorem msX12_67 : MS RX12 67 kX12_has 2 := ⟨mkX12_has, (mt 952 (by decide +kernel) rfl), (mt 953 (by decide +kernel) rfl)⟩
theorem mvX12_71 : MV RX12 71 12 kX12_no 0 := ⟨mkX12_no, (mt 955 (by decide +kernel) rfl), (mt 957 (by decide +kernel) rfl), (mps 26 (by decide +kernel) rfl), ⟨TX12, 18, rfl⟩, by decide⟩
theorem mvX12_75 : MV RX12 75 12 kX12_layDoor 3 := ⟨mkX12_layDoor, (mt 959 (by decide +kernel) rfl), (mt 961 (by decide +kernel) rfl), (mps 27 (by decide +kernel) rfl), ⟨TX12, 18, rfl⟩, by decide⟩
theorem mvL_27 : MV RL 27 12 kX12_cat 2 := ⟨mkX12_cat, (mt 963 (by decide +kernel) rfl), (mt 964 (by decide +kernel) rfl), (mt 965 (by decide +kernel) rfl), ⟨TX12, 18, rfl⟩, by decide⟩
theorem mvL_32 : MV RL 32 12 kX12_lay 2 := ⟨mkX12_lay, (mt 967 (by decide +kernel) rfl), (mt 968 (by decide +kernel) rfl), (mt 969 (by decide +kernel) rfl), ⟨TX12, 18, rfl⟩, by decide⟩
theorem mvL_36 : MV RL 36 12 kX12_person 1 := ⟨mkX12_person, (mt 972 (by decide +kernel) rfl), (mt 973 (by decide +kernel) rfl), (mt 974 (by decide +kernel) rfl), ⟨TX12, 18, rfl⟩, by decide⟩
theorem mvX12_81 : MV RX12 81 12 kX12_full 0 := ⟨mkX12_full, (mt 976 (by decide +kernel) rfl), (mt 978 (by decide +kernel) rfl), (mps 28 (by decide +kernel) rfl), ⟨TX12, 18, rfl⟩, by decide⟩
theorem mvX12_84 : MV RX12 84 12 kX12_addPerson 1 := ⟨mkX12_addPerson, (mt 980 (by decide +kernel) rfl), (mt 982 (by decide +kernel) rfl), (mps 29 (by decide +kernel) rfl), ⟨TX12, 18, rfl⟩, by decide⟩
theorem mvL_40 : MV RL 40 12 kX12_law 1 := ⟨mkX12_law, (mt 984 (by decide +kernel) rfl), (mt 985 (by decide +kernel) rfl), (mt 986 (by decide +kernel) rfl), ⟨TX12, 18, rfl⟩, by decide⟩
theorem mvL_45 : MV RL 45 12 kX12_wish 3 := ⟨mkX12_wish, (mt 989 (by decide +kernel) rfl), (mt 990 (by decide +kernel) rfl), (mt 991 (by decide +kernel) rfl), ⟨TX12, 18, rfl⟩, by decide⟩
theorem mvX12_89 : MV RX12 89 12 kX12_isPerson 1 := ⟨mkX12_isPerson, (mt 993 (by decide +kernel) rfl), (mt 995 (by decide +kernel) rfl), (mps 30 (by decide +kernel) rfl), ⟨TX12, 18, rfl⟩, by decide⟩
theorem mvL_52 : MV RL 52 12 kX12_type 2 := ⟨mkX12_type, (mt 997 (by decide +kernel) rfl), (mt 998 (by decide +kernel) rfl), (mt 999 (by decide +kernel) rfl), ⟨TX12, 18, rfl⟩, by decide⟩
theorem mvL_57 : MV RL 57 12 kX12_clear 0 := ⟨mkX12_clear, (mt 1003 (by decide +kernel) rfl), (mt 1004 (by decide +kernel) rfl), (mt 1005 (by decide +kernel) rfl), ⟨TX12, 18, rfl⟩, by decide⟩
theorem mvL_61 : MV RL 61 12 kX12_read 0 := ⟨mkX12_read, (mt 1007 (by decide +kernel) rfl), (mt 1008 (by decide +kernel) rfl), (mt 1009 (by decide +kernel) rfl), ⟨TX12, 18, rfl⟩, by decide⟩
theorem mvX12_145 : MV RX12 145 12 kX12_fault 0 := ⟨mkX12_fault, (mt 1011 (by decide +kernel) rfl), (mt 1013 (by decide +kernel) rfl), (mps 31 (by decide +kernel) rfl), ⟨TX12, 18, rfl⟩, by decide⟩
theorem mvX12_122 : MV RX12 122 12 kX12_token 0 := ⟨mkX12_token, (mt 1015 (by decide +kernel) rfl), (mt 1017 (by decide +kernel) rfl), (mps 32 (by decide +kernel) rfl), ⟨TX12, 18, rfl⟩, by decide⟩
theorem msX12_105 : MS RX12 105 kX12_sort 1 := ⟨mkX12_sort, (mt 1019 (by decide +kernel) rfl), (mt 1020 (by decide +kernel) rfl)⟩
theorem mvX12_141 : MV RX12 141 12 kX12_readsItem 0 := ⟨mkX12_readsItem, (mt 1022 (by decide +kernel) rfl), (mt 1024 (by decide +kernel) rfl), (mps 33 (by decide +kernel) rfl), ⟨TX12, 18, rfl⟩, by decide⟩
theorem mvX12_135 : MV RX12 135 12 kX12_wordOf 0 := ⟨mkX12_wordOf, (mt 1026 (by decide +kernel) rfl), (mt 1028 (by decide +kernel) rfl), (mps 34 (by decide +kernel) rfl), ⟨TX12, 18, rfl⟩, by decide⟩
theorem mvX12_112 : MV RX12 112 12 kX12_isWord 2 := ⟨mkX12_isWord, (mt 1031 (by decide +kernel) rfl), (mt 1033 (by decide +kernel) rfl), (mps 35 (by decide +kernel) rfl), ⟨TX12, 18, rfl⟩, by decide⟩
theorem mvX12_138 : MV RX12 138 12 kX12_readsRest 1 := ⟨mkX12_readsRest, (mt 1039 (by decide +kernel) rfl), (mt 1041 (by decide +kernel) rfl), (mps 36 (by decide +kernel) rfl), ⟨TX12, 18, rfl⟩, by decide⟩
theorem mvX12_128 : MV RX12 128 12 kX12_reads 4 := ⟨mkX12_reads, (mt 1043 (by decide +kernel) rfl), (mt 1045 (by decide +kernel) rfl), (mps 37 (by decide +kernel) rfl), ⟨TX12, 18, rfl⟩, by decide⟩
theorem mvX12_148 : MV RX12 148 12 kX12_tell 1 := ⟨mkX12_tell, (mt 1047 (by decide +kernel) rfl), (mt 1049 (by decide +kernel) rfl), (mps 38 (by decide +kernel) rfl), ⟨TX12, 18, rfl⟩, by decide⟩
theorem mvL_65 : MV RL 65 12 kX12_beat 1 := ⟨mkX12_beat, (mt 1051 (by decide +kernel) rfl), (mt 1052 (by decide +kernel) rfl), (mt 1053 (by decide +kernel) rfl), ⟨TX12, 18, rfl⟩, by decide⟩
theorem mvX12_170 : MV RX12 170 12 kX12_isStanding 1 := ⟨mkX12_isStanding, (mt 1055 (by decide +kernel) rfl), (mt 1057 (by decide +kernel) rfl), (mps 39 (by decide +kernel) rfl), ⟨TX12, 18, rfl⟩, by decide⟩
theorem msX12_151 : MS RX12 151 kX12_roomIn 2 := ⟨mkX12_roomIn, (mt 1059 (by decide +kernel) rfl), (mt 1060 (by decide +kernel) rfl)⟩
theorem mvX12_173 : MV RX12 173 12 kX12_now 0 := ⟨mkX12_now, (mt 1062 (by decide +kernel) rfl), (mt 1064 (by decide +kernel) rfl), (mps 40 (by decide +kernel) rfl), ⟨TX12, 18, rfl⟩, by decide⟩
theorem mvX12_176 : MV RX12 176 12 kX12_mayGo 2 := ⟨mkX12_mayGo, (mt 1066 (by decide +kernel) rfl), (mt 1068 (by decide +kernel) rfl), (mps 41 (by decide +kernel) rfl), ⟨TX12, 18, rfl⟩, by decide⟩
theorem mvX12_179 : MV RX12 179 12 kX12_tryBeat 2 := ⟨mkX12_tryBeat, (mt 1070 (by decide +kernel) rfl), (mt 1072 (by decide +kernel) rfl), (mps 42 (by decide +kernel) rfl), ⟨TX12, 18, rfl⟩, by decide⟩
theorem mvX12_158 : MV RX12 158 12 kX12_lays 5 := ⟨mkX12_lays, (mt 1074 (by decide +kernel) rfl), (mt 1076 (by decide +kernel) rfl), (mps 43 (by decide +kernel) rfl), ⟨TX12, 18, rfl⟩, by decide⟩
theorem mvX12_155 : MV RX12 155 12 kX12_isAlone 2 := ⟨mkX12_isAlone, (mt 1078 (by decide +kernel) rfl), (mt 1080 (by decide +kernel) rfl), (mps 44 (by decide +kernel) rfl), ⟨TX12, 18, rfl⟩, by decide⟩
theorem mvX12_166 : MV RX12 166 12 kX12_gather 3 := ⟨mkX12_gather, (mt 1082 (by decide +kernel) rfl), (mt 1084 (by decide +kernel) rfl), (mps 45 (by decide +kernel) rfl), ⟨TX12, 18, rfl⟩, by decide⟩
theorem mvX12_162 : MV RX12 162 12 kX12_eldest 5 := ⟨mkX12_eldest, (mt 1086 (by decide +kernel) rfl), (mt 1088 (by decide +kernel) rfl), (mps 46 (by decide +kernel) rfl), ⟨TX12, 18, rfl⟩, by decide⟩
theorem mvX12_182 : MV RX12 182 12 kX12_keepPast 0 := ⟨mkX12_keepPast, (mt 1090 (by decide +kernel) rfl), (mt 1092 (by decide +kernel) rfl), (mps 47 (by decide +kernel) rfl), ⟨TX12, 18, rfl⟩, by decide⟩
theorem mvL_69 : MV RL 69 12 kX12_undo 0 := ⟨mkX12_undo, (mt 1094 (by decide +kernel) rfl), (mt 1095 (by decide +kernel) rfl), (mt 1096 (by decide +kernel) rfl), ⟨TX12, 18, rfl⟩, by decide⟩
theorem mvL_73 : MV RL 73 12 kX12_standing 0 := ⟨mkX12_standing, (mt 1098 (by decide +kernel) rfl), (mt 1099 (by decide +kernel) rfl), (mt 1100 (by decide +kernel) rfl), ⟨TX12, 18, rfl⟩, by decide⟩
theorem mvL_77 : MV RL 77 12 kX12_sill 1 := ⟨mkX12_sill, (mt 1102 (by decide +kernel) rfl), (mt 1103 (by decide +kernel) rfl), (mt 1104 (by decide +kernel) rfl), ⟨TX12, 18, rfl⟩, by decide⟩
theorem mvL_81 : MV RL 81 12 kX12_purse 1 := ⟨mkX12_purse, (mt 1106 (by decide +kernel) rfl), (mt 1107 (by decide +kernel) rfl), (mt 1108 (by decide +kernel) rfl), ⟨TX12, 18, rfl⟩, by decide⟩
theorem mvL_85 : MV RL 85 12 kX12_alone 1 := ⟨mkX12_alone, (mt 1111 (by decide +kernel) rfl), (mt 1112 (by decide +kernel) rfl), (mt 1113 (by decide +kernel) rfl), ⟨TX12, 18, rfl⟩, by decide⟩
theorem mvL_89 : MV RL 89 12 kX12_plan 1 := ⟨mkX12_plan, (mt 1115 (by decide +kernel) rfl), (mt 1116 (by decide +kernel) rfl), (mt 1117 (by decide +kernel) rfl), ⟨TX12, 18, rfl⟩, by decide⟩
theorem mvL_93 : MV RL 93 12 kX12_scrap 0 := ⟨mkX12_scrap, (mt 1119 (by decide +kernel) rfl), (mt 1120 (by decide +kernel) rfl), (mt 1121 (by decide +kernel) rfl), ⟨TX12, 18, rfl⟩, by decide⟩
theorem mvL_97 : MV RL 97 12 kX12_judge 0 := ⟨mkX12_judge, (mt 1123 (by decide +kernel) rfl), (mt 1124 (by decide +kernel) rfl), (mt 1125 (by decide +kernel) rfl), ⟨TX12, 18, rfl⟩, by decide⟩
theorem mvX12_186 : MV RX12 186 12 kX12_firstWrong 0 := ⟨mkX12_firstWrong, (mt 1127 (by decide +kernel) rfl), (mt 1129 (by decide +kernel) rfl), (mps 48 (by decide +kernel) rfl), ⟨TX12, 18, rfl⟩, by decide⟩
theorem mvL_101 : MV RL 101 12 kX12_cost 1 := ⟨mkX12_cost, (mt 1131 (by decide +kernel) rfl), (mt 1132 (by decide +kernel) rfl), (mt 1133 (by decide +kernel) rfl), ⟨TX12, 18, rfl⟩, by decide⟩
theorem mvX12_189 : MV RX12 189 12 kX12_laid 4 := ⟨mkX12_laid, (mt 1135 (by decide +kernel) rfl), (mt 1137 (by decide +kernel) rfl), (mps 49 (by decide +kernel) rfl), ⟨TX12, 18, rfl⟩, by decide⟩
theorem mvL_105 : MV RL 105 12 kX12_least 2 := ⟨mkX12_least, (mt 1139 (by decide +kernel) rfl), (mt 1140 (by decide +kernel) rfl), (mt 1141 (by decide +kernel) rfl), ⟨TX12, 18, rfl⟩, by decide⟩
theorem mvX12_207 : MV RX12 207 12 kX12_layCosts 1 := ⟨mkX12_layCosts, (mt 1143 (by decide +kernel) rfl), (mt 1145 (by decide +kernel) rfl), (mps 50 (by decide +kernel) rfl), ⟨TX12, 18, rfl⟩, by decide⟩
theorem mvX12_197 : MV RX12 197 12 kX12_standings 0 := ⟨mkX12_standings, (mt 1147 (by decide +kernel) rfl), (mt 1149 (by decide +kernel) rfl), (mps 51 (by decide +kernel) rfl), ⟨TX12, 18, rfl⟩, by decide⟩
theorem mvX12_200 : MV RX12 200 12 kX12_standingOf 1 := ⟨mkX12_standingOf, (mt 1151 (by decide +kernel) rfl), (mt 1153 (by decide +kernel) rfl), (mps 52 (by decide +kernel) rfl), ⟨TX12, 18, rfl⟩, by decide⟩
theorem mvX12_203 : MV RX12 203 12 kX12_by 3 := ⟨mkX12_by, (mt 1156 (by decide +kernel) rfl), (mt 1158 (by decide +kernel) rfl), (mps 53 (by decide +kernel) rfl), ⟨TX12, 18, rfl⟩, by decide⟩
theorem mvX12_193 : MV RX12 193 12 kX12_keepsWishes 2 := ⟨mkX12_keepsWishes, (mt 1160 (by decide +kernel) rfl), (mt 1162 (by decide +kernel) rfl), (mps 54 (by decide +kernel) rfl), ⟨TX12, 18, rfl⟩, by decide⟩
theorem mvX12_210 : MV RX12 210 12 kX12_firstOf 2 := ⟨mkX12_firstOf, (mt 1164 (by decide +kernel) rfl), (mt 1166 (by decide +kernel) rfl), (mps 55 (by decide +kernel) rfl), ⟨TX12, 18, rfl⟩, by decide⟩
theorem mvL_109 : MV RL 109 12 kX12_fewest 1 := ⟨mkX12_fewest, (mt 1168 (by decide +kernel) rfl), (mt 1169 (by decide +kernel) rfl), (mt 1170 (by decide +kernel) rfl), ⟨TX12, 18, rfl⟩, by decide⟩
theorem mvL_113 : MV RL 113 12 kX12_quiet 0 := ⟨mkX12_quiet, (mt 1172 (by decide +kernel) rfl), (mt 1173 (by decide +kernel) rfl), (mt 1174 (by decide +kernel) rfl), ⟨TX12, 18, rfl⟩, by decide⟩
theorem mvL_117 : MV RL 117 12 kX12_picks 3 := ⟨mkX12_picks, (mt 1176 (by decide +kernel) rfl), (mt 1177 (by decide +kernel) rfl), (mt 1178 (by decide +kernel) rfl), ⟨TX12, 18, rfl⟩, by decide⟩
theorem mvX12_215 : MV RX12 215 12 kX12_liesOn 3 := ⟨mkX12_liesOn, (mt 1181 (by decide +kernel) rfl), (mt 1183 (by decide +kernel) rfl), (mps 56 (by decide +kernel) rfl), ⟨TX12, 18, rfl⟩, by decide⟩
theorem msX12_218 : MS RX12 218 kX12_figure 2 := ⟨mkX12_figure, (mt 1185 (by decide +kernel) rfl), (mt 1186 (by decide +kernel) rfl)⟩
theorem mvL_121 : MV RL 121 12 kX12_join 1 := ⟨mkX12_join, (mt 1188 (by decide +kernel) rfl), (mt 1189 (by decide +kernel) rfl), (mt 1190 (by decide +kernel) rfl), ⟨TX12, 18, rfl⟩, by decide⟩
theorem mvX12_221 : MV RX12 221 12 kX12_leastBy 1 := ⟨mkX12_leastBy, (mt 1192 (by decide +kernel) rfl), (mt 1194 (by decide +kernel) rfl), (mps 57 (by decide +kernel) rfl), ⟨TX12, 18, rfl⟩, by decide⟩
theorem mvX12_224 : MV RX12 224 12 kX12_copy 2 := ⟨mkX12_copy, (mt 1196 (by decide +kernel) rfl), (mt 1198 (by decide +kernel) rfl), (mps 58 (by decide +kernel) rfl), ⟨TX12, 18, rfl⟩, by decide⟩
theorem mvX12_228 : MV RX12 228 12 kX12_joinTwo 2 := ⟨mkX12_joinTwo, (mt 1200 (by decide +kernel) rfl), (mt 1202 (by decide +kernel) rfl), (mps 59 (by decide +kernel) rfl), ⟨TX12, 18, rfl⟩, by decide⟩
theorem mvL_125 : MV RL 125 12 kX12_spy 2 := ⟨mkX12_spy, (mt 1204 (by decide +kernel) rfl), (mt 1205 (by decide +kernel) rfl), (mt 1206 (by decide +kernel) rfl), ⟨TX12, 18, rfl⟩, by decide⟩
theorem mvL_129 : MV RL 129 12 kX12_fits 0 := ⟨mkX12_fits, (mt 1209 (by decide +kernel) rfl), (mt 1210 (by decide +kernel) rfl), (mt 1211 (by decide +kernel) rfl), ⟨TX12, 18, rfl⟩, by decide⟩
theorem mvX12_233 : MV RX12 233 12 kX12_isSoBy 2 := ⟨mkX12_isSoBy, (mt 1213 (by decide +kernel) rfl), (mt 1215 (by decide +kernel) rfl), (mps 60 (by decide +kernel) rfl), ⟨TX12, 18, rfl⟩, by decide⟩
theorem mvL_133 : MV RL 133 12 kX12_was 2 := ⟨mkX12_was, (mt 1217 (by decide +kernel) rfl), (mt 1218 (by decide +kernel) rfl), (mt 1219 (by decide +kernel) rfl), ⟨TX12, 18, rfl⟩, by decide⟩
theorem mvL_137 : MV RL 137 12 kX12_rent 2 := ⟨mkX12_rent, (mt 1221 (by decide +kernel) rfl), (mt 1222 (by decide +kernel) rfl), (mt 1223 (by decide +kernel) rfl), ⟨TX12, 18, rfl⟩, by decide⟩
theorem mvL_141 : MV RL 141 12 kX12_drawn 3 := ⟨mkX12_drawn, (mt 1226 (by decide +kernel) rfl), (mt 1227 (by decide +kernel) rfl), (mt 1228 (by decide +kernel) rfl), ⟨TX12, 18, rfl⟩, by decide⟩
theorem msX12_250 : MS RX12 250 kX12_bits 1 := ⟨mkX12_bits, (mt 1236 (by decide +kernel) rfl), (mt 1237 (by decide +kernel) rfl)⟩
theorem mvL_145 : MV RL 145 12 kX12_image 1 := ⟨mkX12_image, (mt 1239 (by decide +kernel) rfl), (mt 1240 (by decide +kernel) rfl), (mt 1241 (by decide +kernel) rfl), ⟨TX12, 18, rfl⟩, by decide⟩
theorem mvL_149 : MV RL 149 12 kX12_from 1 := ⟨mkX12_from, (mt 1243 (by decide +kernel) rfl), (mt 1244 (by decide +kernel) rfl), (mt 1245 (by decide +kernel) rfl), ⟨TX12, 18, rfl⟩, by decide⟩
theorem mvL_153 : MV RL 153 12 kX12_status 1 := ⟨mkX12_status, (mt 1247 (by decide +kernel) rfl), (mt 1248 (by decide +kernel) rfl), (mt 1249 (by decide +kernel) rfl), ⟨TX12, 18, rfl⟩, by decide⟩
theorem mvL_157 : MV RL 157 12 kX12_count 1 := ⟨mkX12_count, (mt 1252 (by decide +kernel) rfl), (mt 1253 (by decide +kernel) rfl), (mt 1254 (by decide +kernel) rfl), ⟨TX12, 18, rfl⟩, by decide⟩
theorem mvX12_257 : MV RX12 257 12 kX12_countOf 1 := ⟨mkX12_countOf, (mt 1257 (by decide +kernel) rfl), (mt 1259 (by decide +kernel) rfl), (mps 61 (by decide +kernel) rfl), ⟨TX12, 18, rfl⟩, by decide⟩
theorem mvL_162 : MV RL 162 12 kX12_digest 0 := ⟨mkX12_digest, (mt 1261 (by decide +kernel) rfl), (mt 1262 (by decide +kernel) rfl), (mt 1263 (by decide +kernel) rfl), ⟨TX12, 18, rfl⟩, by decide⟩
theorem moX4_102_5 : MO RX4 102 5 kX5_lays 3 := ⟨mkX5_lays, RX5, "AloneRooms$Once", ⟨"AloneRooms$Once", "lays", "(ZZI)Z"⟩, TX5, 0, cX5_lays, 4, (some .boolean), rfl, by decide, (mt 566 (by decide +kernel) rfl), (mt 569 (by decide +kernel) rfl), (mt 567 (by decide +kernel) rfl), (mt 568 (by decide +kernel) rfl), (mt 567 (by decide +kernel) rfl), (mt 584 (by decide +kernel) rfl), by decide +kernel, by decide +kernel, by decide +kernel⟩
theorem moX4_102_1 : MO RX4 102 1 kX1_lays 3 := ⟨mkX1_lays, RX1, "AloneRooms$Once", ⟨"AloneRooms$Once", "lays", "(ZZI)Z"⟩, TX1, 0, cX5_lays, 4, (some .boolean), rfl, by decide, (mt 566 (by decide +kernel) rfl), (mt 569 (by decide +kernel) rfl), (mt 567 (by decide +kernel) rfl), (mt 576 (by decide +kernel) rfl), (mt 577 (by decide +kernel) rfl), (mt 584 (by decide +kernel) rfl), by decide +kernel, by decide +kernel, by decide +kernel⟩
theorem moX4_102_3 : MO RX4 102 3 kX5_lays 3 := ⟨mkX5_lays, RX3, "AloneRooms$Once", ⟨"AloneRooms$Once", "lays", "(ZZI)Z"⟩, TX3, 0, cX5_lays, 4, (some .boolean), rfl, by decide, (mt 566 (by decide +kernel) rfl), (mt 569 (by decide +kernel) rfl), (mt 567 (by decide +kernel) rfl), (mt 579 (by decide +kernel) rfl), (mt 567 (by decide +kernel) rfl), (mt 584 (by decide +kernel) rfl), by decide +kernel, by decide +kernel, by decide +kernel⟩
theorem moX4_102_7 : MO RX4 102 7 kX7_lays 3 := ⟨mkX7_lays, RX7, "AloneRooms$Once", ⟨"AloneRooms$Once", "lays", "(ZZI)Z"⟩, TX7, 0, cX5_lays, 4, (some .boolean), rfl, by decide, (mt 566 (by decide +kernel) rfl), (mt 569 (by decide +kernel) rfl), (mt 567 (by decide +kernel) rfl), (mt 580 (by decide +kernel) rfl), (mt 581 (by decide +kernel) rfl), (mt 584 (by decide +kernel) rfl), by decide +kernel, by decide +kernel, by decide +kernel⟩
theorem moX4_102_0 : MO RX4 102 0 kX0_lays 3 := ⟨mkX0_lays, RX0, "AloneRooms$Once", ⟨"AloneRooms$Once", "lays", "(ZZI)Z"⟩, TX0, 0, cX5_lays, 4, (some .boolean), rfl, by decide, (mt 566 (by decide +kernel) rfl), (mt 569 (by decide +kernel) rfl), (mt 567 (by decide +kernel) rfl), (mt 570 (by decide +kernel) rfl), (mt 571 (by decide +kernel) rfl), (mt 584 (by decide +kernel) rfl), by decide +kernel, by decide +kernel, by decide +kernel⟩
theorem moX4_116_5 : MO RX4 116 5 kX5_share 1 := ⟨mkX5_share, RX5, "AloneRooms$Once", ⟨"AloneRooms$Once", "share", "(I)I"⟩, TX5, 0, cX5_share, 2, (some .int), rfl, by decide, (mt 589 (by decide +kernel) rfl), (mt 592 (by decide +kernel) rfl), (mt 590 (by decide +kernel) rfl), (mt 591 (by decide +kernel) rfl), (mt 590 (by decide +kernel) rfl), (mt 599 (by decide +kernel) rfl), by decide +kernel, by decide +kernel, by decide +kernel⟩
theorem moX4_116_1 : MO RX4 116 1 kX5_share 1 := ⟨mkX5_share, RX1, "AloneRooms$Once", ⟨"AloneRooms$Once", "share", "(I)I"⟩, TX1, 0, cX5_share, 2, (some .int), rfl, by decide, (mt 589 (by decide +kernel) rfl), (mt 592 (by decide +kernel) rfl), (mt 590 (by decide +kernel) rfl), (mt 596 (by decide +kernel) rfl), (mt 590 (by decide +kernel) rfl), (mt 599 (by decide +kernel) rfl), by decide +kernel, by decide +kernel, by decide +kernel⟩
theorem moX4_116_3 : MO RX4 116 3 kX3_share 1 := ⟨mkX3_share, RX3, "AloneRooms$Once", ⟨"AloneRooms$Once", "share", "(I)I"⟩, TX3, 0, cX5_share, 2, (some .int), rfl, by decide, (mt 589 (by decide +kernel) rfl), (mt 592 (by decide +kernel) rfl), (mt 590 (by decide +kernel) rfl), (mt 597 (by decide +kernel) rfl), (mt 594 (by decide +kernel) rfl), (mt 599 (by decide +kernel) rfl), by decide +kernel, by decide +kernel, by decide +kernel⟩
theorem moX4_116_7 : MO RX4 116 7 kX5_share 1 := ⟨mkX5_share, RX7, "AloneRooms$Once", ⟨"AloneRooms$Once", "share", "(I)I"⟩, TX7, 0, cX5_share, 2, (some .int), rfl, by decide, (mt 589 (by decide +kernel) rfl), (mt 592 (by decide +kernel) rfl), (mt 590 (by decide +kernel) rfl), (mt 598 (by decide +kernel) rfl), (mt 590 (by decide +kernel) rfl), (mt 599 (by decide +kernel) rfl), by decide +kernel, by decide +kernel, by decide +kernel⟩
theorem moX4_116_0 : MO RX4 116 0 kX3_share 1 := ⟨mkX3_share, RX0, "AloneRooms$Once", ⟨"AloneRooms$Once", "share", "(I)I"⟩, TX0, 0, cX5_share, 2, (some .int), rfl, by decide, (mt 589 (by decide +kernel) rfl), (mt 592 (by decide +kernel) rfl), (mt 590 (by decide +kernel) rfl), (mt 593 (by decide +kernel) rfl), (mt 594 (by decide +kernel) rfl), (mt 599 (by decide +kernel) rfl), by decide +kernel, by decide +kernel, by decide +kernel⟩
theorem moX6_91_5 : MO RX6 91 5 kX5_mindsBeats 0 := ⟨mkX5_mindsBeats, RX5, "AloneRooms$Once", ⟨"AloneRooms$Once", "mindsBeats", "()Z"⟩, TX5, 0, cX5_mindsBeats, 1, (some .boolean), rfl, by decide, (mt 734 (by decide +kernel) rfl), (mt 737 (by decide +kernel) rfl), (mt 735 (by decide +kernel) rfl), (mt 736 (by decide +kernel) rfl), (mt 735 (by decide +kernel) rfl), (mt 744 (by decide +kernel) rfl), by decide +kernel, by decide +kernel, by decide +kernel⟩
theorem moX6_91_1 : MO RX6 91 1 kX5_mindsBeats 0 := ⟨mkX5_mindsBeats, RX1, "AloneRooms$Once", ⟨"AloneRooms$Once", "mindsBeats", "()Z"⟩, TX1, 0, cX5_mindsBeats, 1, (some .boolean), rfl, by decide, (mt 734 (by decide +kernel) rfl), (mt 737 (by decide +kernel) rfl), (mt 735 (by decide +kernel) rfl), (mt 739 (by decide +kernel) rfl), (mt 735 (by decide +kernel) rfl), (mt 744 (by decide +kernel) rfl), by decide +kernel, by decide +kernel, by decide +kernel⟩
theorem moX6_91_3 : MO RX6 91 3 kX5_mindsBeats 0 := ⟨mkX5_mindsBeats, RX3, "AloneRooms$Once", ⟨"AloneRooms$Once", "mindsBeats", "()Z"⟩, TX3, 0, cX5_mindsBeats, 1, (some .boolean), rfl, by decide, (mt 734 (by decide +kernel) rfl), (mt 737 (by decide +kernel) rfl), (mt 735 (by decide +kernel) rfl), (mt 740 (by decide +kernel) rfl), (mt 735 (by decide +kernel) rfl), (mt 744 (by decide +kernel) rfl), by decide +kernel, by decide +kernel, by decide +kernel⟩
theorem moX6_91_7 : MO RX6 91 7 kX7_mindsBeats 0 := ⟨mkX7_mindsBeats, RX7, "AloneRooms$Once", ⟨"AloneRooms$Once", "mindsBeats", "()Z"⟩, TX7, 0, cX5_mindsBeats, 1, (some .boolean), rfl, by decide, (mt 734 (by decide +kernel) rfl), (mt 737 (by decide +kernel) rfl), (mt 735 (by decide +kernel) rfl), (mt 741 (by decide +kernel) rfl), (mt 742 (by decide +kernel) rfl), (mt 744 (by decide +kernel) rfl), by decide +kernel, by decide +kernel, by decide +kernel⟩
theorem moX6_91_0 : MO RX6 91 0 kX5_mindsBeats 0 := ⟨mkX5_mindsBeats, RX0, "AloneRooms$Once", ⟨"AloneRooms$Once", "mindsBeats", "()Z"⟩, TX0, 0, cX5_mindsBeats, 1, (some .boolean), rfl, by decide, (mt 734 (by decide +kernel) rfl), (mt 737 (by decide +kernel) rfl), (mt 735 (by decide +kernel) rfl), (mt 738 (by decide +kernel) rfl), (mt 735 (by decide +kernel) rfl), (mt 744 (by decide +kernel) rfl), by decide +kernel, by decide +kernel, by decide +kernel⟩
theorem moX11_232_5 : MO RX11 232 5 kX5_lays 3 := ⟨mkX5_lays, RX5, "AloneRooms$Once", ⟨"AloneRooms$Once", "lays", "(ZZI)Z"⟩, TX5, 0, cX5_lays, 4, (some .boolean), rfl, by decide, (mt 818 (by decide +kernel) rfl), (mt 569 (by decide +kernel) rfl), (mt 567 (by decide +kernel) rfl), (mt 568 (by decide +kernel) rfl), (mt 567 (by decide +kernel) rfl), (mt 584 (by decide +kernel) rfl), by decide +kernel, by decide +kernel, by decide +kernel⟩
theorem moX11_232_1 : MO RX11 232 1 kX1_lays 3 := ⟨mkX1_lays, RX1, "AloneRooms$Once", ⟨"AloneRooms$Once", "lays", "(ZZI)Z"⟩, TX1, 0, cX5_lays, 4, (some .boolean), rfl, by decide, (mt 818 (by decide +kernel) rfl), (mt 569 (by decide +kernel) rfl), (mt 567 (by decide +kernel) rfl), (mt 576 (by decide +kernel) rfl), (mt 577 (by decide +kernel) rfl), (mt 584 (by decide +kernel) rfl), by decide +kernel, by decide +kernel, by decide +kernel⟩
theorem moX11_232_3 : MO RX11 232 3 kX5_lays 3 := ⟨mkX5_lays, RX3, "AloneRooms$Once", ⟨"AloneRooms$Once", "lays", "(ZZI)Z"⟩, TX3, 0, cX5_lays, 4, (some .boolean), rfl, by decide, (mt 818 (by decide +kernel) rfl), (mt 569 (by decide +kernel) rfl), (mt 567 (by decide +kernel) rfl), (mt 579 (by decide +kernel) rfl), (mt 567 (by decide +kernel) rfl), (mt 584 (by decide +kernel) rfl), by decide +kernel, by decide +kernel, by decide +kernel⟩
theorem moX11_232_7 : MO RX11 232 7 kX7_lays 3 := ⟨mkX7_lays, RX7, "AloneRooms$Once", ⟨"AloneRooms$Once", "lays", "(ZZI)Z"⟩, TX7, 0, cX5_lays, 4, (some .boolean), rfl, by decide, (mt 818 (by decide +kernel) rfl), (mt 569 (by decide +kernel) rfl), (mt 567 (by decide +kernel) rfl), (mt 580 (by decide +kernel) rfl), (mt 581 (by decide +kernel) rfl), (mt 584 (by decide +kernel) rfl), by decide +kernel, by decide +kernel, by decide +kernel⟩
theorem moX11_232_0 : MO RX11 232 0 kX0_lays 3 := ⟨mkX0_lays, RX0, "AloneRooms$Once", ⟨"AloneRooms$Once", "lays", "(ZZI)Z"⟩, TX0, 0, cX5_lays, 4, (some .boolean), rfl, by decide, (mt 818 (by decide +kernel) rfl), (mt 569 (by decide +kernel) rfl), (mt 567 (by decide +kernel) rfl), (mt 570 (by decide +kernel) rfl), (mt 571 (by decide +kernel) rfl), (mt 584 (by decide +kernel) rfl), by decide +kernel, by decide +kernel, by decide +kernel⟩
end
section
def letb {α β : Type} (x : α) (f : α → β) : β := f x
theorem letb_at {α β : Type} {x z : α} {f : α → β} {y : β} (h : letb x f = y) (e : z = x) : f z = y := by subst e; exact h
def chk {α : Type} (b : Bool) (x : Option α) : Option α := if b = true then x else none
theorem chk_at {α : Type} {b : Bool} {x : Option α} {y : α} (h : chk b x = some y) : b = true ∧ x = some y := by
  unfold chk at h
  split at h
  · exact ⟨by assumption, h⟩
  · cases h
def bnd {α β : Type} (x : Option α) (f : α → Option β) : Option β := match x with
  | none => none
  | some a => f a
theorem bnd_at {α β : Type} {x : Option α} {f : α → Option β} {y : β} (h : bnd x f = some y) : ∃ a, x = some a ∧ f a = some y := by
  cases x with
  | none => cases h
  | some a => exact ⟨a, rfl, h⟩
def bnd2 {α β γ : Type} (x : Option (α × β)) (f : α → β → Option γ) : Option γ := match x with
  | none => none
  | some p => f p.1 p.2
theorem bnd2_at {α β γ : Type} {x : Option (α × β)} {f : α → β → Option γ} {y : γ} (h : bnd2 x f = some y) : ∃ a b, x = some (a, b) ∧ f a b = some y := by
  cases x with
  | none => cases h
  | some p => exact ⟨p.1, p.2, rfl, h⟩
def inrO {σ ρ : Type} (x : Option ρ) : Option (σ ⊕ ρ) := match x with
  | none => none
  | some z => some (.inr z)
theorem inrO_at {σ ρ : Type} {x : Option ρ} {y : σ ⊕ ρ} (h : inrO x = some y) : ∃ z, x = some z ∧ y = .inr z := by
  cases x with
  | none => cases h
  | some z => cases h; exact ⟨z, rfl, rfl⟩
theorem ite_t {α : Type} {c : Prop} [Decidable c] {a b y : α} (h : (if c then a else b) = y) (hc : c) : a = y := by rw [if_pos hc] at h; exact h
theorem ite_f {α : Type} {c : Prop} [Decidable c] {a b y : α} (h : (if c then a else b) = y) (hc : ¬ c) : b = y := by rw [if_neg hc] at h; exact h
/-- a loop: a step goes on or ends -/
def iter {σ ρ : Type} (s : σ → Option (σ ⊕ ρ)) : Nat → σ → Option ρ
  | 0, _ => none
  | n + 1, x => match s x with
    | none => none
    | some (.inl x2) => iter s n x2
    | some (.inr r) => some r
theorem iter_at {σ ρ : Type} {s : σ → Option (σ ⊕ ρ)} {n : Nat} {x : σ} {r : ρ} (h : iter s (n + 1) x = some r) : (∃ x2, s x = some (.inl x2) ∧ iter s n x2 = some r) ∨ s x = some (.inr r) := by
  unfold iter at h
  split at h
  · cases h
  · exact Or.inl ⟨_, by assumption, h⟩
  · cases h
    exact Or.inr (by assumption)
/-- how often a loop may go on: more than any needs -/
def FU : Nat := 1000000
def isH (b : Nat) : Prop := b = 1 ∨ b = 9 ∨ b = 18 ∨ b = 26
def isW (w : Nat) : Prop := w = 43 ∨ w = 59 ∨ w = 61 ∨ w = 69
def isA (a : Nat) : Prop := a < NC ∧ lk a = 13
def isL (o : Nat) : Prop := o = 38 ∨ o = 39 ∨ o = 40 ∨ o = 41 ∨ o = 42
def asH (o : Option Nat) : Option Nat := match o with
  | none => none
  | some b => if b = 1 ∨ b = 9 ∨ b = 18 ∨ b = 26 then some b else none
def asL (o : Option Nat) : Option Nat := match o with
  | none => none
  | some b => if b = 38 ∨ b = 39 ∨ b = 40 ∨ b = 41 ∨ b = 42 then some b else none
def asA (o : Option Nat) : Option Nat := match o with
  | none => none
  | some b => if b < NC ∧ lk b = 13 then some b else none
theorem asH_at {o : Option Nat} {b : Nat} (h : asH o = some b) : o = some b ∧ isH b := by
  unfold asH at h
  split at h
  · cases h
  · split at h
    · cases h; exact ⟨rfl, by assumption⟩
    · cases h
theorem asL_at {o : Option Nat} {b : Nat} (h : asL o = some b) : o = some b ∧ isL b := by
  unfold asL at h
  split at h
  · cases h
  · split at h
    · cases h; exact ⟨rfl, by assumption⟩
    · cases h
theorem asA_at {o : Option Nat} {b : Nat} (h : asA o = some b) : o = some b ∧ isA b := by
  unfold asA at h
  split at h
  · cases h
  · split at h
    · cases h; exact ⟨rfl, by assumption⟩
    · cases h
theorem isH_lt {b : Nat} (h : isH b) : b < NC := by rcases h with rfl | rfl | rfl | rfl <;> decide
theorem isH_lk {b : Nat} (h : isH b) : lk b = 4 := by rcases h with rfl | rfl | rfl | rfl <;> rfl
theorem isW_lt {b : Nat} (h : isW b) : b < NC := by rcases h with rfl | rfl | rfl | rfl <;> decide
theorem isW_lk {b : Nat} (h : isW b) : lk b = 10 := by rcases h with rfl | rfl | rfl | rfl <;> rfl
theorem isL_lt {b : Nat} (h : isL b) : b < NC := by rcases h with rfl | rfl | rfl | rfl | rfl <;> decide
theorem isH_r1 {b : Nat} (h : isH b) : fin b 8 = some (b + 1) := by rcases h with rfl | rfl | rfl | rfl <;> rfl
theorem isH_l1 {b : Nat} (h : isH b) : b + 1 < NC := by rcases h with rfl | rfl | rfl | rfl <;> decide
theorem isH_k1 {b : Nat} (h : isH b) : lk (b + 1) = 13 := by rcases h with rfl | rfl | rfl | rfl <;> rfl
theorem isH_n1 {b : Nat} (h : isH b) : ln (b + 1) = 5 := by rcases h with rfl | rfl | rfl | rfl <;> rfl
theorem isH_a1 {b : Nat} (h : isH b) : isA (b + 1) := ⟨isH_l1 h, isH_k1 h⟩
theorem isH_r2 {b : Nat} (h : isH b) : fin b 9 = some (b + 2) := by rcases h with rfl | rfl | rfl | rfl <;> rfl
theorem isH_l2 {b : Nat} (h : isH b) : b + 2 < NC := by rcases h with rfl | rfl | rfl | rfl <;> decide
theorem isH_k2 {b : Nat} (h : isH b) : lk (b + 2) = 13 := by rcases h with rfl | rfl | rfl | rfl <;> rfl
theorem isH_n2 {b : Nat} (h : isH b) : ln (b + 2) = 5 := by rcases h with rfl | rfl | rfl | rfl <;> rfl
theorem isH_a2 {b : Nat} (h : isH b) : isA (b + 2) := ⟨isH_l2 h, isH_k2 h⟩
theorem isH_r3 {b : Nat} (h : isH b) : fin b 10 = some (b + 3) := by rcases h with rfl | rfl | rfl | rfl <;> rfl
theorem isH_l3 {b : Nat} (h : isH b) : b + 3 < NC := by rcases h with rfl | rfl | rfl | rfl <;> decide
theorem isH_k3 {b : Nat} (h : isH b) : lk (b + 3) = 13 := by rcases h with rfl | rfl | rfl | rfl <;> rfl
theorem isH_n3 {b : Nat} (h : isH b) : ln (b + 3) = 5 := by rcases h with rfl | rfl | rfl | rfl <;> rfl
theorem isH_a3 {b : Nat} (h : isH b) : isA (b + 3) := ⟨isH_l3 h, isH_k3 h⟩
theorem isH_r4 {b : Nat} (h : isH b) : fin b 11 = some (b + 4) := by rcases h with rfl | rfl | rfl | rfl <;> rfl
theorem isH_l4 {b : Nat} (h : isH b) : b + 4 < NC := by rcases h with rfl | rfl | rfl | rfl <;> decide
theorem isH_k4 {b : Nat} (h : isH b) : lk (b + 4) = 13 := by rcases h with rfl | rfl | rfl | rfl <;> rfl
theorem isH_n4 {b : Nat} (h : isH b) : ln (b + 4) = 4 := by rcases h with rfl | rfl | rfl | rfl <;> rfl
theorem isH_a4 {b : Nat} (h : isH b) : isA (b + 4) := ⟨isH_l4 h, isH_k4 h⟩
theorem isH_r5 {b : Nat} (h : isH b) : fin b 12 = some (b + 5) := by rcases h with rfl | rfl | rfl | rfl <;> rfl
theorem isH_l5 {b : Nat} (h : isH b) : b + 5 < NC := by rcases h with rfl | rfl | rfl | rfl <;> decide
theorem isH_k5 {b : Nat} (h : isH b) : lk (b + 5) = 13 := by rcases h with rfl | rfl | rfl | rfl <;> rfl
theorem isH_n5 {b : Nat} (h : isH b) : ln (b + 5) = 16 := by rcases h with rfl | rfl | rfl | rfl <;> rfl
theorem isH_a5 {b : Nat} (h : isH b) : isA (b + 5) := ⟨isH_l5 h, isH_k5 h⟩
theorem isH_r6 {b : Nat} (h : isH b) : fin b 13 = some (b + 6) := by rcases h with rfl | rfl | rfl | rfl <;> rfl
theorem isH_l6 {b : Nat} (h : isH b) : b + 6 < NC := by rcases h with rfl | rfl | rfl | rfl <;> decide
theorem isH_k6 {b : Nat} (h : isH b) : lk (b + 6) = 13 := by rcases h with rfl | rfl | rfl | rfl <;> rfl
theorem isH_n6 {b : Nat} (h : isH b) : ln (b + 6) = 8 := by rcases h with rfl | rfl | rfl | rfl <;> rfl
theorem isH_a6 {b : Nat} (h : isH b) : isA (b + 6) := ⟨isH_l6 h, isH_k6 h⟩
theorem isH_r7 {b : Nat} (h : isH b) : fin b 14 = some (b + 7) := by rcases h with rfl | rfl | rfl | rfl <;> rfl
theorem isH_l7 {b : Nat} (h : isH b) : b + 7 < NC := by rcases h with rfl | rfl | rfl | rfl <;> decide
theorem isH_k7 {b : Nat} (h : isH b) : lk (b + 7) = 13 := by rcases h with rfl | rfl | rfl | rfl <;> rfl
theorem isH_n7 {b : Nat} (h : isH b) : ln (b + 7) = 80 := by rcases h with rfl | rfl | rfl | rfl <;> rfl
theorem isH_a7 {b : Nat} (h : isH b) : isA (b + 7) := ⟨isH_l7 h, isH_k7 h⟩
theorem isW_r1 {b : Nat} (h : isW b) : fin b 2 = some (b + 1) := by rcases h with rfl | rfl | rfl | rfl <;> rfl
theorem isW_l1 {b : Nat} (h : isW b) : b + 1 < NC := by rcases h with rfl | rfl | rfl | rfl <;> decide
theorem isW_k1 {b : Nat} (h : isW b) : lk (b + 1) = 13 := by rcases h with rfl | rfl | rfl | rfl <;> rfl
theorem isW_n1 {b : Nat} (h : isW b) : ln (b + 1) = 4 := by rcases h with rfl | rfl | rfl | rfl <;> rfl
theorem isW_a1 {b : Nat} (h : isW b) : isA (b + 1) := ⟨isW_l1 h, isW_k1 h⟩
section GH
variable {E : EV} {d : Nat} {k : MD} {pc : Nat} {L L' : List (Option Value)} {st : List Value} {I J : Mem} {r : Option Value × Mem} {k2 : MD} {av rest : List Value} {idx n b : Nat}
theorem G.nmI (h : ∀ J, J = I → G E d k pc L st J r) : G E d k pc L st I r := h I rfl
theorem G.nmi {x : Int32} (h : ∀ y, y = x → G E d k pc L (.int y :: st) I r) : G E d k pc L (.int x :: st) I r := h x rfl
theorem G.nml {x : Int64} (h : ∀ y, y = x → G E d k pc L (.long y :: st) I r) : G E d k pc L (.long x :: st) I r := h x rfl
theorem G.inc {i : Nat} {n : Int} {x w : Int32} (hd : decode k.2.1 pc = .ok (.iinc i n, 3)) (hw : Int32.ofInt n = w) (hx : L[i]? = some (some (.int x))) (hn : i < k.2.2.1) (hok : okst L i = true) (hL : L.set i (some (.int (x + w))) = L') (kk : G E d k (pc + 3) L' st I r) : G E d k pc L st I r := G.iinc hd hx (by rw [hw]) hn hok hL kk
theorem G.iald' {a n : Nat} {i : Int32} (hd : decode k.2.1 pc = .ok (.iaload, 1)) (ha : a < NC) (hk : lk a = 13) (hn : ln a = n) (hin : inb i n = true) (kk : G E d k (pc + 1) L (.int (I a (ix i)) :: st) I r) : G E d k pc L (.int i :: .ref a :: st) I r := G.iald hd ha hk (by rw [hn]; exact hin) kk
theorem G.iast' {a n : Nat} {i x : Int32} (hd : decode k.2.1 pc = .ok (.iastore, 1)) (ha : a < NC) (hk : lk a = 13) (hn : ln a = n) (hin : inb i n = true) (kk : G E d k (pc + 1) L st (up2 I a (ix i) x) r) : G E d k pc L (.int x :: .int i :: .ref a :: st) I r := G.iast hd ha hk (by rw [hn]; exact hin) kk
theorem G.acopy' {a a0 n0 n1 : Nat} {sp dp n : Int32} (hd : decode k.2.1 pc = .ok (.invokestatic idx, 3)) (ms : MA k.1.cls idx) (ha0 : a0 < NC) (hk0 : lk a0 = 13) (hn0 : ln a0 = n0) (ha : a < NC) (hk : lk a = 13) (hn1 : ln a = n1) (hok : cpok sp dp n n0 n1 = true) (hW : (rest.map fun v => v.category).sum ≤ 8) (kk : G E (d + 1) k (pc + 3) L rest (upA I a (cpA (I a0) (I a) (ix sp) (ix dp) (ix n))) r) : G E (d + 1) k pc L (.int n :: .int dp :: .ref a :: .int sp :: .ref a0 :: rest) I r := G.acopy hd ms ha0 hk0 ha hk (by rw [hn0, hn1]; exact hok) hW kk
theorem G.tsw_at {dflt lo hi : Int} {offs : Array Int} {len : Nat} {x j : Int32} {off : Int} {tgt : Nat} (hd : decode k.2.1 pc = .ok (.tableswitch dflt lo hi offs, len)) (hx : x = j) (h1 : ¬ j.toInt < lo) (h2 : ¬ hi < j.toInt) (ho : offs[(j.toInt - lo).toNat]? = some off) (ht : (pc : Int) + off = (tgt : Int)) (kk : G E d k tgt L st I r) : G E d k pc L (.int x :: st) I r := by
  subst hx
  exact G.tsw_in hd h1 h2 ho ht kk
theorem G.iret' {v : Int32} (hd : decode k.2.1 pc = .ok (.ireturn, 1)) (hr : k.2.2.2 = some .int) (hK : (some (.int v), I) = r) : G E d k pc L [.int v] I r := hK ▸ G.iret hd hr
theorem G.zret' {v : Int32} (hd : decode k.2.1 pc = .ok (.ireturn, 1)) (hr : k.2.2.2 = some .boolean) (hz : zb v = true) (hK : (some (.int v), I) = r) : G E d k pc L [.int v] I r := hK ▸ G.zret hd hr hz
theorem G.nret' {v : Int32} {ty : FieldType} (hd : decode k.2.1 pc = .ok (.ireturn, 1)) (hr : k.2.2.2 = some ty) (hn : narrow ty (.int v) = .int v) (hK : (some (.int v), I) = r) : G E d k pc L [.int v] I r := hK ▸ G.nret hd hr hn
theorem G.lret' {v : Int64} (hd : decode k.2.1 pc = .ok (.lreturn, 1)) (hr : k.2.2.2 = some .long) (hK : (some (.long v), I) = r) : G E d k pc L [.long v] I r := hK ▸ G.lret hd hr
theorem G.vret' (hd : decode k.2.1 pc = .ok (.return_, 1)) (hr : k.2.2.2 = none) (hK : (none, I) = r) : G E d k pc L [] I r := hK ▸ G.vret hd hr
theorem G.callSi {v : Int32} (hd : decode k.2.1 pc = .ok (.invokestatic idx, 3)) (ms : MS k.1.cls idx k2 n) (hg : Gm E d k2 av I (some (.int v), J)) (hst : st = av.reverse ++ rest) (hn : av.length = n) (hW : (rest.map fun v => v.category).sum ≤ 8) (kk : G E (d + 1) k (pc + 3) L (.int v :: rest) J r) : G E (d + 1) k pc L st I r := G.callS hd ms hg hst hn hW kk
theorem G.callNi {v : Int32} (hd : decode k.2.1 pc = .ok (.invokestatic idx, 3)) (ms : MN k.1.cls idx k2 n) (hg : Gm E d k2 av I (some (.int v), J)) (hst : st = av.reverse ++ rest) (hn : av.length = n) (hW : (rest.map fun v => v.category).sum ≤ 8) (kk : G E (d + 1) k (pc + 3) L (.int v :: rest) J r) : G E (d + 1) k pc L st I r := G.callN hd ms hg hst hn hW kk
theorem G.callVi {v : Int32} {ci : Nat} (hd : decode k.2.1 pc = .ok (.invokevirtual idx, 3)) (ms : MV k.1.cls idx ci k2 n) (hg : Gm E d k2 (.ref b :: av) I (some (.int v), J)) (hb : b < NC) (hk : lk b = ci) (hst : st = av.reverse ++ .ref b :: rest) (hn : av.length = n) (hW : (rest.map fun v => v.category).sum ≤ 8) (kk : G E (d + 1) k (pc + 3) L (.int v :: rest) J r) : G E (d + 1) k pc L st I r := G.callV hd ms hg hb hk hst hn hW kk
theorem G.callOi {v : Int32} {ci : Nat} (hd : decode k.2.1 pc = .ok (.invokevirtual idx, 3)) (ms : MO k.1.cls idx ci k2 n) (hg : Gm E d k2 (.ref b :: av) I (some (.int v), J)) (hb : b < NC) (hk : lk b = ci) (hst : st = av.reverse ++ .ref b :: rest) (hn : av.length = n) (hW : (rest.map fun v => v.category).sum ≤ 8) (kk : G E (d + 1) k (pc + 3) L (.int v :: rest) J r) : G E (d + 1) k pc L st I r := G.callO hd ms hg hb hk hst hn hW kk
theorem G.callPi {v : Int32} {ci : Nat} (hd : decode k.2.1 pc = .ok (.invokespecial idx, 3)) (ms : MP k.1.cls idx ci k2 n) (hg : Gm E d k2 (.ref b :: av) I (some (.int v), J)) (hb : b < NC) (hk : lk b = ci) (hst : st = av.reverse ++ .ref b :: rest) (hn : av.length = n) (hW : (rest.map fun v => v.category).sum ≤ 8) (kk : G E (d + 1) k (pc + 3) L (.int v :: rest) J r) : G E (d + 1) k pc L st I r := G.callP hd ms hg hb hk hst hn hW kk
theorem G.callSl {v : Int64} (hd : decode k.2.1 pc = .ok (.invokestatic idx, 3)) (ms : MS k.1.cls idx k2 n) (hg : Gm E d k2 av I (some (.long v), J)) (hst : st = av.reverse ++ rest) (hn : av.length = n) (hW : (rest.map fun v => v.category).sum ≤ 8) (kk : G E (d + 1) k (pc + 3) L (.long v :: rest) J r) : G E (d + 1) k pc L st I r := G.callS hd ms hg hst hn hW kk
theorem G.callNl {v : Int64} (hd : decode k.2.1 pc = .ok (.invokestatic idx, 3)) (ms : MN k.1.cls idx k2 n) (hg : Gm E d k2 av I (some (.long v), J)) (hst : st = av.reverse ++ rest) (hn : av.length = n) (hW : (rest.map fun v => v.category).sum ≤ 8) (kk : G E (d + 1) k (pc + 3) L (.long v :: rest) J r) : G E (d + 1) k pc L st I r := G.callN hd ms hg hst hn hW kk
theorem G.callVl {v : Int64} {ci : Nat} (hd : decode k.2.1 pc = .ok (.invokevirtual idx, 3)) (ms : MV k.1.cls idx ci k2 n) (hg : Gm E d k2 (.ref b :: av) I (some (.long v), J)) (hb : b < NC) (hk : lk b = ci) (hst : st = av.reverse ++ .ref b :: rest) (hn : av.length = n) (hW : (rest.map fun v => v.category).sum ≤ 8) (kk : G E (d + 1) k (pc + 3) L (.long v :: rest) J r) : G E (d + 1) k pc L st I r := G.callV hd ms hg hb hk hst hn hW kk
theorem G.callOl {v : Int64} {ci : Nat} (hd : decode k.2.1 pc = .ok (.invokevirtual idx, 3)) (ms : MO k.1.cls idx ci k2 n) (hg : Gm E d k2 (.ref b :: av) I (some (.long v), J)) (hb : b < NC) (hk : lk b = ci) (hst : st = av.reverse ++ .ref b :: rest) (hn : av.length = n) (hW : (rest.map fun v => v.category).sum ≤ 8) (kk : G E (d + 1) k (pc + 3) L (.long v :: rest) J r) : G E (d + 1) k pc L st I r := G.callO hd ms hg hb hk hst hn hW kk
theorem G.callPl {v : Int64} {ci : Nat} (hd : decode k.2.1 pc = .ok (.invokespecial idx, 3)) (ms : MP k.1.cls idx ci k2 n) (hg : Gm E d k2 (.ref b :: av) I (some (.long v), J)) (hb : b < NC) (hk : lk b = ci) (hst : st = av.reverse ++ .ref b :: rest) (hn : av.length = n) (hW : (rest.map fun v => v.category).sum ≤ 8) (kk : G E (d + 1) k (pc + 3) L (.long v :: rest) J r) : G E (d + 1) k pc L st I r := G.callP hd ms hg hb hk hst hn hW kk
theorem G.callSv (hd : decode k.2.1 pc = .ok (.invokestatic idx, 3)) (ms : MS k.1.cls idx k2 n) (hg : Gm E d k2 av I (none, J)) (hst : st = av.reverse ++ rest) (hn : av.length = n) (hW : (rest.map fun v => v.category).sum ≤ 8) (kk : G E (d + 1) k (pc + 3) L (rest) J r) : G E (d + 1) k pc L st I r := G.callS hd ms hg hst hn hW kk
theorem G.callNv (hd : decode k.2.1 pc = .ok (.invokestatic idx, 3)) (ms : MN k.1.cls idx k2 n) (hg : Gm E d k2 av I (none, J)) (hst : st = av.reverse ++ rest) (hn : av.length = n) (hW : (rest.map fun v => v.category).sum ≤ 8) (kk : G E (d + 1) k (pc + 3) L (rest) J r) : G E (d + 1) k pc L st I r := G.callN hd ms hg hst hn hW kk
theorem G.callVv {ci : Nat} (hd : decode k.2.1 pc = .ok (.invokevirtual idx, 3)) (ms : MV k.1.cls idx ci k2 n) (hg : Gm E d k2 (.ref b :: av) I (none, J)) (hb : b < NC) (hk : lk b = ci) (hst : st = av.reverse ++ .ref b :: rest) (hn : av.length = n) (hW : (rest.map fun v => v.category).sum ≤ 8) (kk : G E (d + 1) k (pc + 3) L (rest) J r) : G E (d + 1) k pc L st I r := G.callV hd ms hg hb hk hst hn hW kk
theorem G.callOv {ci : Nat} (hd : decode k.2.1 pc = .ok (.invokevirtual idx, 3)) (ms : MO k.1.cls idx ci k2 n) (hg : Gm E d k2 (.ref b :: av) I (none, J)) (hb : b < NC) (hk : lk b = ci) (hst : st = av.reverse ++ .ref b :: rest) (hn : av.length = n) (hW : (rest.map fun v => v.category).sum ≤ 8) (kk : G E (d + 1) k (pc + 3) L (rest) J r) : G E (d + 1) k pc L st I r := G.callO hd ms hg hb hk hst hn hW kk
theorem G.callPv {ci : Nat} (hd : decode k.2.1 pc = .ok (.invokespecial idx, 3)) (ms : MP k.1.cls idx ci k2 n) (hg : Gm E d k2 (.ref b :: av) I (none, J)) (hb : b < NC) (hk : lk b = ci) (hst : st = av.reverse ++ .ref b :: rest) (hn : av.length = n) (hW : (rest.map fun v => v.category).sum ≤ 8) (kk : G E (d + 1) k (pc + 3) L (rest) J r) : G E (d + 1) k pc L st I r := G.callP hd ms hg hb hk hst hn hW kk
end GH
end
section
section GS
variable {E : EV} {d : Nat} {k : MD} {pc : Nat} {L L' : List (Option Value)} {st : List Value} {I J : Mem} {r : Option Value × Mem} {v : Option Value} {k2 : MD} {av rest : List Value} {idx n b i : Nat}
/-- a String constant of the reader -/
theorem G.ldcS (hd : decode k.2.1 pc = .ok (.ldc idx, 2)) (hi : i < 7) (hx : (strT.getD i (0, "")).1 = idx) (hk : k.1.cls = RX8) (kk : G E d k (pc + 2) L (.ref (1000 + i) :: st) I r) : G E d k pc L st I r := by
  intro p e s m args below meth c H locs ls C hP hD hS hl
  subst hx
  exact va_ldcS (own := RX8) C.1 C.2.1 (by rw [← hk]; exact C.2.2.2.2.1) (C.2.2.2.2.2.2.2.2.2.2.1 i hi) hd (kk p e s m args below meth c H locs ls C hP hD hS hl)
theorem G.getSV (hd : decode k.2.1 pc = .ok (.getfield idx, 3)) (hi : i < 7) (hl0 : Cond.fieldLink k.1.cls idx "java/lang/String" "value" "[B" ∈ lw_g) (kk : G E d k (pc + 3) L (.ref (1010 + i) :: st) I r) : G E d k pc L (.ref (1000 + i) :: st) I r := by
  intro p e s m args below meth c H locs ls C hP hD hS hl
  exact vk_getf C.1 C.2.1 (C.2.2.2.2.2.2.2.2.2.2.2.1.1 i hi).2.2.1 hS C.2.2.2.2.1 (C.2.2.2.2.2.2.hts args _ hl0) (fun _ h => h) hd (kk p e s m args below meth c H locs ls C hP hD hS hl)
theorem G.getSC (hd : decode k.2.1 pc = .ok (.getfield idx, 3)) (hi : i < 7) (hl0 : Cond.fieldLink k.1.cls idx "java/lang/String" "coder" "B" ∈ lw_g) (kk : G E d k (pc + 3) L (.int 0 :: st) I r) : G E d k pc L (.ref (1000 + i) :: st) I r := by
  intro p e s m args below meth c H locs ls C hP hD hS hl
  exact vk_getf C.1 C.2.1 (C.2.2.2.2.2.2.2.2.2.2.2.1.1 i hi).2.1 hS C.2.2.2.2.1 (C.2.2.2.2.2.2.hts args _ hl0) (fun _ h => h) hd (kk p e s m args below meth c H locs ls C hP hD hS hl)
theorem G.getCS (hd : decode k.2.1 pc = .ok (.getstatic idx, 3)) (hl0 : Cond.fieldLink k.1.cls idx "java/lang/String" "COMPACT_STRINGS" "Z" ∈ lw_g) (kk : G E d k (pc + 3) L (.int 1 :: st) I r) : G E d k pc L st I r := by
  intro p e s m args below meth c H locs ls C hP hD hS hl
  exact va_gets C.1 C.2.1 C.2.2.2.2.2.2.2.2.2.2.2.2.1 hS C.2.2.2.2.1 (C.2.2.2.2.2.2.hts args _ hl0) (fun _ h => h) hd (kk p e s m args below meth c H locs ls C hP hD hS hl)
theorem G.getSF (hd : decode k.2.1 pc = .ok (.getstatic idx, 3)) (hl0 : Cond.fieldLink k.1.cls idx "jdk/internal/util/Preconditions" "SIOOBE_FORMATTER" "Ljava/util/function/BiFunction;" ∈ lw_g) (kk : ∀ w : Value, (w = .null ∨ w = .ref 1020) → G E d k (pc + 3) L (w :: st) I r) : G E d k pc L st I r := by
  intro p e s m args below meth c H locs ls C hP hD hS hl
  rcases C.2.2.2.2.2.2.2.2.2.2.2.2.2 with h | h
  · exact va_gets C.1 C.2.1 h hS C.2.2.2.2.1 (C.2.2.2.2.2.2.hts args _ hl0) (fun _ h => h) hd (kk .null (Or.inl rfl) p e s m args below meth c H locs ls C hP hD hS hl)
  · exact va_gets C.1 C.2.1 h hS C.2.2.2.2.1 (C.2.2.2.2.2.2.hts args _ hl0) (fun _ h => h) hd (kk (.ref 1020) (Or.inr rfl) p e s m args below meth c H locs ls C hP hD hS hl)
theorem G.slen (hd : decode k.2.1 pc = .ok (.arraylength, 1)) (hi : i < 7) (kk : G E d k (pc + 1) L (.int (nI (strN.getD i 0)) :: st) I r) : G E d k pc L (.ref (1010 + i) :: st) I r := by
  intro p e s m args below meth c H locs ls C hP hD hS hl
  exact va_tlen C.1 C.2.1 (C.2.2.2.2.2.2.2.2.2.2.2.1.1 i hi).2.2.2 hS rfl hd (kk p e s m args below meth c H locs ls C hP hD hS hl)
theorem G.sbld {j : Int32} (hd : decode k.2.1 pc = .ok (.baload, 1)) (hi : i < 7) (hin : inb j (strN.getD i 0) = true) (kk : G E d k (pc + 1) L (.int ((strB.getD i []).getD (ix j) 0) :: st) I r) : G E d k pc L (.int j :: .ref (1010 + i) :: st) I r := by
  intro p e s m args below meth c H locs ls C hP hD hS hl
  exact va_tb C.1 C.2.1 (C.2.2.2.2.2.2.2.2.2.2.2.1.1 i hi).2.2.2 hS (inb_in hin) rfl hd (kk p e s m args below meth c H locs ls C hP hD hS hl)
def MJ (own : String) (idx : Nat) (k2 : MD) (n : Nat) : Prop := MK k2 n ∧ Cond.methodLink own idx k2.1 ∈ lw_g ∧ Cond.instanceMethod k2.1 ∈ lw_g ∧ Cond.selects "java/lang/String" k2.1 k2.1 ∈ lw_g
theorem G.callJ (hd : decode k.2.1 pc = .ok (.invokevirtual idx, 3)) (ms : MJ k.1.cls idx k2 n) (hg : Gm E d k2 (.ref (1000 + i) :: av) I (v, J)) (hi : i < 7) (hst : st = av.reverse ++ .ref (1000 + i) :: rest) (hn : av.length = n) (hW : (rest.map fun v => v.category).sum ≤ 8) (kk : G E (d + 1) k (pc + 3) L (v.toList ++ rest) J r) : G E (d + 1) k pc L st I r := by
  intro p e s m args below meth c H locs ls C hP hD hS hl
  obtain ⟨mk, m1, m2, m3⟩ := ms
  have hts := C.2.2.2.2.2.2.hts args
  have hrun := va_runV (g := F0 m pc ls (st.map (tv E))) (nL := k.2.2.1) (b := eAd E (1000 + i)) (As := av.map (tv E)) (rest := rest.map (tv E)) (n := n) (cells := 0) (slots := 0) (below := below) (e := e) (R := rmd (d + 1)) (locs := locs) (H := H) (C := "java/lang/String") (bytes := k2.2.1) (maxL := k2.2.2.1) (ret := k2.2.2.2) (meth := meth) ⟨C.1, C.2.1, C.2.2.2.1, C.2.2.2.2.1, hts⟩ hg ⟨⟨rfl, rfl, (mk_room mk).1, (mk_room mk).2, mk_words (args := args) C.2.2.2.2.2.2 mk, List.mem_singleton_self _, hts _ mk.1, hts _ mk.2.1, ⟨mk.2.2.1, mk.2.2.2.1⟩, mk_len mk, hts _ m1⟩, hts _ m2, hts _ m3⟩ ⟨Gm_blind E _ I, vk_recv (adK := fun i => eAd E (1000 + i)) (i := i) C.2.2.2.2.2.2.2.2.2.2.2.1 hi hS, Gm_pre C.2.2.2.2.2.2 hP hD hS (.ref (1000 + i) :: av)⟩ rfl (by rw [List.length_map]; exact hn) hl.1 (by rw [hst]; exact st_revV E (1000 + i) av rest) (lv_room (by rw [st_cat]; exact hW)) hd ⟨Nat.le_refl _, Nat.le_refl _⟩
  refine w_back hrun hS (fun H1 locs1 hP1 hD1 hS1 => ?_)
  rw [st_back]
  exact kk p e s m args below meth c H1 locs1 ls C hP1 hD1 hS1 hl
theorem G.callJi {v : Int32} (hd : decode k.2.1 pc = .ok (.invokevirtual idx, 3)) (ms : MJ k.1.cls idx k2 n) (hg : Gm E d k2 (.ref (1000 + i) :: av) I (some (.int v), J)) (hi : i < 7) (hst : st = av.reverse ++ .ref (1000 + i) :: rest) (hn : av.length = n) (hW : (rest.map fun v => v.category).sum ≤ 8) (kk : G E (d + 1) k (pc + 3) L (.int v :: rest) J r) : G E (d + 1) k pc L st I r := G.callJ hd ms hg hi hst hn hW kk
/-- super.m() whose code is the superclass's superclass's -/
def MQ2 (own : String) (idx ci : Nat) (k2 : MD) (n : Nat) : Prop := MK k2 n ∧ ∃ (x : MethodName) (C : String) (T : u_T) (N : Nat), Cond.methodLink own idx x ∈ lw_g ∧ Cond.sameMethod x.cls k2.1.cls x.name x.desc ∈ lw_g ∧ Cond.superclass own x.cls ∈ lw_g ∧ Cond.superclass x.cls k2.1.cls ∈ lw_g ∧ Cond.instanceMethod k2.1 ∈ lw_g ∧ x.name ≠ "<init>" ∧ k2.1 = ⟨k2.1.cls, x.name, x.desc⟩ ∧ vwCl[ci]? = some (C, T, N) ∧ ci < 13
theorem G.callQi {ci : Nat} {v : Int32} (hd : decode k.2.1 pc = .ok (.invokespecial idx, 3)) (ms : MQ2 k.1.cls idx ci k2 n) (hg : Gm E d k2 (.ref b :: av) I (some (.int v), J)) (hb : b < NC) (hk : lk b = ci) (hst : st = av.reverse ++ .ref b :: rest) (hn : av.length = n) (hW : (rest.map fun v => v.category).sum ≤ 8) (kk : G E (d + 1) k (pc + 3) L (.int v :: rest) J r) : G E (d + 1) k pc L st I r := by
  intro p e s m args below meth c H locs ls C hP hD hS hl
  obtain ⟨mk, x, C9, T9, N9, m1, m2, m3, m4, m5, m6, m7, m8, m9⟩ := ms
  subst hk
  have hts := C.2.2.2.2.2.2.hts args
  have hown := C.2.2.2.2.1
  obtain ⟨mk0, methM, hnamed, hmethM, hstM, habM⟩ := Cond.instanceMethod_spec (hts _ m5)
  obtain ⟨methM', cM, hmethM', -, -, -, -, -, -, hsigM⟩ := Cond.code_spec hnamed (hts _ mk.1)
  cases hmethM.symm.trans hmethM'
  obtain ⟨ps, dk, kp, hps, hdk, hkp, hsuper, -, -, hnid⟩ := Cond.superclass_spec hown (hts _ m3)
  obtain ⟨pt, dk2, kp2, hpt, hdk2, hkp2, hsuper2, -, -, -⟩ := Cond.superclass_spec hps (hts _ m4)
  have hpm : pt = mk0.cls := Option.some.inj (hpt.symm.trans (findClass_of_methodNamed hnamed))
  have hsz : ps < s.vm.classes.size := (Array.getElem?_eq_some_iff.mp hdk2).1
  have hsub : s.vm.isSubclass ps mk0.cls = true := by
    rw [← hpm]
    unfold Vm.isSubclass
    obtain ⟨q, hq⟩ : ∃ q, s.vm.classes.size = q + 1 := ⟨s.vm.classes.size - 1, (Nat.succ_pred_eq_of_pos (Nat.lt_of_le_of_lt (Nat.zero_le _) hsz)).symm⟩
    rw [hq]
    simp [Vm.isSubclassAux, hdk2, hsuper2]
  have hn2 : s.methodNamed? ⟨k2.1.cls, x.name, x.desc⟩ = some mk0 := by rw [← m7]; exact hnamed
  obtain ⟨cellB, hcB, hoB, hclB⟩ := va_recv (ci := lk b) (q0 := b) C.2.2.2.2.2.2.2.2.2.1 hP m8 (by rw [wl_get E I hb, pic_r E I m9])
  have hkB : ∃ kB : Class, s.vm.classes[cellB.cls]? = some kB := by
    have h9 := (C.2.2.2.2.2.2.2.2.2.1.1 _ _ m8).2
    obtain ⟨f1, kC, f2, -⟩ := h9
    have e9 := Option.some.inj (hclB.symm.trans f1)
    rw [e9]
    exact ⟨kC, f2⟩
  obtain ⟨kB, hkB⟩ := hkB
  have hlen : (av.map (tv E)).length = methM.sig.parameters.length := by rw [List.length_map, hn]; exact mk_len mk _ hsigM
  have hK : Back E.1 (rmd (d + 1)) p e below s args k2.1 3 8 (PreOf (rmd (d + 1)) 0 0 (va_Pc ((Value.ref b :: av).map (tv E)) (fun U => CF E U ∧ va_P (eD E) vwCl (wl E I) U.heap ∧ va_D (eA E) (wl E I)))) (PostOf (Qr E (some (.int v), J)) 0 0 (eA E)) := back_of (bytes := k2.2.1) (maxL := k2.2.2.1) (ret := k2.2.2.2) hg (Gm_blind E _ I) rfl rfl (mk_room mk).1 (mk_room mk).2 (mk_words (args := args) C.2.2.2.2.2.2 mk) (List.mem_singleton_self _) (fun a' U hW => word_at hW (good_word mk.2.1) (hts _ mk.2.1))
  have hrun : va_Run p E.1 e (rmd (d + 1)) s m args below meth c H locs 0 0 0 0 (F0 m pc ls (st.map (tv E))) (rest.map (tv E)) (Qr E (some (.int v), J) ((Value.ref b :: av).map (tv E)).toArray) (eA E) := by
    intro T hT X
    obtain ⟨vm₁, X₁, hstep₁⟩ := X.invokespecialUp C.1 hown (hts _ m1) (hts _ m2) hn2 hmethM hstM habM m6 hdk hnid hps hsuper hsub (a := eAd E b) (cell := cellB) (by rw [hT]; exact hcB) (fun z h => by rw [h] at hoB; cases hoB) hkB (g := F0 m pc ls (st.map (tv E))) rfl (argsL := av.map (tv E)) (rest := rest.map (tv E)) hlen (by rw [hst]; exact st_revV E b av rest) (by rw [C.2.1]; exact hd)
    obtain ⟨v1, B, X', hpost, hsteps⟩ := hK m meth c ⟨T.setVm vm₁, locs, 0, 0⟩ { F0 m pc ls (st.map (tv E)) with stack := rest.map (tv E) } (.invokespecial idx) mk0 (Value.ref (eAd E b) :: av.map (tv E)).toArray X₁ rfl (hl.1.trans C.2.2.2.1.symm) (by rw [C.2.1]; exact hd) (lv_room (by rw [st_cat]; exact hW)) (X₁.named hnamed) ⟨Nat.le_refl _, Nat.le_refl _, Gm_pre C.2.2.2.2.2.2 hP hD hS (.ref b :: av) (T.setVm vm₁) hT X₁.warmed⟩
    obtain ⟨g', mk9, t, L9, e1, e2, hq, h1, hL9, h2, h3⟩ := hpost
    obtain ⟨U', l2, c2, s2⟩ := B
    dsimp only [Pt.U, Pt.locs, Pt.cells, Pt.slots] at X' e1 e2 h1 h2 h3 hsteps
    subst h1; subst h2; subst h3
    exact ⟨v1, (T.setVm vm₁).calling g' mk9 (Value.ref (eAd E b) :: av.map (tv E)).toArray, t, U', L9, hT, X', hL9, e1, e2, hq, fun target h => hstep₁ _ (by rw [doInvoke_state]; exact hsteps.trans h)⟩
  refine w_back hrun hS (fun H1 locs1 hP1 hD1 hS1 => ?_)
  rw [st_back]
  exact kk p e s m args below meth c H1 locs1 ls C hP1 hD1 hS1 hl
end GS
end
section
theorem mpX7_7 : MP RX7 7 7 kX1_lays 3 := ⟨mkX1_lays, (mt 583 (by decide +kernel) rfl), (mt 1268 (by decide +kernel) rfl), (mt 177 (by decide +kernel) rfl), (mt 577 (by decide +kernel) rfl), by decide +kernel, ⟨RX7, TX7, 0, rfl⟩, by decide⟩
theorem mqX0_7 : MQ2 RX0 7 0 kX5_lays 3 := ⟨mkX5_lays, ⟨"AloneRooms$Halves", "lays", "(ZZI)Z"⟩, RX0, TX0, 0, (mt 573 (by decide +kernel) rfl), (mt 574 (by decide +kernel) rfl), (mt 184 (by decide +kernel) rfl), (mt 170 (by decide +kernel) rfl), (mt 567 (by decide +kernel) rfl), by decide +kernel, rfl, rfl, by decide⟩
theorem mjX8_114 : MJ RX8 114 kJ0_length_8abf5 0 := ⟨mkJ0_length_8abf5, (mt 448 (by decide +kernel) rfl), (mt 449 (by decide +kernel) rfl), (mt 450 (by decide +kernel) rfl)⟩
theorem mjX8_118 : MJ RX8 118 kJ0_charAt_5068e 1 := ⟨mkJ0_charAt_5068e, (mt 458 (by decide +kernel) rfl), (mt 459 (by decide +kernel) rfl), (mt 460 (by decide +kernel) rfl)⟩
theorem mjJ0_335 : MJ RJ0 335 kJ0_coder_7d493 0 := ⟨mkJ0_coder_7d493, (mt 452 (by decide +kernel) rfl), (mt 453 (by decide +kernel) rfl), (mt 454 (by decide +kernel) rfl)⟩
theorem mjJ0_492 : MJ RJ0 492 kJ0_isLatin1_aae02 0 := ⟨mkJ0_isLatin1_aae02, (mt 462 (by decide +kernel) rfl), (mt 463 (by decide +kernel) rfl), (mt 464 (by decide +kernel) rfl)⟩
theorem flJ0_9 : Cond.fieldLink RJ0 9 "java/lang/String" "value" "[B" ∈ lw_g := (mt 1273 (by decide +kernel) rfl)
theorem flJ0_15 : Cond.fieldLink RJ0 15 "java/lang/String" "coder" "B" ∈ lw_g := (mt 1274 (by decide +kernel) rfl)
theorem flJ0_38 : Cond.fieldLink RJ0 38 "java/lang/String" "COMPACT_STRINGS" "Z" ∈ lw_g := (mt 456 (by decide +kernel) rfl)
theorem flJ0_1053 : Cond.fieldLink RJ0 1053 "jdk/internal/util/Preconditions" "SIOOBE_FORMATTER" "Ljava/util/function/BiFunction;" ∈ lw_g := (mt 472 (by decide +kernel) rfl)
theorem dJ3_checkIndex_8e157_0 : decode cJ3_checkIndex_8e157 0 = .ok (.iload_n 0, 1) := by decide +kernel
theorem dJ3_checkIndex_8e157_1 : decode cJ3_checkIndex_8e157 1 = .ok (.ifCond .lt 8, 3) := by decide +kernel
theorem dJ3_checkIndex_8e157_4 : decode cJ3_checkIndex_8e157 4 = .ok (.iload_n 0, 1) := by decide +kernel
theorem dJ3_checkIndex_8e157_5 : decode cJ3_checkIndex_8e157 5 = .ok (.iload_n 1, 1) := by decide +kernel
theorem dJ3_checkIndex_8e157_6 : decode cJ3_checkIndex_8e157 6 = .ok (.if_icmp .lt 10, 3) := by decide +kernel
theorem dJ3_checkIndex_8e157_9 : decode cJ3_checkIndex_8e157 9 = .ok (.aload_n 2, 1) := by decide +kernel
theorem dJ3_checkIndex_8e157_10 : decode cJ3_checkIndex_8e157 10 = .ok (.iload_n 0, 1) := by decide +kernel
theorem dJ3_checkIndex_8e157_11 : decode cJ3_checkIndex_8e157 11 = .ok (.iload_n 1, 1) := by decide +kernel
theorem dJ3_checkIndex_8e157_12 : decode cJ3_checkIndex_8e157 12 = .ok (.invokestatic 95, 3) := by decide +kernel
theorem dJ3_checkIndex_8e157_15 : decode cJ3_checkIndex_8e157 15 = .ok (.athrow, 1) := by decide +kernel
theorem dJ3_checkIndex_8e157_16 : decode cJ3_checkIndex_8e157 16 = .ok (.iload_n 0, 1) := by decide +kernel
theorem dJ3_checkIndex_8e157_17 : decode cJ3_checkIndex_8e157 17 = .ok (.ireturn, 1) := by decide +kernel
theorem dJ0_checkIndex_df160_0 : decode cJ0_checkIndex_df160 0 = .ok (.iload_n 0, 1) := by decide +kernel
theorem dJ0_checkIndex_df160_1 : decode cJ0_checkIndex_df160 1 = .ok (.iload_n 1, 1) := by decide +kernel
theorem dJ0_checkIndex_df160_2 : decode cJ0_checkIndex_df160 2 = .ok (.getstatic 1053, 3) := by decide +kernel
theorem dJ0_checkIndex_df160_5 : decode cJ0_checkIndex_df160 5 = .ok (.invokestatic 1059, 3) := by decide +kernel
theorem dJ0_checkIndex_df160_8 : decode cJ0_checkIndex_df160 8 = .ok (.pop, 1) := by decide +kernel
theorem dJ0_checkIndex_df160_9 : decode cJ0_checkIndex_df160 9 = .ok (.return_, 1) := by decide +kernel
theorem dJ0_length_8abf5_0 : decode cJ0_length_8abf5 0 = .ok (.aload_n 0, 1) := by decide +kernel
theorem dJ0_length_8abf5_1 : decode cJ0_length_8abf5 1 = .ok (.getfield 9, 3) := by decide +kernel
theorem dJ0_length_8abf5_4 : decode cJ0_length_8abf5 4 = .ok (.arraylength, 1) := by decide +kernel
theorem dJ0_length_8abf5_5 : decode cJ0_length_8abf5 5 = .ok (.aload_n 0, 1) := by decide +kernel
theorem dJ0_length_8abf5_6 : decode cJ0_length_8abf5 6 = .ok (.invokevirtual 335, 3) := by decide +kernel
theorem dJ0_length_8abf5_9 : decode cJ0_length_8abf5 9 = .ok (.ishr, 1) := by decide +kernel
theorem dJ0_length_8abf5_10 : decode cJ0_length_8abf5 10 = .ok (.ireturn, 1) := by decide +kernel
theorem dJ0_charAt_5068e_0 : decode cJ0_charAt_5068e 0 = .ok (.aload_n 0, 1) := by decide +kernel
theorem dJ0_charAt_5068e_1 : decode cJ0_charAt_5068e 1 = .ok (.invokevirtual 492, 3) := by decide +kernel
theorem dJ0_charAt_5068e_4 : decode cJ0_charAt_5068e 4 = .ok (.ifCond .eq 12, 3) := by decide +kernel
theorem dJ0_charAt_5068e_7 : decode cJ0_charAt_5068e 7 = .ok (.aload_n 0, 1) := by decide +kernel
theorem dJ0_charAt_5068e_8 : decode cJ0_charAt_5068e 8 = .ok (.getfield 9, 3) := by decide +kernel
theorem dJ0_charAt_5068e_11 : decode cJ0_charAt_5068e 11 = .ok (.iload_n 1, 1) := by decide +kernel
theorem dJ0_charAt_5068e_12 : decode cJ0_charAt_5068e 12 = .ok (.invokestatic 495, 3) := by decide +kernel
theorem dJ0_charAt_5068e_15 : decode cJ0_charAt_5068e 15 = .ok (.ireturn, 1) := by decide +kernel
theorem dJ0_charAt_5068e_16 : decode cJ0_charAt_5068e 16 = .ok (.aload_n 0, 1) := by decide +kernel
theorem dJ0_charAt_5068e_17 : decode cJ0_charAt_5068e 17 = .ok (.getfield 9, 3) := by decide +kernel
theorem dJ0_charAt_5068e_20 : decode cJ0_charAt_5068e 20 = .ok (.iload_n 1, 1) := by decide +kernel
theorem dJ0_charAt_5068e_21 : decode cJ0_charAt_5068e 21 = .ok (.invokestatic 498, 3) := by decide +kernel
theorem dJ0_charAt_5068e_24 : decode cJ0_charAt_5068e 24 = .ok (.ireturn, 1) := by decide +kernel
theorem dJ0_coder_7d493_0 : decode cJ0_coder_7d493 0 = .ok (.getstatic 38, 3) := by decide +kernel
theorem dJ0_coder_7d493_3 : decode cJ0_coder_7d493 3 = .ok (.ifCond .eq 10, 3) := by decide +kernel
theorem dJ0_coder_7d493_6 : decode cJ0_coder_7d493 6 = .ok (.aload_n 0, 1) := by decide +kernel
theorem dJ0_coder_7d493_7 : decode cJ0_coder_7d493 7 = .ok (.getfield 15, 3) := by decide +kernel
theorem dJ0_coder_7d493_10 : decode cJ0_coder_7d493 10 = .ok (.goto 4, 3) := by decide +kernel
theorem dJ0_coder_7d493_13 : decode cJ0_coder_7d493 13 = .ok (.iconst 1, 1) := by decide +kernel
theorem dJ0_coder_7d493_14 : decode cJ0_coder_7d493 14 = .ok (.ireturn, 1) := by decide +kernel
theorem dJ0_isLatin1_aae02_0 : decode cJ0_isLatin1_aae02 0 = .ok (.getstatic 38, 3) := by decide +kernel
theorem dJ0_isLatin1_aae02_3 : decode cJ0_isLatin1_aae02 3 = .ok (.ifCond .eq 14, 3) := by decide +kernel
theorem dJ0_isLatin1_aae02_6 : decode cJ0_isLatin1_aae02 6 = .ok (.aload_n 0, 1) := by decide +kernel
theorem dJ0_isLatin1_aae02_7 : decode cJ0_isLatin1_aae02 7 = .ok (.getfield 15, 3) := by decide +kernel
theorem dJ0_isLatin1_aae02_10 : decode cJ0_isLatin1_aae02 10 = .ok (.ifCond .ne 7, 3) := by decide +kernel
theorem dJ0_isLatin1_aae02_13 : decode cJ0_isLatin1_aae02 13 = .ok (.iconst 1, 1) := by decide +kernel
theorem dJ0_isLatin1_aae02_14 : decode cJ0_isLatin1_aae02 14 = .ok (.goto 4, 3) := by decide +kernel
theorem dJ0_isLatin1_aae02_17 : decode cJ0_isLatin1_aae02 17 = .ok (.iconst 0, 1) := by decide +kernel
theorem dJ0_isLatin1_aae02_18 : decode cJ0_isLatin1_aae02 18 = .ok (.ireturn, 1) := by decide +kernel
theorem dJ1_charAt_3b067_0 : decode cJ1_charAt_3b067 0 = .ok (.iload_n 1, 1) := by decide +kernel
theorem dJ1_charAt_3b067_1 : decode cJ1_charAt_3b067 1 = .ok (.aload_n 0, 1) := by decide +kernel
theorem dJ1_charAt_3b067_2 : decode cJ1_charAt_3b067 2 = .ok (.arraylength, 1) := by decide +kernel
theorem dJ1_charAt_3b067_3 : decode cJ1_charAt_3b067 3 = .ok (.invokestatic 9, 3) := by decide +kernel
theorem dJ1_charAt_3b067_6 : decode cJ1_charAt_3b067 6 = .ok (.aload_n 0, 1) := by decide +kernel
theorem dJ1_charAt_3b067_7 : decode cJ1_charAt_3b067 7 = .ok (.iload_n 1, 1) := by decide +kernel
theorem dJ1_charAt_3b067_8 : decode cJ1_charAt_3b067 8 = .ok (.baload, 1) := by decide +kernel
theorem dJ1_charAt_3b067_9 : decode cJ1_charAt_3b067 9 = .ok (.sipush 255, 3) := by decide +kernel
theorem dJ1_charAt_3b067_12 : decode cJ1_charAt_3b067 12 = .ok (.iand, 1) := by decide +kernel
theorem dJ1_charAt_3b067_13 : decode cJ1_charAt_3b067 13 = .ok (.i2c, 1) := by decide +kernel
theorem dJ1_charAt_3b067_14 : decode cJ1_charAt_3b067 14 = .ok (.ireturn, 1) := by decide +kernel
section STR
theorem gJ3_checkIndex (E : EV) (d : Nat) (x0 x1 : Int32) (w : Value) (I : Mem) (hw : w = .null ∨ w = .ref 1020) (h0 : ¬ x0 < 0) (h1 : x0 < x1) : Gm E d kJ3_checkIndex_8e157 [.int x0, .int x1, w] I (some (.int x0), I) := by
  rcases hw with rfl | rfl
  all_goals
    refine Gm.of (by decide) rfl (Nat.le_of_ble_eq_true rfl) ?_
    refine G.iload_n dJ3_checkIndex_8e157_0 rfl rfl ?_
    refine G.if_lt (tgt := 9) dJ3_checkIndex_8e157_1 (by decide) (fun c => absurd c h0) (fun _ => ?_)
    refine G.iload_n dJ3_checkIndex_8e157_4 rfl rfl ?_
    refine G.iload_n dJ3_checkIndex_8e157_5 rfl rfl ?_
    refine G.icmp_lt (tgt := 16) dJ3_checkIndex_8e157_6 (by decide) (fun _ => ?_) (fun c => absurd h1 c)
    refine G.iload_n dJ3_checkIndex_8e157_16 rfl rfl ?_
    exact G.iret dJ3_checkIndex_8e157_17 rfl
theorem gJ0_checkIndex (E : EV) (d : Nat) (x0 x1 : Int32) (I : Mem) (h0 : ¬ x0 < 0) (h1 : x0 < x1) : Gm E (d + 1) kJ0_checkIndex_df160 [.int x0, .int x1] I (none, I) := by
  refine Gm.of (by decide) rfl (Nat.le_of_ble_eq_true rfl) ?_
  refine G.iload_n dJ0_checkIndex_df160_0 rfl rfl ?_
  refine G.iload_n dJ0_checkIndex_df160_1 rfl rfl ?_
  refine G.getSF dJ0_checkIndex_df160_2 flJ0_1053 (fun w hw => ?_)
  refine G.callSi (av := [.int x0, .int x1, w]) (rest := []) dJ0_checkIndex_df160_5 msJ0_1059 (gJ3_checkIndex E d x0 x1 w I hw h0 h1) rfl rfl (Nat.le_of_ble_eq_true rfl) ?_
  refine G.pop dJ0_checkIndex_df160_8 rfl ?_
  exact G.vret dJ0_checkIndex_df160_9 rfl
/-- String.charAt's answer, of the i-th constant -/
def sch (i : Nat) (j : Int32) : Int32 := (Int32.toUInt32 ((strB.getD i []).getD (ix j) 0 &&& 255) % 65536).toInt32
theorem gJ1_charAt (E : EV) (d i : Nat) (x1 : Int32) (I : Mem) (hi : i < 7) (hin : inb x1 (strN.getD i 0) = true) (h0 : ¬ x1 < 0) (h1 : x1 < nI (strN.getD i 0)) : Gm E (d + 2) kJ1_charAt_3b067 [.ref (1010 + i), .int x1] I (some (.int (sch i x1)), I) := by
  refine Gm.of (by decide) rfl (Nat.le_of_ble_eq_true rfl) ?_
  refine G.iload_n dJ1_charAt_3b067_0 rfl rfl ?_
  refine G.aload_n dJ1_charAt_3b067_1 rfl rfl ?_
  refine G.slen dJ1_charAt_3b067_2 hi ?_
  refine G.callSv (av := [.int x1, .int (nI (strN.getD i 0))]) (rest := []) dJ1_charAt_3b067_3 msJ1_9 (gJ0_checkIndex E d x1 _ I h0 h1) rfl rfl (Nat.le_of_ble_eq_true rfl) ?_
  refine G.aload_n dJ1_charAt_3b067_6 rfl rfl ?_
  refine G.iload_n dJ1_charAt_3b067_7 rfl rfl ?_
  refine G.sbld dJ1_charAt_3b067_8 hi hin ?_
  refine G.sipush (v := 255) dJ1_charAt_3b067_9 (by decide) ?_
  refine G.iand dJ1_charAt_3b067_12 ?_
  refine G.i2c dJ1_charAt_3b067_13 ?_
  exact G.nret dJ1_charAt_3b067_14 rfl (pk_nc _)
theorem gJ0_coder (E : EV) (d i : Nat) (I : Mem) (hi : i < 7) : Gm E d kJ0_coder_7d493 [.ref (1000 + i)] I (some (.int 0), I) := by
  refine Gm.of (by decide) rfl (Nat.le_of_ble_eq_true rfl) ?_
  refine G.getCS dJ0_coder_7d493_0 flJ0_38 ?_
  refine G.if_eq (tgt := 13) dJ0_coder_7d493_3 (by decide) (fun c => absurd c (by decide)) (fun _ => ?_)
  refine G.aload_n dJ0_coder_7d493_6 rfl rfl ?_
  refine G.getSC dJ0_coder_7d493_7 hi flJ0_15 ?_
  refine G.goto (tgt := 14) dJ0_coder_7d493_10 (by decide) ?_
  exact G.nret dJ0_coder_7d493_14 rfl rfl
theorem gJ0_isLatin1 (E : EV) (d i : Nat) (I : Mem) (hi : i < 7) : Gm E d kJ0_isLatin1_aae02 [.ref (1000 + i)] I (some (.int 1), I) := by
  refine Gm.of (by decide) rfl (Nat.le_of_ble_eq_true rfl) ?_
  refine G.getCS dJ0_isLatin1_aae02_0 flJ0_38 ?_
  refine G.if_eq (tgt := 17) dJ0_isLatin1_aae02_3 (by decide) (fun c => absurd c (by decide)) (fun _ => ?_)
  refine G.aload_n dJ0_isLatin1_aae02_6 rfl rfl ?_
  refine G.getSC dJ0_isLatin1_aae02_7 hi flJ0_15 ?_
  refine G.if_ne (tgt := 17) dJ0_isLatin1_aae02_10 (by decide) (fun c => absurd rfl c) (fun _ => ?_)
  refine G.iconst (v := 1) dJ0_isLatin1_aae02_13 (by decide) ?_
  refine G.goto (tgt := 18) dJ0_isLatin1_aae02_14 (by decide) ?_
  exact G.zret dJ0_isLatin1_aae02_18 rfl (by decide)
/-- String.length's answer -/
def sln (i : Nat) : Int32 := nI (strN.getD i 0) >>> ((0 : Int32) &&& 31)
theorem gJ0_length (E : EV) (d i : Nat) (I : Mem) (hi : i < 7) : Gm E (d + 1) kJ0_length_8abf5 [.ref (1000 + i)] I (some (.int (sln i)), I) := by
  refine Gm.of (by decide) rfl (Nat.le_of_ble_eq_true rfl) ?_
  refine G.aload_n dJ0_length_8abf5_0 rfl rfl ?_
  refine G.getSV dJ0_length_8abf5_1 hi flJ0_9 ?_
  refine G.slen dJ0_length_8abf5_4 hi ?_
  refine G.aload_n dJ0_length_8abf5_5 rfl rfl ?_
  refine G.callJi (i := i) (av := []) (rest := [.int (nI (strN.getD i 0))]) dJ0_length_8abf5_6 mjJ0_335 (gJ0_coder E d i I hi) hi rfl rfl (Nat.le_of_ble_eq_true rfl) ?_
  refine G.ishr dJ0_length_8abf5_9 ?_
  exact G.iret dJ0_length_8abf5_10 rfl
theorem gJ0_charAt (E : EV) (d i : Nat) (x1 : Int32) (I : Mem) (hi : i < 7) (hin : inb x1 (strN.getD i 0) = true) (h0 : ¬ x1 < 0) (h1 : x1 < nI (strN.getD i 0)) : Gm E (d + 3) kJ0_charAt_5068e [.ref (1000 + i), .int x1] I (some (.int (sch i x1)), I) := by
  refine Gm.of (by decide) rfl (Nat.le_of_ble_eq_true rfl) ?_
  refine G.aload_n dJ0_charAt_5068e_0 rfl rfl ?_
  refine G.callJi (i := i) (av := []) (rest := []) dJ0_charAt_5068e_1 mjJ0_492 (gJ0_isLatin1 E (d + 2) i I hi) hi rfl rfl (Nat.le_of_ble_eq_true rfl) ?_
  refine G.if_eq (tgt := 16) dJ0_charAt_5068e_4 (by decide) (fun c => absurd c (by decide)) (fun _ => ?_)
  refine G.aload_n dJ0_charAt_5068e_7 rfl rfl ?_
  refine G.getSV dJ0_charAt_5068e_8 hi flJ0_9 ?_
  refine G.iload_n dJ0_charAt_5068e_11 rfl rfl ?_
  refine G.callSi (av := [.ref (1010 + i), .int x1]) (rest := []) dJ0_charAt_5068e_12 msJ0_495 (gJ1_charAt E d i x1 I hi hin h0 h1) rfl rfl (Nat.le_of_ble_eq_true rfl) ?_
  exact G.nret dJ0_charAt_5068e_15 rfl (pk_nc _)
/-- what the reader asks of a constant: its length; a letter -/
def fS_length (i : Nat) (I : Mem) : Option Int32 := some (sln i)
def fS_charAt (i : Nat) (x : Int32) (I : Mem) : Option Int32 := if inb x (strN.getD i 0) = true ∧ ¬ x < 0 ∧ x < nI (strN.getD i 0) then some (sch i x) else none
theorem gS_length (E : EV) (d i : Nat) (I : Mem) (hi : i < 7) {v : Int32} (hf : fS_length i I = some v) : Gm E (d + 1) kJ0_length_8abf5 [.ref (1000 + i)] I (some (.int v), I) := by
  cases hf
  exact gJ0_length E d i I hi
theorem gS_charAt (E : EV) (d i : Nat) (x1 : Int32) (I : Mem) (hi : i < 7) {v : Int32} (hf : fS_charAt i x1 I = some v) : Gm E (d + 3) kJ0_charAt_5068e [.ref (1000 + i), .int x1] I (some (.int v), I) := by
  unfold fS_charAt at hf
  split at hf
  · cases hf
    rename_i h
    exact gJ0_charAt E d i x1 I hi h.1 h.2.1 h.2.2
  · cases hf
end STR
end
section
section GMM
variable {E : EV} {d : Nat} {k : MD} {pc idx : Nat} {L : List (Option Value)} {rest : List Value} {I : Mem} {r : Option Value × Mem}
def Mmin (own : String) (idx : Nat) : Prop := Cond.methodLink own idx Lib.Math.min.name ∈ lw_g ∧ Cond.static Lib.Math.min.name ∈ lw_g ∧ Cond.initialized "java/lang/Math" ∈ lw_g ∧ Cond.code Lib.Math.min.name Lib.Math.min.code 2 (some .int) ∈ lw_g
theorem G.mmin {x y : Int32} (hd : decode k.2.1 pc = .ok (.invokestatic idx, 3)) (ms : Mmin k.1.cls idx) (hW : (rest.map fun v => v.category).sum ≤ 8) (kk : G E (d + 1) k (pc + 3) L (.int (if y < x then y else x) :: rest) I r) : G E (d + 1) k pc L (.int y :: .int x :: rest) I r := by
  intro p e s m args below meth c H locs ls C hP hD hS hl
  have hts := C.2.2.2.2.2.2.hts args
  have hR2 : ((rest.map (tv E)).map fun v => v.category).sum + 13 ≤ (rmd (d + 1)).locals := by
    rw [st_cat]
    show _ ≤ 60 * (d + 1)
    omega
  exact va_mmin (R := rmd (d + 1)) (rest := rest.map (tv E)) C.1 C.2.1 (C.2.2.2.1.trans hl.1.symm) C.2.2.2.2.1 (hts _ ms.1) (hts _ ms.2.1) (hts _ ms.2.2.1) (hts _ ms.2.2.2) (by show 1 ≤ d + 1; omega) hR2 (Nat.le_refl _) (Nat.le_refl _) hd (kk p e s m args below meth c H locs ls C hP hD hS hl)
def Mmax (own : String) (idx : Nat) : Prop := Cond.methodLink own idx Lib.Math.max.name ∈ lw_g ∧ Cond.static Lib.Math.max.name ∈ lw_g ∧ Cond.initialized "java/lang/Math" ∈ lw_g ∧ Cond.code Lib.Math.max.name Lib.Math.max.code 2 (some .int) ∈ lw_g
theorem G.mmax {x y : Int32} (hd : decode k.2.1 pc = .ok (.invokestatic idx, 3)) (ms : Mmax k.1.cls idx) (hW : (rest.map fun v => v.category).sum ≤ 8) (kk : G E (d + 1) k (pc + 3) L (.int (if x < y then y else x) :: rest) I r) : G E (d + 1) k pc L (.int y :: .int x :: rest) I r := by
  intro p e s m args below meth c H locs ls C hP hD hS hl
  have hts := C.2.2.2.2.2.2.hts args
  have hR2 : ((rest.map (tv E)).map fun v => v.category).sum + 13 ≤ (rmd (d + 1)).locals := by
    rw [st_cat]
    show _ ≤ 60 * (d + 1)
    omega
  exact va_mmax (R := rmd (d + 1)) (rest := rest.map (tv E)) C.1 C.2.1 (C.2.2.2.1.trans hl.1.symm) C.2.2.2.2.1 (hts _ ms.1) (hts _ ms.2.1) (hts _ ms.2.2.1) (hts _ ms.2.2.2) (by show 1 ≤ d + 1; omega) hR2 (Nat.le_refl _) (Nat.le_refl _) hd (kk p e s m args below meth c H locs ls C hP hD hS hl)
end GMM
theorem mmX2_105 : Mmin RX2 105 := ⟨(mt 713 (by decide +kernel) rfl), (mt 714 (by decide +kernel) rfl), (mt 21 (by decide +kernel) rfl), (mt 715 (by decide +kernel) rfl)⟩
theorem mmX6_61 : Mmax RX6 61 := ⟨(mt 745 (by decide +kernel) rfl), (mt 746 (by decide +kernel) rfl), (mt 21 (by decide +kernel) rfl), (mt 747 (by decide +kernel) rfl)⟩
theorem mmX9_22 : Mmin RX9 22 := ⟨(mt 772 (by decide +kernel) rfl), (mt 714 (by decide +kernel) rfl), (mt 21 (by decide +kernel) rfl), (mt 715 (by decide +kernel) rfl)⟩
end
section
theorem dJ7_fill_53178_0 : decode cJ7_fill_53178 0 = .ok (.iconst 0, 1) := by decide +kernel
theorem dJ7_fill_53178_1 : decode cJ7_fill_53178 1 = .ok (.istore_n 2, 1) := by decide +kernel
theorem dJ7_fill_53178_2 : decode cJ7_fill_53178 2 = .ok (.aload_n 0, 1) := by decide +kernel
theorem dJ7_fill_53178_3 : decode cJ7_fill_53178 3 = .ok (.arraylength, 1) := by decide +kernel
theorem dJ7_fill_53178_4 : decode cJ7_fill_53178 4 = .ok (.istore_n 3, 1) := by decide +kernel
theorem dJ7_fill_53178_5 : decode cJ7_fill_53178 5 = .ok (.iload_n 2, 1) := by decide +kernel
theorem dJ7_fill_53178_6 : decode cJ7_fill_53178 6 = .ok (.iload_n 3, 1) := by decide +kernel
theorem dJ7_fill_53178_7 : decode cJ7_fill_53178 7 = .ok (.if_icmp .ge 13, 3) := by decide +kernel
theorem dJ7_fill_53178_10 : decode cJ7_fill_53178 10 = .ok (.aload_n 0, 1) := by decide +kernel
theorem dJ7_fill_53178_11 : decode cJ7_fill_53178 11 = .ok (.iload_n 2, 1) := by decide +kernel
theorem dJ7_fill_53178_12 : decode cJ7_fill_53178 12 = .ok (.iload_n 1, 1) := by decide +kernel
theorem dJ7_fill_53178_13 : decode cJ7_fill_53178 13 = .ok (.iastore, 1) := by decide +kernel
theorem dJ7_fill_53178_14 : decode cJ7_fill_53178 14 = .ok (.iinc 2 1, 3) := by decide +kernel
theorem dJ7_fill_53178_17 : decode cJ7_fill_53178 17 = .ok (.goto (-12), 3) := by decide +kernel
theorem dJ7_fill_53178_20 : decode cJ7_fill_53178 20 = .ok (.return_, 1) := by decide +kernel
def KJ7_fill_53178_5 (E : EV) (d : Nat) (rr : Option Value × Mem) (a0 : Nat) (x1 : Int32) (x3 : Int32) (Kp : Mem → Prop) : ((Int32 × Mem) ⊕ Mem) → Prop
  | .inl q => G E (d + 0) kJ7_fill_53178 5 [some (.ref a0), some (.int x1), some (.int q.1), some (.int x3)] [] q.2 rr
  | .inr z => Kp z
def bJ7_fill_53178_5 (a0 : Nat) (x1 : Int32) (x3 : Int32) (x2 : Int32) (I : Mem) : Option ((Int32 × Mem) ⊕ Mem) :=
  if x3 ≤ x2 then
  (some (.inr I))
  else
  (chk (inb x2 (ln a0)) <|
  letb (up2 I a0 (ix x2) x1) fun I_3 =>
  some (.inl ((x2 + (1 : Int32)), I_3)))
def sJ7_fill_53178_5 (a0 : Nat) (x1 : Int32) (x3 : Int32) (q : (Int32 × Mem)) : Option ((Int32 × Mem) ⊕ Mem) := bJ7_fill_53178_5 a0 x1 x3 q.1 q.2
set_option maxRecDepth 20000 in
theorem wJ7_fill_53178_5 (E : EV) (d : Nat) (rr : Option Value × Mem) (a0 : Nat) (x1 : Int32) (x3 : Int32) (x2 : Int32) (I : Mem) (ha0 : isA a0) (y : ((Int32 × Mem) ⊕ Mem)) (hf : bJ7_fill_53178_5 a0 x1 x3 x2 I = some y) (hK : (KJ7_fill_53178_5 E d rr a0 x1 x3 (fun (z : Mem) => ((none : Option Value), z) = rr)) y) : G E (d + 0) kJ7_fill_53178 5 [some (.ref a0), some (.int x1), some (.int x2), some (.int x3)] [] I rr := by
  unfold bJ7_fill_53178_5 at hf
  refine G.iload_n dJ7_fill_53178_5 rfl rfl ?_
  refine G.iload_n dJ7_fill_53178_6 rfl rfl ?_
  refine G.icmp_ge (tgt := 20) dJ7_fill_53178_7 (by decide) (fun c_4 => ?_) (fun c_4 => ?_)
  · have hf := ite_t hf c_4
    cases hf
    exact G.vret' dJ7_fill_53178_20 rfl hK
  · have hf := ite_f hf c_4
    refine G.aload_n dJ7_fill_53178_10 rfl rfl ?_
    refine G.iload_n dJ7_fill_53178_11 rfl rfl ?_
    refine G.iload_n dJ7_fill_53178_12 rfl rfl ?_
    obtain ⟨hi_2, hf⟩ := chk_at hf
    refine G.iast' dJ7_fill_53178_13 ha0.1 ha0.2 rfl hi_2 ?_
    refine G.nmI (fun I_3 e_I_3 => ?_)
    have hf := letb_at hf e_I_3
    clear e_I_3
    refine G.inc (w := 1) (L' := [some (.ref a0), some (.int x1), some (.int (x2 + (1 : Int32))), some (.int x3)]) dJ7_fill_53178_14 (by decide) rfl (Nat.le_of_ble_eq_true rfl) rfl rfl ?_
    refine G.goto (tgt := 5) dJ7_fill_53178_17 (by decide) ?_
    cases hf
    exact hK
theorem lJ7_fill_53178_5 (E : EV) (d : Nat) (rr : Option Value × Mem) (a0 : Nat) (x1 : Int32) (x3 : Int32) (ha0 : isA a0) (z : Mem) (hK : (fun (z : Mem) => ((none : Option Value), z) = rr) z) : ∀ (n : Nat) (q : (Int32 × Mem)), iter (sJ7_fill_53178_5 a0 x1 x3) n q = some z → G E (d + 0) kJ7_fill_53178 5 [some (.ref a0), some (.int x1), some (.int q.1), some (.int x3)] [] q.2 rr := by
  intro n
  induction n with
  | zero => intro q h; cases h
  | succ n ih =>
    intro q h
    rcases iter_at h with ⟨q2, hs, h2⟩ | hs
    · exact wJ7_fill_53178_5 E d rr a0 x1 x3 q.1 q.2 ha0 _ hs (ih q2 h2)
    · exact wJ7_fill_53178_5 E d rr a0 x1 x3 q.1 q.2 ha0 _ hs hK
def fJ7_fill_53178 (a0 : Nat) (x1 : Int32) (I : Mem) : Option Mem :=
  letb (nI (ln a0)) fun x3_1 =>
  iter (sJ7_fill_53178_5 a0 x1 x3_1) FU ((0 : Int32), I)
set_option maxRecDepth 20000 in
theorem gJ7_fill_53178 (E : EV) (d : Nat) (a0 : Nat) (x1 : Int32) (I : Mem) (ha0 : isA a0) {J : Mem} (hf : fJ7_fill_53178 a0 x1 I = some J) : Gm E (d + 0) kJ7_fill_53178 [.ref a0, .int x1] I (none, J) := by
  refine Gm.of (by decide) rfl (Nat.le_of_ble_eq_true rfl) ?_
  generalize hrr : ((none, J) : Option Value × Mem) = rr
  show G E (d + 0) kJ7_fill_53178 0 [some (.ref a0), some (.int x1), none, none] [] I rr
  have hK : (fun (z : Mem) => ((none : Option Value), z) = rr) J := hrr
  clear hrr
  unfold fJ7_fill_53178 at hf
  refine G.iconst (v := 0) dJ7_fill_53178_0 (by decide) ?_
  refine G.istore_n (L' := [some (.ref a0), some (.int x1), some (.int (0 : Int32)), none]) dJ7_fill_53178_1 rfl (Nat.le_of_ble_eq_true rfl) (Nat.le_of_ble_eq_true rfl) rfl rfl ?_
  refine G.aload_n dJ7_fill_53178_2 rfl rfl ?_
  refine G.alen (v := nI (ln a0)) dJ7_fill_53178_3 ha0.1 ha0.2 (congrArg nI rfl) ?_
  refine G.nmi (fun x3_1 e_x3_1 => ?_)
  have hf := letb_at hf e_x3_1
  clear e_x3_1
  refine G.istore_n (L' := [some (.ref a0), some (.int x1), some (.int (0 : Int32)), some (.int x3_1)]) dJ7_fill_53178_4 rfl (Nat.le_of_ble_eq_true rfl) (Nat.le_of_ble_eq_true rfl) rfl rfl ?_
  exact lJ7_fill_53178_5 E d rr a0 x1 x3_1 ha0 _ hK FU _ hf
theorem dJ6_bitCount_0f7a4_0 : decode cJ6_bitCount_0f7a4 0 = .ok (.iload_n 0, 1) := by decide +kernel
theorem dJ6_bitCount_0f7a4_1 : decode cJ6_bitCount_0f7a4 1 = .ok (.iload_n 0, 1) := by decide +kernel
theorem dJ6_bitCount_0f7a4_2 : decode cJ6_bitCount_0f7a4 2 = .ok (.iconst 1, 1) := by decide +kernel
theorem dJ6_bitCount_0f7a4_3 : decode cJ6_bitCount_0f7a4 3 = .ok (.iushr, 1) := by decide +kernel
theorem dJ6_bitCount_0f7a4_4 : decode cJ6_bitCount_0f7a4 4 = .ok (.ldc_w 265, 3) := by decide +kernel
theorem dJ6_bitCount_0f7a4_7 : decode cJ6_bitCount_0f7a4 7 = .ok (.iand, 1) := by decide +kernel
theorem dJ6_bitCount_0f7a4_8 : decode cJ6_bitCount_0f7a4 8 = .ok (.isub, 1) := by decide +kernel
theorem dJ6_bitCount_0f7a4_9 : decode cJ6_bitCount_0f7a4 9 = .ok (.istore_n 0, 1) := by decide +kernel
theorem dJ6_bitCount_0f7a4_10 : decode cJ6_bitCount_0f7a4 10 = .ok (.iload_n 0, 1) := by decide +kernel
theorem dJ6_bitCount_0f7a4_11 : decode cJ6_bitCount_0f7a4 11 = .ok (.ldc_w 266, 3) := by decide +kernel
theorem dJ6_bitCount_0f7a4_14 : decode cJ6_bitCount_0f7a4 14 = .ok (.iand, 1) := by decide +kernel
theorem dJ6_bitCount_0f7a4_15 : decode cJ6_bitCount_0f7a4 15 = .ok (.iload_n 0, 1) := by decide +kernel
theorem dJ6_bitCount_0f7a4_16 : decode cJ6_bitCount_0f7a4 16 = .ok (.iconst 2, 1) := by decide +kernel
theorem dJ6_bitCount_0f7a4_17 : decode cJ6_bitCount_0f7a4 17 = .ok (.iushr, 1) := by decide +kernel
theorem dJ6_bitCount_0f7a4_18 : decode cJ6_bitCount_0f7a4 18 = .ok (.ldc_w 266, 3) := by decide +kernel
theorem dJ6_bitCount_0f7a4_21 : decode cJ6_bitCount_0f7a4 21 = .ok (.iand, 1) := by decide +kernel
theorem dJ6_bitCount_0f7a4_22 : decode cJ6_bitCount_0f7a4 22 = .ok (.iadd, 1) := by decide +kernel
theorem dJ6_bitCount_0f7a4_23 : decode cJ6_bitCount_0f7a4 23 = .ok (.istore_n 0, 1) := by decide +kernel
theorem dJ6_bitCount_0f7a4_24 : decode cJ6_bitCount_0f7a4 24 = .ok (.iload_n 0, 1) := by decide +kernel
theorem dJ6_bitCount_0f7a4_25 : decode cJ6_bitCount_0f7a4 25 = .ok (.iload_n 0, 1) := by decide +kernel
theorem dJ6_bitCount_0f7a4_26 : decode cJ6_bitCount_0f7a4 26 = .ok (.iconst 4, 1) := by decide +kernel
theorem dJ6_bitCount_0f7a4_27 : decode cJ6_bitCount_0f7a4 27 = .ok (.iushr, 1) := by decide +kernel
theorem dJ6_bitCount_0f7a4_28 : decode cJ6_bitCount_0f7a4 28 = .ok (.iadd, 1) := by decide +kernel
theorem dJ6_bitCount_0f7a4_29 : decode cJ6_bitCount_0f7a4 29 = .ok (.ldc_w 267, 3) := by decide +kernel
theorem dJ6_bitCount_0f7a4_32 : decode cJ6_bitCount_0f7a4 32 = .ok (.iand, 1) := by decide +kernel
theorem dJ6_bitCount_0f7a4_33 : decode cJ6_bitCount_0f7a4 33 = .ok (.istore_n 0, 1) := by decide +kernel
theorem dJ6_bitCount_0f7a4_34 : decode cJ6_bitCount_0f7a4 34 = .ok (.iload_n 0, 1) := by decide +kernel
theorem dJ6_bitCount_0f7a4_35 : decode cJ6_bitCount_0f7a4 35 = .ok (.iload_n 0, 1) := by decide +kernel
theorem dJ6_bitCount_0f7a4_36 : decode cJ6_bitCount_0f7a4 36 = .ok (.bipush 8, 2) := by decide +kernel
theorem dJ6_bitCount_0f7a4_38 : decode cJ6_bitCount_0f7a4 38 = .ok (.iushr, 1) := by decide +kernel
theorem dJ6_bitCount_0f7a4_39 : decode cJ6_bitCount_0f7a4 39 = .ok (.iadd, 1) := by decide +kernel
theorem dJ6_bitCount_0f7a4_40 : decode cJ6_bitCount_0f7a4 40 = .ok (.istore_n 0, 1) := by decide +kernel
theorem dJ6_bitCount_0f7a4_41 : decode cJ6_bitCount_0f7a4 41 = .ok (.iload_n 0, 1) := by decide +kernel
theorem dJ6_bitCount_0f7a4_42 : decode cJ6_bitCount_0f7a4 42 = .ok (.iload_n 0, 1) := by decide +kernel
theorem dJ6_bitCount_0f7a4_43 : decode cJ6_bitCount_0f7a4 43 = .ok (.bipush 16, 2) := by decide +kernel
theorem dJ6_bitCount_0f7a4_45 : decode cJ6_bitCount_0f7a4 45 = .ok (.iushr, 1) := by decide +kernel
theorem dJ6_bitCount_0f7a4_46 : decode cJ6_bitCount_0f7a4 46 = .ok (.iadd, 1) := by decide +kernel
theorem dJ6_bitCount_0f7a4_47 : decode cJ6_bitCount_0f7a4 47 = .ok (.istore_n 0, 1) := by decide +kernel
theorem dJ6_bitCount_0f7a4_48 : decode cJ6_bitCount_0f7a4 48 = .ok (.iload_n 0, 1) := by decide +kernel
theorem dJ6_bitCount_0f7a4_49 : decode cJ6_bitCount_0f7a4 49 = .ok (.bipush 63, 2) := by decide +kernel
theorem dJ6_bitCount_0f7a4_51 : decode cJ6_bitCount_0f7a4 51 = .ok (.iand, 1) := by decide +kernel
theorem dJ6_bitCount_0f7a4_52 : decode cJ6_bitCount_0f7a4 52 = .ok (.ireturn, 1) := by decide +kernel
def fJ6_bitCount_0f7a4 (x0 : Int32) (I : Mem) : Option Int32 :=
  letb (x0 - ((Int32.toUInt32 x0 >>> (Int32.toUInt32 (1 : Int32) &&& Int32.toUInt32 31)).toInt32 &&& (1431655765 : Int32))) fun x0_1 =>
  letb ((x0_1 &&& (858993459 : Int32)) + ((Int32.toUInt32 x0_1 >>> (Int32.toUInt32 (2 : Int32) &&& Int32.toUInt32 31)).toInt32 &&& (858993459 : Int32))) fun x0_2 =>
  letb ((x0_2 + (Int32.toUInt32 x0_2 >>> (Int32.toUInt32 (4 : Int32) &&& Int32.toUInt32 31)).toInt32) &&& (252645135 : Int32)) fun x0_3 =>
  letb (x0_3 + (Int32.toUInt32 x0_3 >>> (Int32.toUInt32 (8 : Int32) &&& Int32.toUInt32 31)).toInt32) fun x0_4 =>
  letb (x0_4 + (Int32.toUInt32 x0_4 >>> (Int32.toUInt32 (16 : Int32) &&& Int32.toUInt32 31)).toInt32) fun x0_5 =>
  some (x0_5 &&& (63 : Int32))
set_option maxRecDepth 20000 in
theorem gJ6_bitCount_0f7a4 (E : EV) (d : Nat) (x0 : Int32) (I : Mem) {v : Int32} (hf : fJ6_bitCount_0f7a4 x0 I = some v) : Gm E (d + 0) kJ6_bitCount_0f7a4 [.int x0] I (some (.int v), I) := by
  refine Gm.of (by decide) rfl (Nat.le_of_ble_eq_true rfl) ?_
  generalize hrr : ((some (.int v), I) : Option Value × Mem) = rr
  show G E (d + 0) kJ6_bitCount_0f7a4 0 [some (.int x0)] [] I rr
  have hK : (fun (z : Int32) => (some (.int z), I) = rr) v := hrr
  clear hrr
  unfold fJ6_bitCount_0f7a4 at hf
  refine G.iload_n dJ6_bitCount_0f7a4_0 rfl rfl ?_
  refine G.iload_n dJ6_bitCount_0f7a4_1 rfl rfl ?_
  refine G.iconst (v := 1) dJ6_bitCount_0f7a4_2 (by decide) ?_
  refine G.iushr dJ6_bitCount_0f7a4_3 ?_
  refine G.ldcw (v := 1431655765) dJ6_bitCount_0f7a4_4 kcJ6_265 ?_
  refine G.iand dJ6_bitCount_0f7a4_7 ?_
  refine G.isub dJ6_bitCount_0f7a4_8 ?_
  refine G.nmi (fun x0_1 e_x0_1 => ?_)
  have hf := letb_at hf e_x0_1
  clear e_x0_1
  refine G.istore_n (L' := [some (.int x0_1)]) dJ6_bitCount_0f7a4_9 rfl (Nat.le_of_ble_eq_true rfl) (Nat.le_of_ble_eq_true rfl) rfl rfl ?_
  refine G.iload_n dJ6_bitCount_0f7a4_10 rfl rfl ?_
  refine G.ldcw (v := 858993459) dJ6_bitCount_0f7a4_11 kcJ6_266 ?_
  refine G.iand dJ6_bitCount_0f7a4_14 ?_
  refine G.iload_n dJ6_bitCount_0f7a4_15 rfl rfl ?_
  refine G.iconst (v := 2) dJ6_bitCount_0f7a4_16 (by decide) ?_
  refine G.iushr dJ6_bitCount_0f7a4_17 ?_
  refine G.ldcw (v := 858993459) dJ6_bitCount_0f7a4_18 kcJ6_266 ?_
  refine G.iand dJ6_bitCount_0f7a4_21 ?_
  refine G.iadd dJ6_bitCount_0f7a4_22 ?_
  refine G.nmi (fun x0_2 e_x0_2 => ?_)
  have hf := letb_at hf e_x0_2
  clear e_x0_2
  refine G.istore_n (L' := [some (.int x0_2)]) dJ6_bitCount_0f7a4_23 rfl (Nat.le_of_ble_eq_true rfl) (Nat.le_of_ble_eq_true rfl) rfl rfl ?_
  refine G.iload_n dJ6_bitCount_0f7a4_24 rfl rfl ?_
  refine G.iload_n dJ6_bitCount_0f7a4_25 rfl rfl ?_
  refine G.iconst (v := 4) dJ6_bitCount_0f7a4_26 (by decide) ?_
  refine G.iushr dJ6_bitCount_0f7a4_27 ?_
  refine G.iadd dJ6_bitCount_0f7a4_28 ?_
  refine G.ldcw (v := 252645135) dJ6_bitCount_0f7a4_29 kcJ6_267 ?_
  refine G.iand dJ6_bitCount_0f7a4_32 ?_
  refine G.nmi (fun x0_3 e_x0_3 => ?_)
  have hf := letb_at hf e_x0_3
  clear e_x0_3
  refine G.istore_n (L' := [some (.int x0_3)]) dJ6_bitCount_0f7a4_33 rfl (Nat.le_of_ble_eq_true rfl) (Nat.le_of_ble_eq_true rfl) rfl rfl ?_
  refine G.iload_n dJ6_bitCount_0f7a4_34 rfl rfl ?_
  refine G.iload_n dJ6_bitCount_0f7a4_35 rfl rfl ?_
  refine G.bipush (v := 8) dJ6_bitCount_0f7a4_36 (by decide) ?_
  refine G.iushr dJ6_bitCount_0f7a4_38 ?_
  refine G.iadd dJ6_bitCount_0f7a4_39 ?_
  refine G.nmi (fun x0_4 e_x0_4 => ?_)
  have hf := letb_at hf e_x0_4
  clear e_x0_4
  refine G.istore_n (L' := [some (.int x0_4)]) dJ6_bitCount_0f7a4_40 rfl (Nat.le_of_ble_eq_true rfl) (Nat.le_of_ble_eq_true rfl) rfl rfl ?_
  refine G.iload_n dJ6_bitCount_0f7a4_41 rfl rfl ?_
  refine G.iload_n dJ6_bitCount_0f7a4_42 rfl rfl ?_
  refine G.bipush (v := 16) dJ6_bitCount_0f7a4_43 (by decide) ?_
  refine G.iushr dJ6_bitCount_0f7a4_45 ?_
  refine G.iadd dJ6_bitCount_0f7a4_46 ?_
  refine G.nmi (fun x0_5 e_x0_5 => ?_)
  have hf := letb_at hf e_x0_5
  clear e_x0_5
  refine G.istore_n (L' := [some (.int x0_5)]) dJ6_bitCount_0f7a4_47 rfl (Nat.le_of_ble_eq_true rfl) (Nat.le_of_ble_eq_true rfl) rfl rfl ?_
  refine G.iload_n dJ6_bitCount_0f7a4_48 rfl rfl ?_
  refine G.bipush (v := 63) dJ6_bitCount_0f7a4_49 (by decide) ?_
  refine G.iand dJ6_bitCount_0f7a4_51 ?_
  cases hf
  exact G.iret' dJ6_bitCount_0f7a4_52 rfl hK
theorem dJ6_numberOfTrailingZeros_0f7a4_0 : decode cJ6_numberOfTrailingZeros_0f7a4 0 = .ok (.iload_n 0, 1) := by decide +kernel
theorem dJ6_numberOfTrailingZeros_0f7a4_1 : decode cJ6_numberOfTrailingZeros_0f7a4 1 = .ok (.iconst (-1), 1) := by decide +kernel
theorem dJ6_numberOfTrailingZeros_0f7a4_2 : decode cJ6_numberOfTrailingZeros_0f7a4 2 = .ok (.ixor, 1) := by decide +kernel
theorem dJ6_numberOfTrailingZeros_0f7a4_3 : decode cJ6_numberOfTrailingZeros_0f7a4 3 = .ok (.iload_n 0, 1) := by decide +kernel
theorem dJ6_numberOfTrailingZeros_0f7a4_4 : decode cJ6_numberOfTrailingZeros_0f7a4 4 = .ok (.iconst 1, 1) := by decide +kernel
theorem dJ6_numberOfTrailingZeros_0f7a4_5 : decode cJ6_numberOfTrailingZeros_0f7a4 5 = .ok (.isub, 1) := by decide +kernel
theorem dJ6_numberOfTrailingZeros_0f7a4_6 : decode cJ6_numberOfTrailingZeros_0f7a4 6 = .ok (.iand, 1) := by decide +kernel
theorem dJ6_numberOfTrailingZeros_0f7a4_7 : decode cJ6_numberOfTrailingZeros_0f7a4 7 = .ok (.istore_n 0, 1) := by decide +kernel
theorem dJ6_numberOfTrailingZeros_0f7a4_8 : decode cJ6_numberOfTrailingZeros_0f7a4 8 = .ok (.iload_n 0, 1) := by decide +kernel
theorem dJ6_numberOfTrailingZeros_0f7a4_9 : decode cJ6_numberOfTrailingZeros_0f7a4 9 = .ok (.ifCond .gt 8, 3) := by decide +kernel
theorem dJ6_numberOfTrailingZeros_0f7a4_12 : decode cJ6_numberOfTrailingZeros_0f7a4 12 = .ok (.iload_n 0, 1) := by decide +kernel
theorem dJ6_numberOfTrailingZeros_0f7a4_13 : decode cJ6_numberOfTrailingZeros_0f7a4 13 = .ok (.bipush 32, 2) := by decide +kernel
theorem dJ6_numberOfTrailingZeros_0f7a4_15 : decode cJ6_numberOfTrailingZeros_0f7a4 15 = .ok (.iand, 1) := by decide +kernel
theorem dJ6_numberOfTrailingZeros_0f7a4_16 : decode cJ6_numberOfTrailingZeros_0f7a4 16 = .ok (.ireturn, 1) := by decide +kernel
theorem dJ6_numberOfTrailingZeros_0f7a4_17 : decode cJ6_numberOfTrailingZeros_0f7a4 17 = .ok (.iconst 1, 1) := by decide +kernel
theorem dJ6_numberOfTrailingZeros_0f7a4_18 : decode cJ6_numberOfTrailingZeros_0f7a4 18 = .ok (.istore_n 1, 1) := by decide +kernel
theorem dJ6_numberOfTrailingZeros_0f7a4_19 : decode cJ6_numberOfTrailingZeros_0f7a4 19 = .ok (.iload_n 0, 1) := by decide +kernel
theorem dJ6_numberOfTrailingZeros_0f7a4_20 : decode cJ6_numberOfTrailingZeros_0f7a4 20 = .ok (.ldc_w 264, 3) := by decide +kernel
theorem dJ6_numberOfTrailingZeros_0f7a4_23 : decode cJ6_numberOfTrailingZeros_0f7a4 23 = .ok (.if_icmp .le 11, 3) := by decide +kernel
theorem dJ6_numberOfTrailingZeros_0f7a4_26 : decode cJ6_numberOfTrailingZeros_0f7a4 26 = .ok (.iinc 1 16, 3) := by decide +kernel
theorem dJ6_numberOfTrailingZeros_0f7a4_29 : decode cJ6_numberOfTrailingZeros_0f7a4 29 = .ok (.iload_n 0, 1) := by decide +kernel
theorem dJ6_numberOfTrailingZeros_0f7a4_30 : decode cJ6_numberOfTrailingZeros_0f7a4 30 = .ok (.bipush 16, 2) := by decide +kernel
theorem dJ6_numberOfTrailingZeros_0f7a4_32 : decode cJ6_numberOfTrailingZeros_0f7a4 32 = .ok (.iushr, 1) := by decide +kernel
theorem dJ6_numberOfTrailingZeros_0f7a4_33 : decode cJ6_numberOfTrailingZeros_0f7a4 33 = .ok (.istore_n 0, 1) := by decide +kernel
theorem dJ6_numberOfTrailingZeros_0f7a4_34 : decode cJ6_numberOfTrailingZeros_0f7a4 34 = .ok (.iload_n 0, 1) := by decide +kernel
theorem dJ6_numberOfTrailingZeros_0f7a4_35 : decode cJ6_numberOfTrailingZeros_0f7a4 35 = .ok (.sipush 256, 3) := by decide +kernel
theorem dJ6_numberOfTrailingZeros_0f7a4_38 : decode cJ6_numberOfTrailingZeros_0f7a4 38 = .ok (.if_icmp .le 11, 3) := by decide +kernel
theorem dJ6_numberOfTrailingZeros_0f7a4_41 : decode cJ6_numberOfTrailingZeros_0f7a4 41 = .ok (.iinc 1 8, 3) := by decide +kernel
theorem dJ6_numberOfTrailingZeros_0f7a4_44 : decode cJ6_numberOfTrailingZeros_0f7a4 44 = .ok (.iload_n 0, 1) := by decide +kernel
theorem dJ6_numberOfTrailingZeros_0f7a4_45 : decode cJ6_numberOfTrailingZeros_0f7a4 45 = .ok (.bipush 8, 2) := by decide +kernel
theorem dJ6_numberOfTrailingZeros_0f7a4_47 : decode cJ6_numberOfTrailingZeros_0f7a4 47 = .ok (.iushr, 1) := by decide +kernel
theorem dJ6_numberOfTrailingZeros_0f7a4_48 : decode cJ6_numberOfTrailingZeros_0f7a4 48 = .ok (.istore_n 0, 1) := by decide +kernel
theorem dJ6_numberOfTrailingZeros_0f7a4_49 : decode cJ6_numberOfTrailingZeros_0f7a4 49 = .ok (.iload_n 0, 1) := by decide +kernel
theorem dJ6_numberOfTrailingZeros_0f7a4_50 : decode cJ6_numberOfTrailingZeros_0f7a4 50 = .ok (.bipush 16, 2) := by decide +kernel
theorem dJ6_numberOfTrailingZeros_0f7a4_52 : decode cJ6_numberOfTrailingZeros_0f7a4 52 = .ok (.if_icmp .le 10, 3) := by decide +kernel
theorem dJ6_numberOfTrailingZeros_0f7a4_55 : decode cJ6_numberOfTrailingZeros_0f7a4 55 = .ok (.iinc 1 4, 3) := by decide +kernel
theorem dJ6_numberOfTrailingZeros_0f7a4_58 : decode cJ6_numberOfTrailingZeros_0f7a4 58 = .ok (.iload_n 0, 1) := by decide +kernel
theorem dJ6_numberOfTrailingZeros_0f7a4_59 : decode cJ6_numberOfTrailingZeros_0f7a4 59 = .ok (.iconst 4, 1) := by decide +kernel
theorem dJ6_numberOfTrailingZeros_0f7a4_60 : decode cJ6_numberOfTrailingZeros_0f7a4 60 = .ok (.iushr, 1) := by decide +kernel
theorem dJ6_numberOfTrailingZeros_0f7a4_61 : decode cJ6_numberOfTrailingZeros_0f7a4 61 = .ok (.istore_n 0, 1) := by decide +kernel
theorem dJ6_numberOfTrailingZeros_0f7a4_62 : decode cJ6_numberOfTrailingZeros_0f7a4 62 = .ok (.iload_n 0, 1) := by decide +kernel
theorem dJ6_numberOfTrailingZeros_0f7a4_63 : decode cJ6_numberOfTrailingZeros_0f7a4 63 = .ok (.iconst 4, 1) := by decide +kernel
theorem dJ6_numberOfTrailingZeros_0f7a4_64 : decode cJ6_numberOfTrailingZeros_0f7a4 64 = .ok (.if_icmp .le 10, 3) := by decide +kernel
theorem dJ6_numberOfTrailingZeros_0f7a4_67 : decode cJ6_numberOfTrailingZeros_0f7a4 67 = .ok (.iinc 1 2, 3) := by decide +kernel
theorem dJ6_numberOfTrailingZeros_0f7a4_70 : decode cJ6_numberOfTrailingZeros_0f7a4 70 = .ok (.iload_n 0, 1) := by decide +kernel
theorem dJ6_numberOfTrailingZeros_0f7a4_71 : decode cJ6_numberOfTrailingZeros_0f7a4 71 = .ok (.iconst 2, 1) := by decide +kernel
theorem dJ6_numberOfTrailingZeros_0f7a4_72 : decode cJ6_numberOfTrailingZeros_0f7a4 72 = .ok (.iushr, 1) := by decide +kernel
theorem dJ6_numberOfTrailingZeros_0f7a4_73 : decode cJ6_numberOfTrailingZeros_0f7a4 73 = .ok (.istore_n 0, 1) := by decide +kernel
theorem dJ6_numberOfTrailingZeros_0f7a4_74 : decode cJ6_numberOfTrailingZeros_0f7a4 74 = .ok (.iload_n 1, 1) := by decide +kernel
theorem dJ6_numberOfTrailingZeros_0f7a4_75 : decode cJ6_numberOfTrailingZeros_0f7a4 75 = .ok (.iload_n 0, 1) := by decide +kernel
theorem dJ6_numberOfTrailingZeros_0f7a4_76 : decode cJ6_numberOfTrailingZeros_0f7a4 76 = .ok (.iconst 1, 1) := by decide +kernel
theorem dJ6_numberOfTrailingZeros_0f7a4_77 : decode cJ6_numberOfTrailingZeros_0f7a4 77 = .ok (.iushr, 1) := by decide +kernel
theorem dJ6_numberOfTrailingZeros_0f7a4_78 : decode cJ6_numberOfTrailingZeros_0f7a4 78 = .ok (.iadd, 1) := by decide +kernel
theorem dJ6_numberOfTrailingZeros_0f7a4_79 : decode cJ6_numberOfTrailingZeros_0f7a4 79 = .ok (.ireturn, 1) := by decide +kernel
def jJ6_numberOfTrailingZeros_0f7a4_62 (x0 : Int32) (x1 : Int32) (I : Mem) : Option Int32 :=
  if x0 ≤ (4 : Int32) then
  (some (x1 + (Int32.toUInt32 x0 >>> (Int32.toUInt32 (1 : Int32) &&& Int32.toUInt32 31)).toInt32))
  else
  (letb (Int32.toUInt32 x0 >>> (Int32.toUInt32 (2 : Int32) &&& Int32.toUInt32 31)).toInt32 fun x0_2 =>
  some ((x1 + (2 : Int32)) + (Int32.toUInt32 x0_2 >>> (Int32.toUInt32 (1 : Int32) &&& Int32.toUInt32 31)).toInt32))
set_option maxRecDepth 20000 in
theorem tJ6_numberOfTrailingZeros_0f7a4_62 (E : EV) (d : Nat) (rr : Option Value × Mem) (x0 : Int32) (x1 : Int32) (I : Mem) (y : Int32) (hf : jJ6_numberOfTrailingZeros_0f7a4_62 x0 x1 I = some y) (hK : (fun (z : Int32) => (some (.int z), I) = rr) y) : G E (d + 0) kJ6_numberOfTrailingZeros_0f7a4 62 [some (.int x0), some (.int x1)] [] I rr := by
  unfold jJ6_numberOfTrailingZeros_0f7a4_62 at hf
  refine G.iload_n dJ6_numberOfTrailingZeros_0f7a4_62 rfl rfl ?_
  refine G.iconst (v := 4) dJ6_numberOfTrailingZeros_0f7a4_63 (by decide) ?_
  refine G.icmp_le (tgt := 74) dJ6_numberOfTrailingZeros_0f7a4_64 (by decide) (fun c_3 => ?_) (fun c_3 => ?_)
  · have hf := ite_t hf c_3
    refine G.iload_n dJ6_numberOfTrailingZeros_0f7a4_74 rfl rfl ?_
    refine G.iload_n dJ6_numberOfTrailingZeros_0f7a4_75 rfl rfl ?_
    refine G.iconst (v := 1) dJ6_numberOfTrailingZeros_0f7a4_76 (by decide) ?_
    refine G.iushr dJ6_numberOfTrailingZeros_0f7a4_77 ?_
    refine G.iadd dJ6_numberOfTrailingZeros_0f7a4_78 ?_
    cases hf
    exact G.iret' dJ6_numberOfTrailingZeros_0f7a4_79 rfl hK
  · have hf := ite_f hf c_3
    refine G.inc (w := 2) (L' := [some (.int x0), some (.int (x1 + (2 : Int32)))]) dJ6_numberOfTrailingZeros_0f7a4_67 (by decide) rfl (Nat.le_of_ble_eq_true rfl) rfl rfl ?_
    refine G.iload_n dJ6_numberOfTrailingZeros_0f7a4_70 rfl rfl ?_
    refine G.iconst (v := 2) dJ6_numberOfTrailingZeros_0f7a4_71 (by decide) ?_
    refine G.iushr dJ6_numberOfTrailingZeros_0f7a4_72 ?_
    refine G.nmi (fun x0_2 e_x0_2 => ?_)
    have hf := letb_at hf e_x0_2
    clear e_x0_2
    refine G.istore_n (L' := [some (.int x0_2), some (.int (x1 + (2 : Int32)))]) dJ6_numberOfTrailingZeros_0f7a4_73 rfl (Nat.le_of_ble_eq_true rfl) (Nat.le_of_ble_eq_true rfl) rfl rfl ?_
    refine G.iload_n dJ6_numberOfTrailingZeros_0f7a4_74 rfl rfl ?_
    refine G.iload_n dJ6_numberOfTrailingZeros_0f7a4_75 rfl rfl ?_
    refine G.iconst (v := 1) dJ6_numberOfTrailingZeros_0f7a4_76 (by decide) ?_
    refine G.iushr dJ6_numberOfTrailingZeros_0f7a4_77 ?_
    refine G.iadd dJ6_numberOfTrailingZeros_0f7a4_78 ?_
    cases hf
    exact G.iret' dJ6_numberOfTrailingZeros_0f7a4_79 rfl hK
def jJ6_numberOfTrailingZeros_0f7a4_49 (x0 : Int32) (x1 : Int32) (I : Mem) : Option Int32 :=
  if x0 ≤ (16 : Int32) then
  (jJ6_numberOfTrailingZeros_0f7a4_62 x0 x1 I)
  else
  (letb (Int32.toUInt32 x0 >>> (Int32.toUInt32 (4 : Int32) &&& Int32.toUInt32 31)).toInt32 fun x0_4 =>
  jJ6_numberOfTrailingZeros_0f7a4_62 x0_4 (x1 + (4 : Int32)) I)
set_option maxRecDepth 20000 in
theorem tJ6_numberOfTrailingZeros_0f7a4_49 (E : EV) (d : Nat) (rr : Option Value × Mem) (x0 : Int32) (x1 : Int32) (I : Mem) (y : Int32) (hf : jJ6_numberOfTrailingZeros_0f7a4_49 x0 x1 I = some y) (hK : (fun (z : Int32) => (some (.int z), I) = rr) y) : G E (d + 0) kJ6_numberOfTrailingZeros_0f7a4 49 [some (.int x0), some (.int x1)] [] I rr := by
  unfold jJ6_numberOfTrailingZeros_0f7a4_49 at hf
  refine G.iload_n dJ6_numberOfTrailingZeros_0f7a4_49 rfl rfl ?_
  refine G.bipush (v := 16) dJ6_numberOfTrailingZeros_0f7a4_50 (by decide) ?_
  refine G.icmp_le (tgt := 62) dJ6_numberOfTrailingZeros_0f7a4_52 (by decide) (fun c_5 => ?_) (fun c_5 => ?_)
  · have hf := ite_t hf c_5
    exact tJ6_numberOfTrailingZeros_0f7a4_62 E d rr x0 x1 I _ hf hK
  · have hf := ite_f hf c_5
    refine G.inc (w := 4) (L' := [some (.int x0), some (.int (x1 + (4 : Int32)))]) dJ6_numberOfTrailingZeros_0f7a4_55 (by decide) rfl (Nat.le_of_ble_eq_true rfl) rfl rfl ?_
    refine G.iload_n dJ6_numberOfTrailingZeros_0f7a4_58 rfl rfl ?_
    refine G.iconst (v := 4) dJ6_numberOfTrailingZeros_0f7a4_59 (by decide) ?_
    refine G.iushr dJ6_numberOfTrailingZeros_0f7a4_60 ?_
    refine G.nmi (fun x0_4 e_x0_4 => ?_)
    have hf := letb_at hf e_x0_4
    clear e_x0_4
    refine G.istore_n (L' := [some (.int x0_4), some (.int (x1 + (4 : Int32)))]) dJ6_numberOfTrailingZeros_0f7a4_61 rfl (Nat.le_of_ble_eq_true rfl) (Nat.le_of_ble_eq_true rfl) rfl rfl ?_
    exact tJ6_numberOfTrailingZeros_0f7a4_62 E d rr x0_4 (x1 + (4 : Int32)) I _ hf hK
def jJ6_numberOfTrailingZeros_0f7a4_34 (x0 : Int32) (x1 : Int32) (I : Mem) : Option Int32 :=
  if x0 ≤ (256 : Int32) then
  (jJ6_numberOfTrailingZeros_0f7a4_49 x0 x1 I)
  else
  (letb (Int32.toUInt32 x0 >>> (Int32.toUInt32 (8 : Int32) &&& Int32.toUInt32 31)).toInt32 fun x0_6 =>
  jJ6_numberOfTrailingZeros_0f7a4_49 x0_6 (x1 + (8 : Int32)) I)
set_option maxRecDepth 20000 in
theorem tJ6_numberOfTrailingZeros_0f7a4_34 (E : EV) (d : Nat) (rr : Option Value × Mem) (x0 : Int32) (x1 : Int32) (I : Mem) (y : Int32) (hf : jJ6_numberOfTrailingZeros_0f7a4_34 x0 x1 I = some y) (hK : (fun (z : Int32) => (some (.int z), I) = rr) y) : G E (d + 0) kJ6_numberOfTrailingZeros_0f7a4 34 [some (.int x0), some (.int x1)] [] I rr := by
  unfold jJ6_numberOfTrailingZeros_0f7a4_34 at hf
  refine G.iload_n dJ6_numberOfTrailingZeros_0f7a4_34 rfl rfl ?_
  refine G.sipush (v := 256) dJ6_numberOfTrailingZeros_0f7a4_35 (by decide) ?_
  refine G.icmp_le (tgt := 49) dJ6_numberOfTrailingZeros_0f7a4_38 (by decide) (fun c_7 => ?_) (fun c_7 => ?_)
  · have hf := ite_t hf c_7
    exact tJ6_numberOfTrailingZeros_0f7a4_49 E d rr x0 x1 I _ hf hK
  · have hf := ite_f hf c_7
    refine G.inc (w := 8) (L' := [some (.int x0), some (.int (x1 + (8 : Int32)))]) dJ6_numberOfTrailingZeros_0f7a4_41 (by decide) rfl (Nat.le_of_ble_eq_true rfl) rfl rfl ?_
    refine G.iload_n dJ6_numberOfTrailingZeros_0f7a4_44 rfl rfl ?_
    refine G.bipush (v := 8) dJ6_numberOfTrailingZeros_0f7a4_45 (by decide) ?_
    refine G.iushr dJ6_numberOfTrailingZeros_0f7a4_47 ?_
    refine G.nmi (fun x0_6 e_x0_6 => ?_)
    have hf := letb_at hf e_x0_6
    clear e_x0_6
    refine G.istore_n (L' := [some (.int x0_6), some (.int (x1 + (8 : Int32)))]) dJ6_numberOfTrailingZeros_0f7a4_48 rfl (Nat.le_of_ble_eq_true rfl) (Nat.le_of_ble_eq_true rfl) rfl rfl ?_
    exact tJ6_numberOfTrailingZeros_0f7a4_49 E d rr x0_6 (x1 + (8 : Int32)) I _ hf hK
def fJ6_numberOfTrailingZeros_0f7a4 (x0 : Int32) (I : Mem) : Option Int32 :=
  letb ((x0 ^^^ (-1 : Int32)) &&& (x0 - (1 : Int32))) fun x0_1 =>
  if 0 < x0_1 then
  (if x0_1 ≤ (65536 : Int32) then
  (jJ6_numberOfTrailingZeros_0f7a4_34 x0_1 (1 : Int32) I)
  else
  (letb (Int32.toUInt32 x0_1 >>> (Int32.toUInt32 (16 : Int32) &&& Int32.toUInt32 31)).toInt32 fun x0_8 =>
  jJ6_numberOfTrailingZeros_0f7a4_34 x0_8 ((1 : Int32) + (16 : Int32)) I))
  else
  (some (x0_1 &&& (32 : Int32)))
set_option maxRecDepth 20000 in
theorem gJ6_numberOfTrailingZeros_0f7a4 (E : EV) (d : Nat) (x0 : Int32) (I : Mem) {v : Int32} (hf : fJ6_numberOfTrailingZeros_0f7a4 x0 I = some v) : Gm E (d + 0) kJ6_numberOfTrailingZeros_0f7a4 [.int x0] I (some (.int v), I) := by
  refine Gm.of (by decide) rfl (Nat.le_of_ble_eq_true rfl) ?_
  generalize hrr : ((some (.int v), I) : Option Value × Mem) = rr
  show G E (d + 0) kJ6_numberOfTrailingZeros_0f7a4 0 [some (.int x0), none] [] I rr
  have hK : (fun (z : Int32) => (some (.int z), I) = rr) v := hrr
  clear hrr
  unfold fJ6_numberOfTrailingZeros_0f7a4 at hf
  refine G.iload_n dJ6_numberOfTrailingZeros_0f7a4_0 rfl rfl ?_
  refine G.iconst (v := -1) dJ6_numberOfTrailingZeros_0f7a4_1 (by decide) ?_
  refine G.ixor dJ6_numberOfTrailingZeros_0f7a4_2 ?_
  refine G.iload_n dJ6_numberOfTrailingZeros_0f7a4_3 rfl rfl ?_
  refine G.iconst (v := 1) dJ6_numberOfTrailingZeros_0f7a4_4 (by decide) ?_
  refine G.isub dJ6_numberOfTrailingZeros_0f7a4_5 ?_
  refine G.iand dJ6_numberOfTrailingZeros_0f7a4_6 ?_
  refine G.nmi (fun x0_1 e_x0_1 => ?_)
  have hf := letb_at hf e_x0_1
  clear e_x0_1
  refine G.istore_n (L' := [some (.int x0_1), none]) dJ6_numberOfTrailingZeros_0f7a4_7 rfl (Nat.le_of_ble_eq_true rfl) (Nat.le_of_ble_eq_true rfl) rfl rfl ?_
  refine G.iload_n dJ6_numberOfTrailingZeros_0f7a4_8 rfl rfl ?_
  refine G.if_gt (tgt := 17) dJ6_numberOfTrailingZeros_0f7a4_9 (by decide) (fun c_10 => ?_) (fun c_10 => ?_)
  · have hf := ite_t hf c_10
    refine G.iconst (v := 1) dJ6_numberOfTrailingZeros_0f7a4_17 (by decide) ?_
    refine G.istore_n (L' := [some (.int x0_1), some (.int (1 : Int32))]) dJ6_numberOfTrailingZeros_0f7a4_18 rfl (Nat.le_of_ble_eq_true rfl) (Nat.le_of_ble_eq_true rfl) rfl rfl ?_
    refine G.iload_n dJ6_numberOfTrailingZeros_0f7a4_19 rfl rfl ?_
    refine G.ldcw (v := 65536) dJ6_numberOfTrailingZeros_0f7a4_20 kcJ6_264 ?_
    refine G.icmp_le (tgt := 34) dJ6_numberOfTrailingZeros_0f7a4_23 (by decide) (fun c_9 => ?_) (fun c_9 => ?_)
    · have hf := ite_t hf c_9
      exact tJ6_numberOfTrailingZeros_0f7a4_34 E d rr x0_1 (1 : Int32) I _ hf hK
    · have hf := ite_f hf c_9
      refine G.inc (w := 16) (L' := [some (.int x0_1), some (.int ((1 : Int32) + (16 : Int32)))]) dJ6_numberOfTrailingZeros_0f7a4_26 (by decide) rfl (Nat.le_of_ble_eq_true rfl) rfl rfl ?_
      refine G.iload_n dJ6_numberOfTrailingZeros_0f7a4_29 rfl rfl ?_
      refine G.bipush (v := 16) dJ6_numberOfTrailingZeros_0f7a4_30 (by decide) ?_
      refine G.iushr dJ6_numberOfTrailingZeros_0f7a4_32 ?_
      refine G.nmi (fun x0_8 e_x0_8 => ?_)
      have hf := letb_at hf e_x0_8
      clear e_x0_8
      refine G.istore_n (L' := [some (.int x0_8), some (.int ((1 : Int32) + (16 : Int32)))]) dJ6_numberOfTrailingZeros_0f7a4_33 rfl (Nat.le_of_ble_eq_true rfl) (Nat.le_of_ble_eq_true rfl) rfl rfl ?_
      exact tJ6_numberOfTrailingZeros_0f7a4_34 E d rr x0_8 ((1 : Int32) + (16 : Int32)) I _ hf hK
  · have hf := ite_f hf c_10
    refine G.iload_n dJ6_numberOfTrailingZeros_0f7a4_12 rfl rfl ?_
    refine G.bipush (v := 32) dJ6_numberOfTrailingZeros_0f7a4_13 (by decide) ?_
    refine G.iand dJ6_numberOfTrailingZeros_0f7a4_15 ?_
    cases hf
    exact G.iret' dJ6_numberOfTrailingZeros_0f7a4_16 rfl hK
end
section
theorem dX5_lays_0 : decode cX5_lays 0 = .ok (.iload_n 1, 1) := by decide +kernel
theorem dX5_lays_1 : decode cX5_lays 1 = .ok (.ifCond .eq 7, 3) := by decide +kernel
theorem dX5_lays_4 : decode cX5_lays 4 = .ok (.iload_n 2, 1) := by decide +kernel
theorem dX5_lays_5 : decode cX5_lays 5 = .ok (.ifCond .ne 7, 3) := by decide +kernel
theorem dX5_lays_8 : decode cX5_lays 8 = .ok (.iconst 1, 1) := by decide +kernel
theorem dX5_lays_9 : decode cX5_lays 9 = .ok (.goto 4, 3) := by decide +kernel
theorem dX5_lays_12 : decode cX5_lays 12 = .ok (.iconst 0, 1) := by decide +kernel
theorem dX5_lays_13 : decode cX5_lays 13 = .ok (.ireturn, 1) := by decide +kernel
def fX5_lays (o0 : Nat) (x1 : Int32) (x2 : Int32) (x3 : Int32) (I : Mem) : Option Int32 :=
  if x1 = 0 then
  (some (1 : Int32))
  else
  (if x2 = 0 then
  (some (1 : Int32))
  else
  (some (0 : Int32)))
set_option maxRecDepth 20000 in
theorem gX5_lays (E : EV) (d : Nat) (o0 : Nat) (x1 : Int32) (x2 : Int32) (x3 : Int32) (I : Mem) (ho0 : isL o0) {v : Int32} (hf : fX5_lays o0 x1 x2 x3 I = some v) : Gm E (d + 0) kX5_lays [.ref o0, .int x1, .int x2, .int x3] I (some (.int v), I) := by
  refine Gm.of (by decide) rfl (Nat.le_of_ble_eq_true rfl) ?_
  generalize hrr : ((some (.int v), I) : Option Value × Mem) = rr
  show G E (d + 0) kX5_lays 0 [some (.ref o0), some (.int x1), some (.int x2), some (.int x3)] [] I rr
  have hK : (fun (z : Int32) => (some (.int z), I) = rr) v := hrr
  clear hrr
  unfold fX5_lays at hf
  refine G.iload_n dX5_lays_0 rfl rfl ?_
  refine G.if_eq (tgt := 8) dX5_lays_1 (by decide) (fun c_2 => ?_) (fun c_2 => ?_)
  · have hf := ite_t hf c_2
    refine G.iconst (v := 1) dX5_lays_8 (by decide) ?_
    refine G.goto (tgt := 13) dX5_lays_9 (by decide) ?_
    cases hf
    exact G.zret' dX5_lays_13 rfl (by decide) hK
  · have hf := ite_f hf c_2
    refine G.iload_n dX5_lays_4 rfl rfl ?_
    refine G.if_ne (tgt := 12) dX5_lays_5 (by decide) (fun c_1 => ?_) (fun c_1 => ?_)
    · have hf := ite_f hf c_1
      refine G.iconst (v := 0) dX5_lays_12 (by decide) ?_
      cases hf
      exact G.zret' dX5_lays_13 rfl (by decide) hK
    · have hf := ite_t hf c_1
      refine G.iconst (v := 1) dX5_lays_8 (by decide) ?_
      refine G.goto (tgt := 13) dX5_lays_9 (by decide) ?_
      cases hf
      exact G.zret' dX5_lays_13 rfl (by decide) hK
theorem dX0_lays_0 : decode cX0_lays 0 = .ok (.iload_n 1, 1) := by decide +kernel
theorem dX0_lays_1 : decode cX0_lays 1 = .ok (.ifCond .ne 17, 3) := by decide +kernel
theorem dX0_lays_4 : decode cX0_lays 4 = .ok (.aload_n 0, 1) := by decide +kernel
theorem dX0_lays_5 : decode cX0_lays 5 = .ok (.iload_n 1, 1) := by decide +kernel
theorem dX0_lays_6 : decode cX0_lays 6 = .ok (.iload_n 2, 1) := by decide +kernel
theorem dX0_lays_7 : decode cX0_lays 7 = .ok (.iload_n 3, 1) := by decide +kernel
theorem dX0_lays_8 : decode cX0_lays 8 = .ok (.invokespecial 7, 3) := by decide +kernel
theorem dX0_lays_11 : decode cX0_lays 11 = .ok (.ifCond .eq 7, 3) := by decide +kernel
theorem dX0_lays_14 : decode cX0_lays 14 = .ok (.iconst 1, 1) := by decide +kernel
theorem dX0_lays_15 : decode cX0_lays 15 = .ok (.goto 4, 3) := by decide +kernel
theorem dX0_lays_18 : decode cX0_lays 18 = .ok (.iconst 0, 1) := by decide +kernel
theorem dX0_lays_19 : decode cX0_lays 19 = .ok (.ireturn, 1) := by decide +kernel
def fX0_lays (x1 : Int32) (x2 : Int32) (x3 : Int32) (I : Mem) : Option Int32 :=
  if x1 = 0 then
  (bnd (fX5_lays 42 x1 x2 x3 I) fun v_2 =>
  if v_2 = 0 then
  (some (0 : Int32))
  else
  (some (1 : Int32)))
  else
  (some (0 : Int32))
set_option maxRecDepth 20000 in
theorem gX0_lays (E : EV) (d : Nat) (x1 : Int32) (x2 : Int32) (x3 : Int32) (I : Mem) {v : Int32} (hf : fX0_lays x1 x2 x3 I = some v) : Gm E (d + 1) kX0_lays [.ref 42, .int x1, .int x2, .int x3] I (some (.int v), I) := by
  refine Gm.of (by decide) rfl (Nat.le_of_ble_eq_true rfl) ?_
  generalize hrr : ((some (.int v), I) : Option Value × Mem) = rr
  show G E (d + 1) kX0_lays 0 [some (.ref 42), some (.int x1), some (.int x2), some (.int x3)] [] I rr
  have hK : (fun (z : Int32) => (some (.int z), I) = rr) v := hrr
  clear hrr
  unfold fX0_lays at hf
  refine G.iload_n dX0_lays_0 rfl rfl ?_
  refine G.if_ne (tgt := 18) dX0_lays_1 (by decide) (fun c_4 => ?_) (fun c_4 => ?_)
  · have hf := ite_f hf c_4
    refine G.iconst (v := 0) dX0_lays_18 (by decide) ?_
    cases hf
    exact G.zret' dX0_lays_19 rfl (by decide) hK
  · have hf := ite_t hf c_4
    refine G.aload_n dX0_lays_4 rfl rfl ?_
    refine G.iload_n dX0_lays_5 rfl rfl ?_
    refine G.iload_n dX0_lays_6 rfl rfl ?_
    refine G.iload_n dX0_lays_7 rfl rfl ?_
    obtain ⟨v_2, hc_1, hf⟩ := bnd_at hf
    refine G.callQi (av := [.int x1, .int x2, .int x3]) (rest := []) dX0_lays_8 mqX0_7 (gX5_lays E d 42 x1 x2 x3 I (by unfold isL; decide) hc_1) (by decide) rfl rfl rfl (Nat.le_of_ble_eq_true rfl) ?_
    refine G.if_eq (tgt := 18) dX0_lays_11 (by decide) (fun c_3 => ?_) (fun c_3 => ?_)
    · have hf := ite_t hf c_3
      refine G.iconst (v := 0) dX0_lays_18 (by decide) ?_
      cases hf
      exact G.zret' dX0_lays_19 rfl (by decide) hK
    · have hf := ite_f hf c_3
      refine G.iconst (v := 1) dX0_lays_14 (by decide) ?_
      refine G.goto (tgt := 19) dX0_lays_15 (by decide) ?_
      cases hf
      exact G.zret' dX0_lays_19 rfl (by decide) hK
theorem dX1_lays_0 : decode cX1_lays 0 = .ok (.iconst 1, 1) := by decide +kernel
theorem dX1_lays_1 : decode cX1_lays 1 = .ok (.ireturn, 1) := by decide +kernel
def fX1_lays (o0 : Nat) (x1 : Int32) (x2 : Int32) (x3 : Int32) (I : Mem) : Option Int32 :=
  some (1 : Int32)
set_option maxRecDepth 20000 in
theorem gX1_lays (E : EV) (d : Nat) (o0 : Nat) (x1 : Int32) (x2 : Int32) (x3 : Int32) (I : Mem) (ho0 : isL o0) {v : Int32} (hf : fX1_lays o0 x1 x2 x3 I = some v) : Gm E (d + 0) kX1_lays [.ref o0, .int x1, .int x2, .int x3] I (some (.int v), I) := by
  refine Gm.of (by decide) rfl (Nat.le_of_ble_eq_true rfl) ?_
  generalize hrr : ((some (.int v), I) : Option Value × Mem) = rr
  show G E (d + 0) kX1_lays 0 [some (.ref o0), some (.int x1), some (.int x2), some (.int x3)] [] I rr
  have hK : (fun (z : Int32) => (some (.int z), I) = rr) v := hrr
  clear hrr
  unfold fX1_lays at hf
  refine G.iconst (v := 1) dX1_lays_0 (by decide) ?_
  cases hf
  exact G.zret' dX1_lays_1 rfl (by decide) hK
theorem dX7_lays_0 : decode cX7_lays 0 = .ok (.iload_n 3, 1) := by decide +kernel
theorem dX7_lays_1 : decode cX7_lays 1 = .ok (.iconst 1, 1) := by decide +kernel
theorem dX7_lays_2 : decode cX7_lays 2 = .ok (.iand, 1) := by decide +kernel
theorem dX7_lays_3 : decode cX7_lays 3 = .ok (.iconst 1, 1) := by decide +kernel
theorem dX7_lays_4 : decode cX7_lays 4 = .ok (.if_icmp .ne 17, 3) := by decide +kernel
theorem dX7_lays_7 : decode cX7_lays 7 = .ok (.aload_n 0, 1) := by decide +kernel
theorem dX7_lays_8 : decode cX7_lays 8 = .ok (.iload_n 1, 1) := by decide +kernel
theorem dX7_lays_9 : decode cX7_lays 9 = .ok (.iload_n 2, 1) := by decide +kernel
theorem dX7_lays_10 : decode cX7_lays 10 = .ok (.iload_n 3, 1) := by decide +kernel
theorem dX7_lays_11 : decode cX7_lays 11 = .ok (.invokespecial 7, 3) := by decide +kernel
theorem dX7_lays_14 : decode cX7_lays 14 = .ok (.ifCond .eq 7, 3) := by decide +kernel
theorem dX7_lays_17 : decode cX7_lays 17 = .ok (.iconst 1, 1) := by decide +kernel
theorem dX7_lays_18 : decode cX7_lays 18 = .ok (.goto 4, 3) := by decide +kernel
theorem dX7_lays_21 : decode cX7_lays 21 = .ok (.iconst 0, 1) := by decide +kernel
theorem dX7_lays_22 : decode cX7_lays 22 = .ok (.ireturn, 1) := by decide +kernel
def fX7_lays (x1 : Int32) (x2 : Int32) (x3 : Int32) (I : Mem) : Option Int32 :=
  if (x3 &&& (1 : Int32)) = (1 : Int32) then
  (bnd (fX1_lays 41 x1 x2 x3 I) fun v_2 =>
  if v_2 = 0 then
  (some (0 : Int32))
  else
  (some (1 : Int32)))
  else
  (some (0 : Int32))
set_option maxRecDepth 20000 in
theorem gX7_lays (E : EV) (d : Nat) (x1 : Int32) (x2 : Int32) (x3 : Int32) (I : Mem) {v : Int32} (hf : fX7_lays x1 x2 x3 I = some v) : Gm E (d + 1) kX7_lays [.ref 41, .int x1, .int x2, .int x3] I (some (.int v), I) := by
  refine Gm.of (by decide) rfl (Nat.le_of_ble_eq_true rfl) ?_
  generalize hrr : ((some (.int v), I) : Option Value × Mem) = rr
  show G E (d + 1) kX7_lays 0 [some (.ref 41), some (.int x1), some (.int x2), some (.int x3)] [] I rr
  have hK : (fun (z : Int32) => (some (.int z), I) = rr) v := hrr
  clear hrr
  unfold fX7_lays at hf
  refine G.iload_n dX7_lays_0 rfl rfl ?_
  refine G.iconst (v := 1) dX7_lays_1 (by decide) ?_
  refine G.iand dX7_lays_2 ?_
  refine G.iconst (v := 1) dX7_lays_3 (by decide) ?_
  refine G.icmp_ne (tgt := 21) dX7_lays_4 (by decide) (fun c_4 => ?_) (fun c_4 => ?_)
  · have hf := ite_f hf c_4
    refine G.iconst (v := 0) dX7_lays_21 (by decide) ?_
    cases hf
    exact G.zret' dX7_lays_22 rfl (by decide) hK
  · have hf := ite_t hf c_4
    refine G.aload_n dX7_lays_7 rfl rfl ?_
    refine G.iload_n dX7_lays_8 rfl rfl ?_
    refine G.iload_n dX7_lays_9 rfl rfl ?_
    refine G.iload_n dX7_lays_10 rfl rfl ?_
    obtain ⟨v_2, hc_1, hf⟩ := bnd_at hf
    refine G.callPi (av := [.int x1, .int x2, .int x3]) (rest := []) dX7_lays_11 mpX7_7 (gX1_lays E d 41 x1 x2 x3 I (by unfold isL; decide) hc_1) (by decide) rfl rfl rfl (Nat.le_of_ble_eq_true rfl) ?_
    refine G.if_eq (tgt := 21) dX7_lays_14 (by decide) (fun c_3 => ?_) (fun c_3 => ?_)
    · have hf := ite_t hf c_3
      refine G.iconst (v := 0) dX7_lays_21 (by decide) ?_
      cases hf
      exact G.zret' dX7_lays_22 rfl (by decide) hK
    · have hf := ite_f hf c_3
      refine G.iconst (v := 1) dX7_lays_17 (by decide) ?_
      refine G.goto (tgt := 22) dX7_lays_18 (by decide) ?_
      cases hf
      exact G.zret' dX7_lays_22 rfl (by decide) hK
theorem dX3_share_0 : decode cX3_share 0 = .ok (.iload_n 1, 1) := by decide +kernel
theorem dX3_share_1 : decode cX3_share 1 = .ok (.iconst 2, 1) := by decide +kernel
theorem dX3_share_2 : decode cX3_share 2 = .ok (.idiv, 1) := by decide +kernel
theorem dX3_share_3 : decode cX3_share 3 = .ok (.ireturn, 1) := by decide +kernel
def fX3_share (o0 : Nat) (x1 : Int32) (I : Mem) : Option Int32 :=
  some (x1 / (2 : Int32))
set_option maxRecDepth 20000 in
theorem gX3_share (E : EV) (d : Nat) (o0 : Nat) (x1 : Int32) (I : Mem) (ho0 : isL o0) {v : Int32} (hf : fX3_share o0 x1 I = some v) : Gm E (d + 0) kX3_share [.ref o0, .int x1] I (some (.int v), I) := by
  refine Gm.of (by decide) rfl (Nat.le_of_ble_eq_true rfl) ?_
  generalize hrr : ((some (.int v), I) : Option Value × Mem) = rr
  show G E (d + 0) kX3_share 0 [some (.ref o0), some (.int x1)] [] I rr
  have hK : (fun (z : Int32) => (some (.int z), I) = rr) v := hrr
  clear hrr
  unfold fX3_share at hf
  refine G.iload_n dX3_share_0 rfl rfl ?_
  refine G.iconst (v := 2) dX3_share_1 (by decide) ?_
  refine G.idiv dX3_share_2 (by decide) ?_
  cases hf
  exact G.iret' dX3_share_3 rfl hK
theorem dX5_share_0 : decode cX5_share 0 = .ok (.iconst 0, 1) := by decide +kernel
theorem dX5_share_1 : decode cX5_share 1 = .ok (.ireturn, 1) := by decide +kernel
def fX5_share (o0 : Nat) (x1 : Int32) (I : Mem) : Option Int32 :=
  some (0 : Int32)
set_option maxRecDepth 20000 in
theorem gX5_share (E : EV) (d : Nat) (o0 : Nat) (x1 : Int32) (I : Mem) (ho0 : isL o0) {v : Int32} (hf : fX5_share o0 x1 I = some v) : Gm E (d + 0) kX5_share [.ref o0, .int x1] I (some (.int v), I) := by
  refine Gm.of (by decide) rfl (Nat.le_of_ble_eq_true rfl) ?_
  generalize hrr : ((some (.int v), I) : Option Value × Mem) = rr
  show G E (d + 0) kX5_share 0 [some (.ref o0), some (.int x1)] [] I rr
  have hK : (fun (z : Int32) => (some (.int z), I) = rr) v := hrr
  clear hrr
  unfold fX5_share at hf
  refine G.iconst (v := 0) dX5_share_0 (by decide) ?_
  cases hf
  exact G.iret' dX5_share_1 rfl hK
theorem dX5_mindsBeats_0 : decode cX5_mindsBeats 0 = .ok (.iconst 0, 1) := by decide +kernel
theorem dX5_mindsBeats_1 : decode cX5_mindsBeats 1 = .ok (.ireturn, 1) := by decide +kernel
def fX5_mindsBeats (o0 : Nat) (I : Mem) : Option Int32 :=
  some (0 : Int32)
set_option maxRecDepth 20000 in
theorem gX5_mindsBeats (E : EV) (d : Nat) (o0 : Nat) (I : Mem) (ho0 : isL o0) {v : Int32} (hf : fX5_mindsBeats o0 I = some v) : Gm E (d + 0) kX5_mindsBeats [.ref o0] I (some (.int v), I) := by
  refine Gm.of (by decide) rfl (Nat.le_of_ble_eq_true rfl) ?_
  generalize hrr : ((some (.int v), I) : Option Value × Mem) = rr
  show G E (d + 0) kX5_mindsBeats 0 [some (.ref o0)] [] I rr
  have hK : (fun (z : Int32) => (some (.int z), I) = rr) v := hrr
  clear hrr
  unfold fX5_mindsBeats at hf
  refine G.iconst (v := 0) dX5_mindsBeats_0 (by decide) ?_
  cases hf
  exact G.zret' dX5_mindsBeats_1 rfl (by decide) hK
theorem dX7_mindsBeats_0 : decode cX7_mindsBeats 0 = .ok (.iconst 1, 1) := by decide +kernel
theorem dX7_mindsBeats_1 : decode cX7_mindsBeats 1 = .ok (.ireturn, 1) := by decide +kernel
def fX7_mindsBeats (I : Mem) : Option Int32 :=
  some (1 : Int32)
set_option maxRecDepth 20000 in
theorem gX7_mindsBeats (E : EV) (d : Nat) (I : Mem) {v : Int32} (hf : fX7_mindsBeats I = some v) : Gm E (d + 0) kX7_mindsBeats [.ref 41] I (some (.int v), I) := by
  refine Gm.of (by decide) rfl (Nat.le_of_ble_eq_true rfl) ?_
  generalize hrr : ((some (.int v), I) : Option Value × Mem) = rr
  show G E (d + 0) kX7_mindsBeats 0 [some (.ref 41)] [] I rr
  have hK : (fun (z : Int32) => (some (.int z), I) = rr) v := hrr
  clear hrr
  unfold fX7_mindsBeats at hf
  refine G.iconst (v := 1) dX7_mindsBeats_0 (by decide) ?_
  cases hf
  exact G.zret' dX7_mindsBeats_1 rfl (by decide) hK
def fD_lays (o : Nat) (x1 x2 x3 : Int32) (I : Mem) : Option Int32 := if o = 38 then fX5_lays 38 x1 x2 x3 I else if o = 39 then fX1_lays 39 x1 x2 x3 I else if o = 40 then fX5_lays 40 x1 x2 x3 I else if o = 41 then fX7_lays x1 x2 x3 I else if o = 42 then fX0_lays x1 x2 x3 I else none
theorem vLX4_102 {E : EV} {d : Nat} {k : MD} {pc o : Nat} {L : List (Option Value)} {rest : List Value} {I : Mem} {r : Option Value × Mem} {x1 x2 x3 : Int32} {v : Int32} (hd : decode k.2.1 pc = .ok (.invokevirtual 102, 3)) (ho : isL o) (hc : fD_lays o x1 x2 x3 I = some v) (hW : (rest.map fun v => v.category).sum ≤ 8) (hk : RX4 = k.1.cls) (kk : G E (d + 2) k (pc + 3) L (.int v :: rest) I r) : G E (d + 2) k pc L (.int x3 :: .int x2 :: .int x1 :: .ref o :: rest) I r := by
  rcases ho with rfl | rfl | rfl | rfl | rfl
  · exact G.callOi (av := [.int x1, .int x2, .int x3]) (rest := rest) hd (hk ▸ moX4_102_5) (gX5_lays E (d + 1) 38 x1 x2 x3 I (by unfold isL; decide) hc) (by decide) rfl rfl rfl hW kk
  · exact G.callOi (av := [.int x1, .int x2, .int x3]) (rest := rest) hd (hk ▸ moX4_102_1) (gX1_lays E (d + 1) 39 x1 x2 x3 I (by unfold isL; decide) hc) (by decide) rfl rfl rfl hW kk
  · exact G.callOi (av := [.int x1, .int x2, .int x3]) (rest := rest) hd (hk ▸ moX4_102_3) (gX5_lays E (d + 1) 40 x1 x2 x3 I (by unfold isL; decide) hc) (by decide) rfl rfl rfl hW kk
  · exact G.callOi (av := [.int x1, .int x2, .int x3]) (rest := rest) hd (hk ▸ moX4_102_7) (gX7_lays E d x1 x2 x3 I hc) (by decide) rfl rfl rfl hW kk
  · exact G.callOi (av := [.int x1, .int x2, .int x3]) (rest := rest) hd (hk ▸ moX4_102_0) (gX0_lays E d x1 x2 x3 I hc) (by decide) rfl rfl rfl hW kk
theorem vLX11_232 {E : EV} {d : Nat} {k : MD} {pc o : Nat} {L : List (Option Value)} {rest : List Value} {I : Mem} {r : Option Value × Mem} {x1 x2 x3 : Int32} {v : Int32} (hd : decode k.2.1 pc = .ok (.invokevirtual 232, 3)) (ho : isL o) (hc : fD_lays o x1 x2 x3 I = some v) (hW : (rest.map fun v => v.category).sum ≤ 8) (hk : RX11 = k.1.cls) (kk : G E (d + 2) k (pc + 3) L (.int v :: rest) I r) : G E (d + 2) k pc L (.int x3 :: .int x2 :: .int x1 :: .ref o :: rest) I r := by
  rcases ho with rfl | rfl | rfl | rfl | rfl
  · exact G.callOi (av := [.int x1, .int x2, .int x3]) (rest := rest) hd (hk ▸ moX11_232_5) (gX5_lays E (d + 1) 38 x1 x2 x3 I (by unfold isL; decide) hc) (by decide) rfl rfl rfl hW kk
  · exact G.callOi (av := [.int x1, .int x2, .int x3]) (rest := rest) hd (hk ▸ moX11_232_1) (gX1_lays E (d + 1) 39 x1 x2 x3 I (by unfold isL; decide) hc) (by decide) rfl rfl rfl hW kk
  · exact G.callOi (av := [.int x1, .int x2, .int x3]) (rest := rest) hd (hk ▸ moX11_232_3) (gX5_lays E (d + 1) 40 x1 x2 x3 I (by unfold isL; decide) hc) (by decide) rfl rfl rfl hW kk
  · exact G.callOi (av := [.int x1, .int x2, .int x3]) (rest := rest) hd (hk ▸ moX11_232_7) (gX7_lays E d x1 x2 x3 I hc) (by decide) rfl rfl rfl hW kk
  · exact G.callOi (av := [.int x1, .int x2, .int x3]) (rest := rest) hd (hk ▸ moX11_232_0) (gX0_lays E d x1 x2 x3 I hc) (by decide) rfl rfl rfl hW kk
def fD_share (o : Nat) (x1 : Int32) (I : Mem) : Option Int32 := if o = 38 then fX5_share 38 x1 I else if o = 39 then fX5_share 39 x1 I else if o = 40 then fX3_share 40 x1 I else if o = 41 then fX5_share 41 x1 I else if o = 42 then fX3_share 42 x1 I else none
theorem vLX4_116 {E : EV} {d : Nat} {k : MD} {pc o : Nat} {L : List (Option Value)} {rest : List Value} {I : Mem} {r : Option Value × Mem} {x1 : Int32} {v : Int32} (hd : decode k.2.1 pc = .ok (.invokevirtual 116, 3)) (ho : isL o) (hc : fD_share o x1 I = some v) (hW : (rest.map fun v => v.category).sum ≤ 8) (hk : RX4 = k.1.cls) (kk : G E (d + 1) k (pc + 3) L (.int v :: rest) I r) : G E (d + 1) k pc L (.int x1 :: .ref o :: rest) I r := by
  rcases ho with rfl | rfl | rfl | rfl | rfl
  · exact G.callOi (av := [.int x1]) (rest := rest) hd (hk ▸ moX4_116_5) (gX5_share E d 38 x1 I (by unfold isL; decide) hc) (by decide) rfl rfl rfl hW kk
  · exact G.callOi (av := [.int x1]) (rest := rest) hd (hk ▸ moX4_116_1) (gX5_share E d 39 x1 I (by unfold isL; decide) hc) (by decide) rfl rfl rfl hW kk
  · exact G.callOi (av := [.int x1]) (rest := rest) hd (hk ▸ moX4_116_3) (gX3_share E d 40 x1 I (by unfold isL; decide) hc) (by decide) rfl rfl rfl hW kk
  · exact G.callOi (av := [.int x1]) (rest := rest) hd (hk ▸ moX4_116_7) (gX5_share E d 41 x1 I (by unfold isL; decide) hc) (by decide) rfl rfl rfl hW kk
  · exact G.callOi (av := [.int x1]) (rest := rest) hd (hk ▸ moX4_116_0) (gX3_share E d 42 x1 I (by unfold isL; decide) hc) (by decide) rfl rfl rfl hW kk
def fD_mindsBeats (o : Nat) (I : Mem) : Option Int32 := if o = 38 then fX5_mindsBeats 38 I else if o = 39 then fX5_mindsBeats 39 I else if o = 40 then fX5_mindsBeats 40 I else if o = 41 then fX7_mindsBeats I else if o = 42 then fX5_mindsBeats 42 I else none
theorem vLX6_91 {E : EV} {d : Nat} {k : MD} {pc o : Nat} {L : List (Option Value)} {rest : List Value} {I : Mem} {r : Option Value × Mem} {v : Int32} (hd : decode k.2.1 pc = .ok (.invokevirtual 91, 3)) (ho : isL o) (hc : fD_mindsBeats o I = some v) (hW : (rest.map fun v => v.category).sum ≤ 8) (hk : RX6 = k.1.cls) (kk : G E (d + 1) k (pc + 3) L (.int v :: rest) I r) : G E (d + 1) k pc L (.ref o :: rest) I r := by
  rcases ho with rfl | rfl | rfl | rfl | rfl
  · exact G.callOi (av := []) (rest := rest) hd (hk ▸ moX6_91_5) (gX5_mindsBeats E d 38 I (by unfold isL; decide) hc) (by decide) rfl rfl rfl hW kk
  · exact G.callOi (av := []) (rest := rest) hd (hk ▸ moX6_91_1) (gX5_mindsBeats E d 39 I (by unfold isL; decide) hc) (by decide) rfl rfl rfl hW kk
  · exact G.callOi (av := []) (rest := rest) hd (hk ▸ moX6_91_3) (gX5_mindsBeats E d 40 I (by unfold isL; decide) hc) (by decide) rfl rfl rfl hW kk
  · exact G.callOi (av := []) (rest := rest) hd (hk ▸ moX6_91_7) (gX7_mindsBeats E d I hc) (by decide) rfl rfl rfl hW kk
  · exact G.callOi (av := []) (rest := rest) hd (hk ▸ moX6_91_0) (gX5_mindsBeats E d 42 I (by unfold isL; decide) hc) (by decide) rfl rfl rfl hW kk
end
section
theorem dX11_roomOf_0 : decode cX11_roomOf 0 = .ok (.iload_n 0, 1) := by decide +kernel
theorem dX11_roomOf_1 : decode cX11_roomOf 1 = .ok (.iconst 3, 1) := by decide +kernel
theorem dX11_roomOf_2 : decode cX11_roomOf 2 = .ok (.iload_n 1, 1) := by decide +kernel
theorem dX11_roomOf_3 : decode cX11_roomOf 3 = .ok (.imul, 1) := by decide +kernel
theorem dX11_roomOf_4 : decode cX11_roomOf 4 = .ok (.ishr, 1) := by decide +kernel
theorem dX11_roomOf_5 : decode cX11_roomOf 5 = .ok (.bipush 7, 2) := by decide +kernel
theorem dX11_roomOf_7 : decode cX11_roomOf 7 = .ok (.iand, 1) := by decide +kernel
theorem dX11_roomOf_8 : decode cX11_roomOf 8 = .ok (.ireturn, 1) := by decide +kernel
def fX11_roomOf (x0 : Int32) (x1 : Int32) (I : Mem) : Option Int32 :=
  some ((x0 >>> (((3 : Int32) * x1) &&& 31)) &&& (7 : Int32))
set_option maxRecDepth 20000 in
theorem gX11_roomOf (E : EV) (d : Nat) (x0 : Int32) (x1 : Int32) (I : Mem) {v : Int32} (hf : fX11_roomOf x0 x1 I = some v) : Gm E (d + 0) kX11_roomOf [.int x0, .int x1] I (some (.int v), I) := by
  refine Gm.of (by decide) rfl (Nat.le_of_ble_eq_true rfl) ?_
  generalize hrr : ((some (.int v), I) : Option Value × Mem) = rr
  show G E (d + 0) kX11_roomOf 0 [some (.int x0), some (.int x1)] [] I rr
  have hK : (fun (z : Int32) => (some (.int z), I) = rr) v := hrr
  clear hrr
  unfold fX11_roomOf at hf
  refine G.iload_n dX11_roomOf_0 rfl rfl ?_
  refine G.iconst (v := 3) dX11_roomOf_1 (by decide) ?_
  refine G.iload_n dX11_roomOf_2 rfl rfl ?_
  refine G.imul dX11_roomOf_3 ?_
  refine G.ishr dX11_roomOf_4 ?_
  refine G.bipush (v := 7) dX11_roomOf_5 (by decide) ?_
  refine G.iand dX11_roomOf_7 ?_
  cases hf
  exact G.iret' dX11_roomOf_8 rfl hK
theorem dX11_has_0 : decode cX11_has 0 = .ok (.iload_n 0, 1) := by decide +kernel
theorem dX11_has_1 : decode cX11_has 1 = .ok (.iload_n 1, 1) := by decide +kernel
theorem dX11_has_2 : decode cX11_has 2 = .ok (.ishr, 1) := by decide +kernel
theorem dX11_has_3 : decode cX11_has 3 = .ok (.iconst 1, 1) := by decide +kernel
theorem dX11_has_4 : decode cX11_has 4 = .ok (.iand, 1) := by decide +kernel
theorem dX11_has_5 : decode cX11_has 5 = .ok (.ifCond .eq 7, 3) := by decide +kernel
theorem dX11_has_8 : decode cX11_has 8 = .ok (.iconst 1, 1) := by decide +kernel
theorem dX11_has_9 : decode cX11_has 9 = .ok (.goto 4, 3) := by decide +kernel
theorem dX11_has_12 : decode cX11_has 12 = .ok (.iconst 0, 1) := by decide +kernel
theorem dX11_has_13 : decode cX11_has 13 = .ok (.ireturn, 1) := by decide +kernel
def fX11_has (x0 : Int32) (x1 : Int32) (I : Mem) : Option Int32 :=
  if ((x0 >>> (x1 &&& 31)) &&& (1 : Int32)) = 0 then
  (some (0 : Int32))
  else
  (some (1 : Int32))
set_option maxRecDepth 20000 in
theorem gX11_has (E : EV) (d : Nat) (x0 : Int32) (x1 : Int32) (I : Mem) {v : Int32} (hf : fX11_has x0 x1 I = some v) : Gm E (d + 0) kX11_has [.int x0, .int x1] I (some (.int v), I) := by
  refine Gm.of (by decide) rfl (Nat.le_of_ble_eq_true rfl) ?_
  generalize hrr : ((some (.int v), I) : Option Value × Mem) = rr
  show G E (d + 0) kX11_has 0 [some (.int x0), some (.int x1)] [] I rr
  have hK : (fun (z : Int32) => (some (.int z), I) = rr) v := hrr
  clear hrr
  unfold fX11_has at hf
  refine G.iload_n dX11_has_0 rfl rfl ?_
  refine G.iload_n dX11_has_1 rfl rfl ?_
  refine G.ishr dX11_has_2 ?_
  refine G.iconst (v := 1) dX11_has_3 (by decide) ?_
  refine G.iand dX11_has_4 ?_
  refine G.if_eq (tgt := 12) dX11_has_5 (by decide) (fun c_1 => ?_) (fun c_1 => ?_)
  · have hf := ite_t hf c_1
    refine G.iconst (v := 0) dX11_has_12 (by decide) ?_
    cases hf
    exact G.zret' dX11_has_13 rfl (by decide) hK
  · have hf := ite_f hf c_1
    refine G.iconst (v := 1) dX11_has_8 (by decide) ?_
    refine G.goto (tgt := 13) dX11_has_9 (by decide) ?_
    cases hf
    exact G.zret' dX11_has_13 rfl (by decide) hK
theorem dX11_wishPlace_0 : decode cX11_wishPlace 0 = .ok (.iload_n 0, 1) := by decide +kernel
theorem dX11_wishPlace_1 : decode cX11_wishPlace 1 = .ok (.iconst 4, 1) := by decide +kernel
theorem dX11_wishPlace_2 : decode cX11_wishPlace 2 = .ok (.imul, 1) := by decide +kernel
theorem dX11_wishPlace_3 : decode cX11_wishPlace 3 = .ok (.iload_n 1, 1) := by decide +kernel
theorem dX11_wishPlace_4 : decode cX11_wishPlace 4 = .ok (.iadd, 1) := by decide +kernel
theorem dX11_wishPlace_5 : decode cX11_wishPlace 5 = .ok (.iconst 1, 1) := by decide +kernel
theorem dX11_wishPlace_6 : decode cX11_wishPlace 6 = .ok (.isub, 1) := by decide +kernel
theorem dX11_wishPlace_7 : decode cX11_wishPlace 7 = .ok (.ireturn, 1) := by decide +kernel
def fX11_wishPlace (x0 : Int32) (x1 : Int32) (I : Mem) : Option Int32 :=
  some (((x0 * (4 : Int32)) + x1) - (1 : Int32))
set_option maxRecDepth 20000 in
theorem gX11_wishPlace (E : EV) (d : Nat) (x0 : Int32) (x1 : Int32) (I : Mem) {v : Int32} (hf : fX11_wishPlace x0 x1 I = some v) : Gm E (d + 0) kX11_wishPlace [.int x0, .int x1] I (some (.int v), I) := by
  refine Gm.of (by decide) rfl (Nat.le_of_ble_eq_true rfl) ?_
  generalize hrr : ((some (.int v), I) : Option Value × Mem) = rr
  show G E (d + 0) kX11_wishPlace 0 [some (.int x0), some (.int x1)] [] I rr
  have hK : (fun (z : Int32) => (some (.int z), I) = rr) v := hrr
  clear hrr
  unfold fX11_wishPlace at hf
  refine G.iload_n dX11_wishPlace_0 rfl rfl ?_
  refine G.iconst (v := 4) dX11_wishPlace_1 (by decide) ?_
  refine G.imul dX11_wishPlace_2 ?_
  refine G.iload_n dX11_wishPlace_3 rfl rfl ?_
  refine G.iadd dX11_wishPlace_4 ?_
  refine G.iconst (v := 1) dX11_wishPlace_5 (by decide) ?_
  refine G.isub dX11_wishPlace_6 ?_
  cases hf
  exact G.iret' dX11_wishPlace_7 rfl hK
theorem dX11_drawRoom_0 : decode cX11_drawRoom 0 = .ok (.iload_n 0, 1) := by decide +kernel
theorem dX11_drawRoom_1 : decode cX11_drawRoom 1 = .ok (.invokestatic 258, 3) := by decide +kernel
theorem dX11_drawRoom_4 : decode cX11_drawRoom 4 = .ok (.istore_n 3, 1) := by decide +kernel
theorem dX11_drawRoom_5 : decode cX11_drawRoom 5 = .ok (.iload_n 3, 1) := by decide +kernel
theorem dX11_drawRoom_6 : decode cX11_drawRoom 6 = .ok (.ifCond .ne 5, 3) := by decide +kernel
theorem dX11_drawRoom_9 : decode cX11_drawRoom 9 = .ok (.iconst 0, 1) := by decide +kernel
theorem dX11_drawRoom_10 : decode cX11_drawRoom 10 = .ok (.ireturn, 1) := by decide +kernel
theorem dX11_drawRoom_11 : decode cX11_drawRoom 11 = .ok (.iload_n 0, 1) := by decide +kernel
theorem dX11_drawRoom_12 : decode cX11_drawRoom 12 = .ok (.istore 4, 2) := by decide +kernel
theorem dX11_drawRoom_14 : decode cX11_drawRoom 14 = .ok (.lload_n 1, 1) := by decide +kernel
theorem dX11_drawRoom_15 : decode cX11_drawRoom 15 = .ok (.iload_n 3, 1) := by decide +kernel
theorem dX11_drawRoom_16 : decode cX11_drawRoom 16 = .ok (.i2l, 1) := by decide +kernel
theorem dX11_drawRoom_17 : decode cX11_drawRoom 17 = .ok (.lrem, 1) := by decide +kernel
theorem dX11_drawRoom_18 : decode cX11_drawRoom 18 = .ok (.l2i, 1) := by decide +kernel
theorem dX11_drawRoom_19 : decode cX11_drawRoom 19 = .ok (.istore 5, 2) := by decide +kernel
theorem dX11_drawRoom_21 : decode cX11_drawRoom 21 = .ok (.iload 5, 2) := by decide +kernel
theorem dX11_drawRoom_23 : decode cX11_drawRoom 23 = .ok (.ifCond .le 18, 3) := by decide +kernel
theorem dX11_drawRoom_26 : decode cX11_drawRoom 26 = .ok (.iload 4, 2) := by decide +kernel
theorem dX11_drawRoom_28 : decode cX11_drawRoom 28 = .ok (.iload 4, 2) := by decide +kernel
theorem dX11_drawRoom_30 : decode cX11_drawRoom 30 = .ok (.iconst 1, 1) := by decide +kernel
theorem dX11_drawRoom_31 : decode cX11_drawRoom 31 = .ok (.isub, 1) := by decide +kernel
theorem dX11_drawRoom_32 : decode cX11_drawRoom 32 = .ok (.iand, 1) := by decide +kernel
theorem dX11_drawRoom_33 : decode cX11_drawRoom 33 = .ok (.istore 4, 2) := by decide +kernel
theorem dX11_drawRoom_35 : decode cX11_drawRoom 35 = .ok (.iinc 5 (-1), 3) := by decide +kernel
theorem dX11_drawRoom_38 : decode cX11_drawRoom 38 = .ok (.goto (-17), 3) := by decide +kernel
theorem dX11_drawRoom_41 : decode cX11_drawRoom 41 = .ok (.iload 4, 2) := by decide +kernel
theorem dX11_drawRoom_43 : decode cX11_drawRoom 43 = .ok (.invokestatic 293, 3) := by decide +kernel
theorem dX11_drawRoom_46 : decode cX11_drawRoom 46 = .ok (.ireturn, 1) := by decide +kernel
def KX11_drawRoom_21 (E : EV) (d : Nat) (rr : Option Value × Mem) (I : Mem) (Kp : Int32 → Prop) : ((Int32 × Int32) ⊕ Int32) → Prop
  | .inl q => G E (d + 1) kX11_drawRoom 21 [none, none, none, none, some (.int q.1), some (.int q.2)] [] I rr
  | .inr z => Kp z
def bX11_drawRoom_21 (I : Mem) (x4 : Int32) (x5 : Int32) : Option ((Int32 × Int32) ⊕ Int32) :=
  if x5 ≤ 0 then
  (bnd (fJ6_numberOfTrailingZeros_0f7a4 x4 I) fun v_6 =>
  some (.inr v_6))
  else
  (letb (x4 &&& (x4 - (1 : Int32))) fun x4_7 =>
  some (.inl (x4_7, (x5 + (-1 : Int32)))))
def sX11_drawRoom_21 (I : Mem) (q : (Int32 × Int32)) : Option ((Int32 × Int32) ⊕ Int32) := bX11_drawRoom_21 I q.1 q.2
set_option maxRecDepth 20000 in
theorem wX11_drawRoom_21 (E : EV) (d : Nat) (rr : Option Value × Mem) (I : Mem) (x4 : Int32) (x5 : Int32) (y : ((Int32 × Int32) ⊕ Int32)) (hf : bX11_drawRoom_21 I x4 x5 = some y) (hK : (KX11_drawRoom_21 E d rr I (fun (z : Int32) => (some (.int z), I) = rr)) y) : G E (d + 1) kX11_drawRoom 21 [none, none, none, none, some (.int x4), some (.int x5)] [] I rr := by
  unfold bX11_drawRoom_21 at hf
  refine G.iload dX11_drawRoom_21 rfl ?_
  refine G.if_le (tgt := 41) dX11_drawRoom_23 (by decide) (fun c_8 => ?_) (fun c_8 => ?_)
  · have hf := ite_t hf c_8
    refine G.iload dX11_drawRoom_41 rfl ?_
    obtain ⟨v_6, hc_5, hf⟩ := bnd_at hf
    refine G.callSi (av := [.int x4]) (rest := []) dX11_drawRoom_43 msX11_293 (gJ6_numberOfTrailingZeros_0f7a4 E d x4 I hc_5) rfl rfl (Nat.le_of_ble_eq_true rfl) ?_
    cases hf
    exact G.iret' dX11_drawRoom_46 rfl hK
  · have hf := ite_f hf c_8
    refine G.iload dX11_drawRoom_26 rfl ?_
    refine G.iload dX11_drawRoom_28 rfl ?_
    refine G.iconst (v := 1) dX11_drawRoom_30 (by decide) ?_
    refine G.isub dX11_drawRoom_31 ?_
    refine G.iand dX11_drawRoom_32 ?_
    refine G.nmi (fun x4_7 e_x4_7 => ?_)
    have hf := letb_at hf e_x4_7
    clear e_x4_7
    refine G.istore (L' := [none, none, none, none, some (.int x4_7), some (.int x5)]) dX11_drawRoom_33 (Nat.le_of_ble_eq_true rfl) (Nat.le_of_ble_eq_true rfl) rfl rfl ?_
    refine G.inc (w := -1) (L' := [none, none, none, none, some (.int x4_7), some (.int (x5 + (-1 : Int32)))]) dX11_drawRoom_35 (by decide) rfl (Nat.le_of_ble_eq_true rfl) rfl rfl ?_
    refine G.goto (tgt := 21) dX11_drawRoom_38 (by decide) ?_
    cases hf
    exact hK
theorem lX11_drawRoom_21 (E : EV) (d : Nat) (rr : Option Value × Mem) (I : Mem) (z : Int32) (hK : (fun (z : Int32) => (some (.int z), I) = rr) z) : ∀ (n : Nat) (q : (Int32 × Int32)), iter (sX11_drawRoom_21 I) n q = some z → G E (d + 1) kX11_drawRoom 21 [none, none, none, none, some (.int q.1), some (.int q.2)] [] I rr := by
  intro n
  induction n with
  | zero => intro q h; cases h
  | succ n ih =>
    intro q h
    rcases iter_at h with ⟨q2, hs, h2⟩ | hs
    · exact wX11_drawRoom_21 E d rr I q.1 q.2 _ hs (ih q2 h2)
    · exact wX11_drawRoom_21 E d rr I q.1 q.2 _ hs hK
def fX11_drawRoom (x0 : Int32) (l1 : Int64) (I : Mem) : Option Int32 :=
  bnd (fJ6_bitCount_0f7a4 x0 I) fun v_2 =>
  if v_2 = 0 then
  (some (0 : Int32))
  else
  (chk (decide (¬ (Int32.toInt64 v_2) = 0)) <|
  letb (Int64.toInt32 (l1 - l1 / (Int32.toInt64 v_2) * (Int32.toInt64 v_2))) fun x5_4 =>
  iter (sX11_drawRoom_21 I) FU (x0, x5_4))
set_option maxRecDepth 20000 in
theorem gX11_drawRoom (E : EV) (d : Nat) (x0 : Int32) (l1 : Int64) (I : Mem) {v : Int32} (hf : fX11_drawRoom x0 l1 I = some v) : Gm E (d + 1) kX11_drawRoom [.int x0, .long l1] I (some (.int v), I) := by
  refine Gm.of (by decide) rfl (Nat.le_of_ble_eq_true rfl) ?_
  generalize hrr : ((some (.int v), I) : Option Value × Mem) = rr
  show G E (d + 1) kX11_drawRoom 0 [some (.int x0), some (.long l1), none, none, none, none] [] I rr
  have hK : (fun (z : Int32) => (some (.int z), I) = rr) v := hrr
  clear hrr
  unfold fX11_drawRoom at hf
  refine G.iload_n dX11_drawRoom_0 rfl rfl ?_
  obtain ⟨v_2, hc_1, hf⟩ := bnd_at hf
  refine G.callSi (av := [.int x0]) (rest := []) dX11_drawRoom_1 msX11_258 (gJ6_bitCount_0f7a4 E d x0 I hc_1) rfl rfl (Nat.le_of_ble_eq_true rfl) ?_
  refine G.istore_n (L' := [some (.int x0), some (.long l1), none, some (.int v_2), none, none]) dX11_drawRoom_4 rfl (Nat.le_of_ble_eq_true rfl) (Nat.le_of_ble_eq_true rfl) rfl rfl ?_
  refine G.iload_n dX11_drawRoom_5 rfl rfl ?_
  refine G.if_ne (tgt := 11) dX11_drawRoom_6 (by decide) (fun c_9 => ?_) (fun c_9 => ?_)
  · have hf := ite_f hf c_9
    refine G.iload_n dX11_drawRoom_11 rfl rfl ?_
    refine G.istore (L' := [some (.int x0), some (.long l1), none, some (.int v_2), some (.int x0), none]) dX11_drawRoom_12 (Nat.le_of_ble_eq_true rfl) (Nat.le_of_ble_eq_true rfl) rfl rfl ?_
    refine G.lload_n dX11_drawRoom_14 rfl rfl ?_
    refine G.iload_n dX11_drawRoom_15 rfl rfl ?_
    refine G.i2l dX11_drawRoom_16 ?_
    obtain ⟨hz_3, hf⟩ := chk_at hf
    refine G.lrem dX11_drawRoom_17 (of_decide_eq_true hz_3) ?_
    refine G.l2i dX11_drawRoom_18 ?_
    refine G.nmi (fun x5_4 e_x5_4 => ?_)
    have hf := letb_at hf e_x5_4
    clear e_x5_4
    refine G.istore (L' := [some (.int x0), some (.long l1), none, some (.int v_2), some (.int x0), some (.int x5_4)]) dX11_drawRoom_19 (Nat.le_of_ble_eq_true rfl) (Nat.le_of_ble_eq_true rfl) rfl rfl ?_
    refine G.forget (L' := [none, none, none, none, some (.int x0), some (.int x5_4)]) [0, 1, 3] rfl ?_
    exact lX11_drawRoom_21 E d rr I _ hK FU _ hf
  · have hf := ite_t hf c_9
    refine G.iconst (v := 0) dX11_drawRoom_9 (by decide) ?_
    cases hf
    exact G.iret' dX11_drawRoom_10 rfl hK
end
section
theorem dX4_everywhere_0 : decode cX4_everywhere 0 = .ok (.iconst 1, 1) := by decide +kernel
theorem dX4_everywhere_1 : decode cX4_everywhere 1 = .ok (.aload_n 0, 1) := by decide +kernel
theorem dX4_everywhere_2 : decode cX4_everywhere 2 = .ok (.getfield 9, 3) := by decide +kernel
theorem dX4_everywhere_5 : decode cX4_everywhere 5 = .ok (.ishl, 1) := by decide +kernel
theorem dX4_everywhere_6 : decode cX4_everywhere 6 = .ok (.iconst 1, 1) := by decide +kernel
theorem dX4_everywhere_7 : decode cX4_everywhere 7 = .ok (.isub, 1) := by decide +kernel
theorem dX4_everywhere_8 : decode cX4_everywhere 8 = .ok (.ireturn, 1) := by decide +kernel
def fX4_everywhere (b0 : Nat) (I : Mem) : Option Int32 :=
  some (((1 : Int32) <<< ((I b0 0) &&& 31)) - (1 : Int32))
set_option maxRecDepth 20000 in
theorem gX4_everywhere (E : EV) (d : Nat) (b0 : Nat) (I : Mem) (hb0 : isH b0) {v : Int32} (hf : fX4_everywhere b0 I = some v) : Gm E (d + 0) kX4_everywhere [.ref b0] I (some (.int v), I) := by
  refine Gm.of (by decide) rfl (Nat.le_of_ble_eq_true rfl) ?_
  generalize hrr : ((some (.int v), I) : Option Value × Mem) = rr
  show G E (d + 0) kX4_everywhere 0 [some (.ref b0)] [] I rr
  have hK : (fun (z : Int32) => (some (.int z), I) = rr) v := hrr
  clear hrr
  unfold fX4_everywhere at hf
  refine G.iconst (v := 1) dX4_everywhere_0 (by decide) ?_
  refine G.aload_n dX4_everywhere_1 rfl rfl ?_
  refine G.getI dX4_everywhere_2 flX4_9 (isH_lt hb0) (isH_lk hb0) ?_
  refine G.ishl dX4_everywhere_5 ?_
  refine G.iconst (v := 1) dX4_everywhere_6 (by decide) ?_
  refine G.isub dX4_everywhere_7 ?_
  cases hf
  exact G.iret' dX4_everywhere_8 rfl hK
theorem dX10_begin_0 : decode cX10_begin 0 = .ok (.iconst 1, 1) := by decide +kernel
theorem dX10_begin_1 : decode cX10_begin 1 = .ok (.istore_n 1, 1) := by decide +kernel
theorem dX10_begin_2 : decode cX10_begin 2 = .ok (.aload_n 0, 1) := by decide +kernel
theorem dX10_begin_3 : decode cX10_begin 3 = .ok (.iconst 0, 1) := by decide +kernel
theorem dX10_begin_4 : decode cX10_begin 4 = .ok (.putfield 49, 3) := by decide +kernel
theorem dX10_begin_7 : decode cX10_begin 7 = .ok (.iconst 0, 1) := by decide +kernel
theorem dX10_begin_8 : decode cX10_begin 8 = .ok (.istore_n 2, 1) := by decide +kernel
theorem dX10_begin_9 : decode cX10_begin 9 = .ok (.iload_n 2, 1) := by decide +kernel
theorem dX10_begin_10 : decode cX10_begin 10 = .ok (.aload_n 0, 1) := by decide +kernel
theorem dX10_begin_11 : decode cX10_begin 11 = .ok (.getfield 21, 3) := by decide +kernel
theorem dX10_begin_14 : decode cX10_begin 14 = .ok (.if_icmp .ge 46, 3) := by decide +kernel
theorem dX10_begin_17 : decode cX10_begin 17 = .ok (.iload_n 1, 1) := by decide +kernel
theorem dX10_begin_18 : decode cX10_begin 18 = .ok (.aload_n 0, 1) := by decide +kernel
theorem dX10_begin_19 : decode cX10_begin 19 = .ok (.getfield 9, 3) := by decide +kernel
theorem dX10_begin_22 : decode cX10_begin 22 = .ok (.iload_n 2, 1) := by decide +kernel
theorem dX10_begin_23 : decode cX10_begin 23 = .ok (.iaload, 1) := by decide +kernel
theorem dX10_begin_24 : decode cX10_begin 24 = .ok (.invokestatic 52, 3) := by decide +kernel
theorem dX10_begin_27 : decode cX10_begin 27 = .ok (.imul, 1) := by decide +kernel
theorem dX10_begin_28 : decode cX10_begin 28 = .ok (.istore_n 1, 1) := by decide +kernel
theorem dX10_begin_29 : decode cX10_begin 29 = .ok (.aload_n 0, 1) := by decide +kernel
theorem dX10_begin_30 : decode cX10_begin 30 = .ok (.dup, 1) := by decide +kernel
theorem dX10_begin_31 : decode cX10_begin 31 = .ok (.getfield 49, 3) := by decide +kernel
theorem dX10_begin_34 : decode cX10_begin 34 = .ok (.aload_n 0, 1) := by decide +kernel
theorem dX10_begin_35 : decode cX10_begin 35 = .ok (.getfield 9, 3) := by decide +kernel
theorem dX10_begin_38 : decode cX10_begin 38 = .ok (.iload_n 2, 1) := by decide +kernel
theorem dX10_begin_39 : decode cX10_begin 39 = .ok (.iaload, 1) := by decide +kernel
theorem dX10_begin_40 : decode cX10_begin 40 = .ok (.invokestatic 57, 3) := by decide +kernel
theorem dX10_begin_43 : decode cX10_begin 43 = .ok (.bipush 7, 2) := by decide +kernel
theorem dX10_begin_45 : decode cX10_begin 45 = .ok (.iand, 1) := by decide +kernel
theorem dX10_begin_46 : decode cX10_begin 46 = .ok (.iconst 3, 1) := by decide +kernel
theorem dX10_begin_47 : decode cX10_begin 47 = .ok (.iload_n 2, 1) := by decide +kernel
theorem dX10_begin_48 : decode cX10_begin 48 = .ok (.imul, 1) := by decide +kernel
theorem dX10_begin_49 : decode cX10_begin 49 = .ok (.ishl, 1) := by decide +kernel
theorem dX10_begin_50 : decode cX10_begin 50 = .ok (.ior, 1) := by decide +kernel
theorem dX10_begin_51 : decode cX10_begin 51 = .ok (.putfield 49, 3) := by decide +kernel
theorem dX10_begin_54 : decode cX10_begin 54 = .ok (.iinc 2 1, 3) := by decide +kernel
theorem dX10_begin_57 : decode cX10_begin 57 = .ok (.goto (-48), 3) := by decide +kernel
theorem dX10_begin_60 : decode cX10_begin 60 = .ok (.iload_n 1, 1) := by decide +kernel
theorem dX10_begin_61 : decode cX10_begin 61 = .ok (.ireturn, 1) := by decide +kernel
def KX10_begin_9 (E : EV) (d : Nat) (rr : Option Value × Mem) (w0 : Nat) (Kp : (Int32 × Mem) → Prop) : ((Int32 × Int32 × Mem) ⊕ (Int32 × Mem)) → Prop
  | .inl q => G E (d + 1) kX10_begin 9 [some (.ref w0), some (.int q.1), some (.int q.2.1)] [] q.2.2 rr
  | .inr z => Kp z
def bX10_begin_9 (w0 : Nat) (x1 : Int32) (x2 : Int32) (I : Mem) : Option ((Int32 × Int32 × Mem) ⊕ (Int32 × Mem)) :=
  if (I w0 1) ≤ x2 then
  (some (.inr (x1, I)))
  else
  (chk (inb x2 4) <|
  bnd (fJ6_bitCount_0f7a4 (I (w0 + 1) (ix x2)) I) fun v_4 =>
  letb (x1 * v_4) fun x1_5 =>
  chk (inb x2 4) <|
  bnd (fJ6_numberOfTrailingZeros_0f7a4 (I (w0 + 1) (ix x2)) I) fun v_8 =>
  letb (up2 I w0 0 ((I w0 0) ||| ((v_8 &&& (7 : Int32)) <<< (((3 : Int32) * x2) &&& 31)))) fun I_9 =>
  some (.inl (x1_5, (x2 + (1 : Int32)), I_9)))
def sX10_begin_9 (w0 : Nat) (q : (Int32 × Int32 × Mem)) : Option ((Int32 × Int32 × Mem) ⊕ (Int32 × Mem)) := bX10_begin_9 w0 q.1 q.2.1 q.2.2
set_option maxRecDepth 20000 in
theorem wX10_begin_9 (E : EV) (d : Nat) (rr : Option Value × Mem) (w0 : Nat) (x1 : Int32) (x2 : Int32) (I : Mem) (hw0 : isW w0) (y : ((Int32 × Int32 × Mem) ⊕ (Int32 × Mem))) (hf : bX10_begin_9 w0 x1 x2 I = some y) (hK : (KX10_begin_9 E d rr w0 (fun (z : Int32 × Mem) => (some (.int z.1), z.2) = rr)) y) : G E (d + 1) kX10_begin 9 [some (.ref w0), some (.int x1), some (.int x2)] [] I rr := by
  unfold bX10_begin_9 at hf
  refine G.iload_n dX10_begin_9 rfl rfl ?_
  refine G.aload_n dX10_begin_10 rfl rfl ?_
  refine G.getI dX10_begin_11 flX10_21 (isW_lt hw0) (isW_lk hw0) ?_
  refine G.icmp_ge (tgt := 60) dX10_begin_14 (by decide) (fun c_10 => ?_) (fun c_10 => ?_)
  · have hf := ite_t hf c_10
    refine G.iload_n dX10_begin_60 rfl rfl ?_
    cases hf
    exact G.iret' dX10_begin_61 rfl hK
  · have hf := ite_f hf c_10
    refine G.iload_n dX10_begin_17 rfl rfl ?_
    refine G.aload_n dX10_begin_18 rfl rfl ?_
    refine G.getR (q := (w0 + 1)) dX10_begin_19 flX10_9 (isW_lt hw0) (isW_lk hw0) (isW_r1 hw0) ?_
    refine G.iload_n dX10_begin_22 rfl rfl ?_
    obtain ⟨hi_2, hf⟩ := chk_at hf
    refine G.iald' dX10_begin_23 (isW_l1 hw0) (isW_k1 hw0) (isW_n1 hw0) hi_2 ?_
    obtain ⟨v_4, hc_3, hf⟩ := bnd_at hf
    refine G.callSi (av := [.int (I (w0 + 1) (ix x2))]) (rest := [.int x1]) dX10_begin_24 msX10_52 (gJ6_bitCount_0f7a4 E d (I (w0 + 1) (ix x2)) I hc_3) rfl rfl (Nat.le_of_ble_eq_true rfl) ?_
    refine G.imul dX10_begin_27 ?_
    refine G.nmi (fun x1_5 e_x1_5 => ?_)
    have hf := letb_at hf e_x1_5
    clear e_x1_5
    refine G.istore_n (L' := [some (.ref w0), some (.int x1_5), some (.int x2)]) dX10_begin_28 rfl (Nat.le_of_ble_eq_true rfl) (Nat.le_of_ble_eq_true rfl) rfl rfl ?_
    refine G.aload_n dX10_begin_29 rfl rfl ?_
    refine G.dup dX10_begin_30 rfl ?_
    refine G.getI dX10_begin_31 flX10_49 (isW_lt hw0) (isW_lk hw0) ?_
    refine G.aload_n dX10_begin_34 rfl rfl ?_
    refine G.getR (q := (w0 + 1)) dX10_begin_35 flX10_9 (isW_lt hw0) (isW_lk hw0) (isW_r1 hw0) ?_
    refine G.iload_n dX10_begin_38 rfl rfl ?_
    obtain ⟨hi_6, hf⟩ := chk_at hf
    refine G.iald' dX10_begin_39 (isW_l1 hw0) (isW_k1 hw0) (isW_n1 hw0) hi_6 ?_
    obtain ⟨v_8, hc_7, hf⟩ := bnd_at hf
    refine G.callSi (av := [.int (I (w0 + 1) (ix x2))]) (rest := [.int (I w0 0), .ref w0]) dX10_begin_40 msX10_57 (gJ6_numberOfTrailingZeros_0f7a4 E d (I (w0 + 1) (ix x2)) I hc_7) rfl rfl (Nat.le_of_ble_eq_true rfl) ?_
    refine G.bipush (v := 7) dX10_begin_43 (by decide) ?_
    refine G.iand dX10_begin_45 ?_
    refine G.iconst (v := 3) dX10_begin_46 (by decide) ?_
    refine G.iload_n dX10_begin_47 rfl rfl ?_
    refine G.imul dX10_begin_48 ?_
    refine G.ishl dX10_begin_49 ?_
    refine G.ior dX10_begin_50 ?_
    refine G.putI dX10_begin_51 flX10_49 (isW_lt hw0) (isW_lk hw0) ?_
    refine G.nmI (fun I_9 e_I_9 => ?_)
    have hf := letb_at hf e_I_9
    clear e_I_9
    refine G.inc (w := 1) (L' := [some (.ref w0), some (.int x1_5), some (.int (x2 + (1 : Int32)))]) dX10_begin_54 (by decide) rfl (Nat.le_of_ble_eq_true rfl) rfl rfl ?_
    refine G.goto (tgt := 9) dX10_begin_57 (by decide) ?_
    cases hf
    exact hK
theorem lX10_begin_9 (E : EV) (d : Nat) (rr : Option Value × Mem) (w0 : Nat) (hw0 : isW w0) (z : (Int32 × Mem)) (hK : (fun (z : Int32 × Mem) => (some (.int z.1), z.2) = rr) z) : ∀ (n : Nat) (q : (Int32 × Int32 × Mem)), iter (sX10_begin_9 w0) n q = some z → G E (d + 1) kX10_begin 9 [some (.ref w0), some (.int q.1), some (.int q.2.1)] [] q.2.2 rr := by
  intro n
  induction n with
  | zero => intro q h; cases h
  | succ n ih =>
    intro q h
    rcases iter_at h with ⟨q2, hs, h2⟩ | hs
    · exact wX10_begin_9 E d rr w0 q.1 q.2.1 q.2.2 hw0 _ hs (ih q2 h2)
    · exact wX10_begin_9 E d rr w0 q.1 q.2.1 q.2.2 hw0 _ hs hK
def fX10_begin (w0 : Nat) (I : Mem) : Option (Int32 × Mem) :=
  letb (up2 I w0 0 (0 : Int32)) fun I_1 =>
  iter (sX10_begin_9 w0) FU ((1 : Int32), (0 : Int32), I_1)
set_option maxRecDepth 20000 in
theorem gX10_begin (E : EV) (d : Nat) (w0 : Nat) (I : Mem) (hw0 : isW w0) {v : Int32} {J : Mem} (hf : fX10_begin w0 I = some (v, J)) : Gm E (d + 1) kX10_begin [.ref w0] I (some (.int v), J) := by
  refine Gm.of (by decide) rfl (Nat.le_of_ble_eq_true rfl) ?_
  generalize hrr : ((some (.int v), J) : Option Value × Mem) = rr
  show G E (d + 1) kX10_begin 0 [some (.ref w0), none, none] [] I rr
  have hK : (fun (z : Int32 × Mem) => (some (.int z.1), z.2) = rr) (v, J) := hrr
  clear hrr
  unfold fX10_begin at hf
  refine G.iconst (v := 1) dX10_begin_0 (by decide) ?_
  refine G.istore_n (L' := [some (.ref w0), some (.int (1 : Int32)), none]) dX10_begin_1 rfl (Nat.le_of_ble_eq_true rfl) (Nat.le_of_ble_eq_true rfl) rfl rfl ?_
  refine G.aload_n dX10_begin_2 rfl rfl ?_
  refine G.iconst (v := 0) dX10_begin_3 (by decide) ?_
  refine G.putI dX10_begin_4 flX10_49 (isW_lt hw0) (isW_lk hw0) ?_
  refine G.nmI (fun I_1 e_I_1 => ?_)
  have hf := letb_at hf e_I_1
  clear e_I_1
  refine G.iconst (v := 0) dX10_begin_7 (by decide) ?_
  refine G.istore_n (L' := [some (.ref w0), some (.int (1 : Int32)), some (.int (0 : Int32))]) dX10_begin_8 rfl (Nat.le_of_ble_eq_true rfl) (Nat.le_of_ble_eq_true rfl) rfl rfl ?_
  exact lX10_begin_9 E d rr w0 hw0 _ hK FU _ hf
theorem dX10_all_0 : decode cX10_all 0 = .ok (.aload_n 0, 1) := by decide +kernel
theorem dX10_all_1 : decode cX10_all 1 = .ok (.aload_n 1, 1) := by decide +kernel
theorem dX10_all_2 : decode cX10_all 2 = .ok (.getfield 15, 3) := by decide +kernel
theorem dX10_all_5 : decode cX10_all 5 = .ok (.putfield 21, 3) := by decide +kernel
theorem dX10_all_8 : decode cX10_all 8 = .ok (.aload_n 0, 1) := by decide +kernel
theorem dX10_all_9 : decode cX10_all 9 = .ok (.getfield 9, 3) := by decide +kernel
theorem dX10_all_12 : decode cX10_all 12 = .ok (.aload_n 1, 1) := by decide +kernel
theorem dX10_all_13 : decode cX10_all 13 = .ok (.invokevirtual 22, 3) := by decide +kernel
theorem dX10_all_16 : decode cX10_all 16 = .ok (.invokestatic 26, 3) := by decide +kernel
theorem dX10_all_19 : decode cX10_all 19 = .ok (.aload_n 0, 1) := by decide +kernel
theorem dX10_all_20 : decode cX10_all 20 = .ok (.invokevirtual 32, 3) := by decide +kernel
theorem dX10_all_23 : decode cX10_all 23 = .ok (.ireturn, 1) := by decide +kernel
def fX10_all (w0 : Nat) (b1 : Nat) (I : Mem) : Option (Int32 × Mem) :=
  letb (up2 I w0 1 (I b1 2)) fun I_1 =>
  bnd (fX4_everywhere b1 I_1) fun v_3 =>
  bnd (fJ7_fill_53178 (w0 + 1) v_3 I_1) fun I_5 =>
  bnd2 (fX10_begin w0 I_5) fun v_7 I_8 =>
  some (v_7, I_8)
set_option maxRecDepth 20000 in
theorem gX10_all (E : EV) (d : Nat) (w0 : Nat) (b1 : Nat) (I : Mem) (hw0 : isW w0) (hb1 : isH b1) {v : Int32} {J : Mem} (hf : fX10_all w0 b1 I = some (v, J)) : Gm E (d + 2) kX10_all [.ref w0, .ref b1] I (some (.int v), J) := by
  refine Gm.of (by decide) rfl (Nat.le_of_ble_eq_true rfl) ?_
  generalize hrr : ((some (.int v), J) : Option Value × Mem) = rr
  show G E (d + 2) kX10_all 0 [some (.ref w0), some (.ref b1)] [] I rr
  have hK : (fun (z : Int32 × Mem) => (some (.int z.1), z.2) = rr) (v, J) := hrr
  clear hrr
  unfold fX10_all at hf
  refine G.aload_n dX10_all_0 rfl rfl ?_
  refine G.aload_n dX10_all_1 rfl rfl ?_
  refine G.getI dX10_all_2 flX10_15 (isH_lt hb1) (isH_lk hb1) ?_
  refine G.putI dX10_all_5 flX10_21 (isW_lt hw0) (isW_lk hw0) ?_
  refine G.nmI (fun I_1 e_I_1 => ?_)
  have hf := letb_at hf e_I_1
  clear e_I_1
  refine G.aload_n dX10_all_8 rfl rfl ?_
  refine G.getR (q := (w0 + 1)) dX10_all_9 flX10_9 (isW_lt hw0) (isW_lk hw0) (isW_r1 hw0) ?_
  refine G.aload_n dX10_all_12 rfl rfl ?_
  obtain ⟨v_3, hc_2, hf⟩ := bnd_at hf
  refine G.callVi (av := []) (rest := [.ref (w0 + 1)]) dX10_all_13 mvX10_22 (gX4_everywhere E (d + 1) b1 I_1 hb1 hc_2) (isH_lt hb1) (isH_lk hb1) rfl rfl (Nat.le_of_ble_eq_true rfl) ?_
  obtain ⟨I_5, hc_4, hf⟩ := bnd_at hf
  refine G.callSv (av := [.ref (w0 + 1), .int v_3]) (rest := []) dX10_all_16 msX10_26 (gJ7_fill_53178 E (d + 1) (w0 + 1) v_3 I_1 (isW_a1 hw0) hc_4) rfl rfl (Nat.le_of_ble_eq_true rfl) ?_
  refine G.aload_n dX10_all_19 rfl rfl ?_
  obtain ⟨v_7, I_8, hc_6, hf⟩ := bnd2_at hf
  refine G.callVi (av := []) (rest := []) dX10_all_20 mvX10_32 (gX10_begin E d w0 I_5 hw0 hc_6) (isW_lt hw0) (isW_lk hw0) rfl rfl (Nat.le_of_ble_eq_true rfl) ?_
  cases hf
  exact G.iret' dX10_all_23 rfl hK
theorem dX4_lone_0 : decode cX4_lone 0 = .ok (.iconst 0, 1) := by decide +kernel
theorem dX4_lone_1 : decode cX4_lone 1 = .ok (.istore_n 2, 1) := by decide +kernel
theorem dX4_lone_2 : decode cX4_lone 2 = .ok (.aload_n 0, 1) := by decide +kernel
theorem dX4_lone_3 : decode cX4_lone 3 = .ok (.getfield 43, 3) := by decide +kernel
theorem dX4_lone_6 : decode cX4_lone 6 = .ok (.istore_n 3, 1) := by decide +kernel
theorem dX4_lone_7 : decode cX4_lone 7 = .ok (.iconst 0, 1) := by decide +kernel
theorem dX4_lone_8 : decode cX4_lone 8 = .ok (.istore 4, 2) := by decide +kernel
theorem dX4_lone_10 : decode cX4_lone 10 = .ok (.iload 4, 2) := by decide +kernel
theorem dX4_lone_12 : decode cX4_lone 12 = .ok (.aload_n 0, 1) := by decide +kernel
theorem dX4_lone_13 : decode cX4_lone 13 = .ok (.getfield 46, 3) := by decide +kernel
theorem dX4_lone_16 : decode cX4_lone 16 = .ok (.if_icmp .ge 31, 3) := by decide +kernel
theorem dX4_lone_19 : decode cX4_lone 19 = .ok (.iconst 1, 1) := by decide +kernel
theorem dX4_lone_20 : decode cX4_lone 20 = .ok (.iload_n 1, 1) := by decide +kernel
theorem dX4_lone_21 : decode cX4_lone 21 = .ok (.iload 4, 2) := by decide +kernel
theorem dX4_lone_23 : decode cX4_lone 23 = .ok (.invokestatic 76, 3) := by decide +kernel
theorem dX4_lone_26 : decode cX4_lone 26 = .ok (.ishl, 1) := by decide +kernel
theorem dX4_lone_27 : decode cX4_lone 27 = .ok (.istore 5, 2) := by decide +kernel
theorem dX4_lone_29 : decode cX4_lone 29 = .ok (.iload_n 3, 1) := by decide +kernel
theorem dX4_lone_30 : decode cX4_lone 30 = .ok (.iload_n 2, 1) := by decide +kernel
theorem dX4_lone_31 : decode cX4_lone 31 = .ok (.iload 5, 2) := by decide +kernel
theorem dX4_lone_33 : decode cX4_lone 33 = .ok (.iand, 1) := by decide +kernel
theorem dX4_lone_34 : decode cX4_lone 34 = .ok (.ior, 1) := by decide +kernel
theorem dX4_lone_35 : decode cX4_lone 35 = .ok (.istore_n 3, 1) := by decide +kernel
theorem dX4_lone_36 : decode cX4_lone 36 = .ok (.iload_n 2, 1) := by decide +kernel
theorem dX4_lone_37 : decode cX4_lone 37 = .ok (.iload 5, 2) := by decide +kernel
theorem dX4_lone_39 : decode cX4_lone 39 = .ok (.ior, 1) := by decide +kernel
theorem dX4_lone_40 : decode cX4_lone 40 = .ok (.istore_n 2, 1) := by decide +kernel
theorem dX4_lone_41 : decode cX4_lone 41 = .ok (.iinc 4 1, 3) := by decide +kernel
theorem dX4_lone_44 : decode cX4_lone 44 = .ok (.goto (-34), 3) := by decide +kernel
theorem dX4_lone_47 : decode cX4_lone 47 = .ok (.iconst 0, 1) := by decide +kernel
theorem dX4_lone_48 : decode cX4_lone 48 = .ok (.istore 4, 2) := by decide +kernel
theorem dX4_lone_50 : decode cX4_lone 50 = .ok (.iconst 0, 1) := by decide +kernel
theorem dX4_lone_51 : decode cX4_lone 51 = .ok (.istore 5, 2) := by decide +kernel
theorem dX4_lone_53 : decode cX4_lone 53 = .ok (.iload 5, 2) := by decide +kernel
theorem dX4_lone_55 : decode cX4_lone 55 = .ok (.aload_n 0, 1) := by decide +kernel
theorem dX4_lone_56 : decode cX4_lone 56 = .ok (.getfield 46, 3) := by decide +kernel
theorem dX4_lone_59 : decode cX4_lone 59 = .ok (.if_icmp .ge 31, 3) := by decide +kernel
theorem dX4_lone_62 : decode cX4_lone 62 = .ok (.iload_n 3, 1) := by decide +kernel
theorem dX4_lone_63 : decode cX4_lone 63 = .ok (.iload_n 1, 1) := by decide +kernel
theorem dX4_lone_64 : decode cX4_lone 64 = .ok (.iload 5, 2) := by decide +kernel
theorem dX4_lone_66 : decode cX4_lone 66 = .ok (.invokestatic 76, 3) := by decide +kernel
theorem dX4_lone_69 : decode cX4_lone 69 = .ok (.invokestatic 83, 3) := by decide +kernel
theorem dX4_lone_72 : decode cX4_lone 72 = .ok (.ifCond .ne 12, 3) := by decide +kernel
theorem dX4_lone_75 : decode cX4_lone 75 = .ok (.iload 4, 2) := by decide +kernel
theorem dX4_lone_77 : decode cX4_lone 77 = .ok (.iconst 1, 1) := by decide +kernel
theorem dX4_lone_78 : decode cX4_lone 78 = .ok (.iload 5, 2) := by decide +kernel
theorem dX4_lone_80 : decode cX4_lone 80 = .ok (.ishl, 1) := by decide +kernel
theorem dX4_lone_81 : decode cX4_lone 81 = .ok (.ior, 1) := by decide +kernel
theorem dX4_lone_82 : decode cX4_lone 82 = .ok (.istore 4, 2) := by decide +kernel
theorem dX4_lone_84 : decode cX4_lone 84 = .ok (.iinc 5 1, 3) := by decide +kernel
theorem dX4_lone_87 : decode cX4_lone 87 = .ok (.goto (-34), 3) := by decide +kernel
theorem dX4_lone_90 : decode cX4_lone 90 = .ok (.iload 4, 2) := by decide +kernel
theorem dX4_lone_92 : decode cX4_lone 92 = .ok (.ireturn, 1) := by decide +kernel
def KX4_lone_10 (E : EV) (d : Nat) (rr : Option Value × Mem) (b0 : Nat) (x1 : Int32) (I : Mem) (Kp : Int32 → Prop) : ((Int32 × Int32 × Int32) ⊕ Int32) → Prop
  | .inl q => G E (d + 1) kX4_lone 10 [some (.ref b0), some (.int x1), some (.int q.1), some (.int q.2.1), some (.int q.2.2), none] [] I rr
  | .inr z => Kp z
def KX4_lone_53 (E : EV) (d : Nat) (rr : Option Value × Mem) (b0 : Nat) (x1 : Int32) (x3 : Int32) (I : Mem) (Kp : Int32 → Prop) : ((Int32 × Int32) ⊕ Int32) → Prop
  | .inl q => G E (d + 1) kX4_lone 53 [some (.ref b0), some (.int x1), none, some (.int x3), some (.int q.1), some (.int q.2)] [] I rr
  | .inr z => Kp z
def bX4_lone_53 (b0 : Nat) (x1 : Int32) (x3 : Int32) (I : Mem) (x4 : Int32) (x5 : Int32) : Option ((Int32 × Int32) ⊕ Int32) :=
  if (I b0 2) ≤ x5 then
  (some (.inr x4))
  else
  (bnd (fX11_roomOf x1 x5 I) fun v_3 =>
  bnd (fX11_has x3 v_3 I) fun v_5 =>
  if v_5 = 0 then
  (letb (x4 ||| ((1 : Int32) <<< (x5 &&& 31))) fun x4_6 =>
  some (.inl (x4_6, (x5 + (1 : Int32)))))
  else
  (some (.inl (x4, (x5 + (1 : Int32))))))
def sX4_lone_53 (b0 : Nat) (x1 : Int32) (x3 : Int32) (I : Mem) (q : (Int32 × Int32)) : Option ((Int32 × Int32) ⊕ Int32) := bX4_lone_53 b0 x1 x3 I q.1 q.2
set_option maxRecDepth 20000 in
theorem wX4_lone_53 (E : EV) (d : Nat) (rr : Option Value × Mem) (b0 : Nat) (x1 : Int32) (x3 : Int32) (I : Mem) (x4 : Int32) (x5 : Int32) (hb0 : isH b0) (y : ((Int32 × Int32) ⊕ Int32)) (hf : bX4_lone_53 b0 x1 x3 I x4 x5 = some y) (hK : (KX4_lone_53 E d rr b0 x1 x3 I (fun (z : Int32) => (some (.int z), I) = rr)) y) : G E (d + 1) kX4_lone 53 [some (.ref b0), some (.int x1), none, some (.int x3), some (.int x4), some (.int x5)] [] I rr := by
  unfold bX4_lone_53 at hf
  refine G.iload dX4_lone_53 rfl ?_
  refine G.aload_n dX4_lone_55 rfl rfl ?_
  refine G.getI dX4_lone_56 flX4_46 (isH_lt hb0) (isH_lk hb0) ?_
  refine G.icmp_ge (tgt := 90) dX4_lone_59 (by decide) (fun c_8 => ?_) (fun c_8 => ?_)
  · have hf := ite_t hf c_8
    refine G.iload dX4_lone_90 rfl ?_
    cases hf
    exact G.iret' dX4_lone_92 rfl hK
  · have hf := ite_f hf c_8
    refine G.iload_n dX4_lone_62 rfl rfl ?_
    refine G.iload_n dX4_lone_63 rfl rfl ?_
    refine G.iload dX4_lone_64 rfl ?_
    obtain ⟨v_3, hc_2, hf⟩ := bnd_at hf
    refine G.callNi (av := [.int x1, .int x5]) (rest := [.int x3]) dX4_lone_66 mnX4_76 (gX11_roomOf E d x1 x5 I hc_2) rfl rfl (Nat.le_of_ble_eq_true rfl) ?_
    obtain ⟨v_5, hc_4, hf⟩ := bnd_at hf
    refine G.callNi (av := [.int x3, .int v_3]) (rest := []) dX4_lone_69 mnX4_83 (gX11_has E d x3 v_3 I hc_4) rfl rfl (Nat.le_of_ble_eq_true rfl) ?_
    refine G.if_ne (tgt := 84) dX4_lone_72 (by decide) (fun c_7 => ?_) (fun c_7 => ?_)
    · have hf := ite_f hf c_7
      refine G.inc (w := 1) (L' := [some (.ref b0), some (.int x1), none, some (.int x3), some (.int x4), some (.int (x5 + (1 : Int32)))]) dX4_lone_84 (by decide) rfl (Nat.le_of_ble_eq_true rfl) rfl rfl ?_
      refine G.goto (tgt := 53) dX4_lone_87 (by decide) ?_
      cases hf
      exact hK
    · have hf := ite_t hf c_7
      refine G.iload dX4_lone_75 rfl ?_
      refine G.iconst (v := 1) dX4_lone_77 (by decide) ?_
      refine G.iload dX4_lone_78 rfl ?_
      refine G.ishl dX4_lone_80 ?_
      refine G.ior dX4_lone_81 ?_
      refine G.nmi (fun x4_6 e_x4_6 => ?_)
      have hf := letb_at hf e_x4_6
      clear e_x4_6
      refine G.istore (L' := [some (.ref b0), some (.int x1), none, some (.int x3), some (.int x4_6), some (.int x5)]) dX4_lone_82 (Nat.le_of_ble_eq_true rfl) (Nat.le_of_ble_eq_true rfl) rfl rfl ?_
      refine G.inc (w := 1) (L' := [some (.ref b0), some (.int x1), none, some (.int x3), some (.int x4_6), some (.int (x5 + (1 : Int32)))]) dX4_lone_84 (by decide) rfl (Nat.le_of_ble_eq_true rfl) rfl rfl ?_
      refine G.goto (tgt := 53) dX4_lone_87 (by decide) ?_
      cases hf
      exact hK
theorem lX4_lone_53 (E : EV) (d : Nat) (rr : Option Value × Mem) (b0 : Nat) (x1 : Int32) (x3 : Int32) (I : Mem) (hb0 : isH b0) (z : Int32) (hK : (fun (z : Int32) => (some (.int z), I) = rr) z) : ∀ (n : Nat) (q : (Int32 × Int32)), iter (sX4_lone_53 b0 x1 x3 I) n q = some z → G E (d + 1) kX4_lone 53 [some (.ref b0), some (.int x1), none, some (.int x3), some (.int q.1), some (.int q.2)] [] I rr := by
  intro n
  induction n with
  | zero => intro q h; cases h
  | succ n ih =>
    intro q h
    rcases iter_at h with ⟨q2, hs, h2⟩ | hs
    · exact wX4_lone_53 E d rr b0 x1 x3 I q.1 q.2 hb0 _ hs (ih q2 h2)
    · exact wX4_lone_53 E d rr b0 x1 x3 I q.1 q.2 hb0 _ hs hK
def bX4_lone_10 (b0 : Nat) (x1 : Int32) (I : Mem) (x2 : Int32) (x3 : Int32) (x4 : Int32) : Option ((Int32 × Int32 × Int32) ⊕ Int32) :=
  if (I b0 2) ≤ x4 then
  (inrO (iter (sX4_lone_53 b0 x1 x3 I) FU ((0 : Int32), (0 : Int32))))
  else
  (bnd (fX11_roomOf x1 x4 I) fun v_11 =>
  letb ((1 : Int32) <<< (v_11 &&& 31)) fun x5_12 =>
  letb (x3 ||| (x2 &&& x5_12)) fun x3_13 =>
  letb (x2 ||| x5_12) fun x2_14 =>
  some (.inl (x2_14, x3_13, (x4 + (1 : Int32)))))
def sX4_lone_10 (b0 : Nat) (x1 : Int32) (I : Mem) (q : (Int32 × Int32 × Int32)) : Option ((Int32 × Int32 × Int32) ⊕ Int32) := bX4_lone_10 b0 x1 I q.1 q.2.1 q.2.2
set_option maxRecDepth 20000 in
theorem wX4_lone_10 (E : EV) (d : Nat) (rr : Option Value × Mem) (b0 : Nat) (x1 : Int32) (I : Mem) (x2 : Int32) (x3 : Int32) (x4 : Int32) (hb0 : isH b0) (y : ((Int32 × Int32 × Int32) ⊕ Int32)) (hf : bX4_lone_10 b0 x1 I x2 x3 x4 = some y) (hK : (KX4_lone_10 E d rr b0 x1 I (fun (z : Int32) => (some (.int z), I) = rr)) y) : G E (d + 1) kX4_lone 10 [some (.ref b0), some (.int x1), some (.int x2), some (.int x3), some (.int x4), none] [] I rr := by
  unfold bX4_lone_10 at hf
  refine G.iload dX4_lone_10 rfl ?_
  refine G.aload_n dX4_lone_12 rfl rfl ?_
  refine G.getI dX4_lone_13 flX4_46 (isH_lt hb0) (isH_lk hb0) ?_
  refine G.icmp_ge (tgt := 47) dX4_lone_16 (by decide) (fun c_15 => ?_) (fun c_15 => ?_)
  · have hf := ite_t hf c_15
    refine G.iconst (v := 0) dX4_lone_47 (by decide) ?_
    refine G.istore (L' := [some (.ref b0), some (.int x1), some (.int x2), some (.int x3), some (.int (0 : Int32)), none]) dX4_lone_48 (Nat.le_of_ble_eq_true rfl) (Nat.le_of_ble_eq_true rfl) rfl rfl ?_
    refine G.iconst (v := 0) dX4_lone_50 (by decide) ?_
    refine G.istore (L' := [some (.ref b0), some (.int x1), some (.int x2), some (.int x3), some (.int (0 : Int32)), some (.int (0 : Int32))]) dX4_lone_51 (Nat.le_of_ble_eq_true rfl) (Nat.le_of_ble_eq_true rfl) rfl rfl ?_
    obtain ⟨z_9, hz_9, rfl⟩ := inrO_at hf
    have hf := hz_9
    refine G.forget (L' := [some (.ref b0), some (.int x1), none, some (.int x3), some (.int (0 : Int32)), some (.int (0 : Int32))]) [2] rfl ?_
    exact lX4_lone_53 E d rr b0 x1 x3 I hb0 _ hK FU _ hf
  · have hf := ite_f hf c_15
    refine G.iconst (v := 1) dX4_lone_19 (by decide) ?_
    refine G.iload_n dX4_lone_20 rfl rfl ?_
    refine G.iload dX4_lone_21 rfl ?_
    obtain ⟨v_11, hc_10, hf⟩ := bnd_at hf
    refine G.callNi (av := [.int x1, .int x4]) (rest := [.int (1 : Int32)]) dX4_lone_23 mnX4_76 (gX11_roomOf E d x1 x4 I hc_10) rfl rfl (Nat.le_of_ble_eq_true rfl) ?_
    refine G.ishl dX4_lone_26 ?_
    refine G.nmi (fun x5_12 e_x5_12 => ?_)
    have hf := letb_at hf e_x5_12
    clear e_x5_12
    refine G.istore (L' := [some (.ref b0), some (.int x1), some (.int x2), some (.int x3), some (.int x4), some (.int x5_12)]) dX4_lone_27 (Nat.le_of_ble_eq_true rfl) (Nat.le_of_ble_eq_true rfl) rfl rfl ?_
    refine G.iload_n dX4_lone_29 rfl rfl ?_
    refine G.iload_n dX4_lone_30 rfl rfl ?_
    refine G.iload dX4_lone_31 rfl ?_
    refine G.iand dX4_lone_33 ?_
    refine G.ior dX4_lone_34 ?_
    refine G.nmi (fun x3_13 e_x3_13 => ?_)
    have hf := letb_at hf e_x3_13
    clear e_x3_13
    refine G.istore_n (L' := [some (.ref b0), some (.int x1), some (.int x2), some (.int x3_13), some (.int x4), some (.int x5_12)]) dX4_lone_35 rfl (Nat.le_of_ble_eq_true rfl) (Nat.le_of_ble_eq_true rfl) rfl rfl ?_
    refine G.iload_n dX4_lone_36 rfl rfl ?_
    refine G.iload dX4_lone_37 rfl ?_
    refine G.ior dX4_lone_39 ?_
    refine G.nmi (fun x2_14 e_x2_14 => ?_)
    have hf := letb_at hf e_x2_14
    clear e_x2_14
    refine G.istore_n (L' := [some (.ref b0), some (.int x1), some (.int x2_14), some (.int x3_13), some (.int x4), some (.int x5_12)]) dX4_lone_40 rfl (Nat.le_of_ble_eq_true rfl) (Nat.le_of_ble_eq_true rfl) rfl rfl ?_
    refine G.inc (w := 1) (L' := [some (.ref b0), some (.int x1), some (.int x2_14), some (.int x3_13), some (.int (x4 + (1 : Int32))), some (.int x5_12)]) dX4_lone_41 (by decide) rfl (Nat.le_of_ble_eq_true rfl) rfl rfl ?_
    refine G.goto (tgt := 10) dX4_lone_44 (by decide) ?_
    cases hf
    refine G.forget (L' := [some (.ref b0), some (.int x1), some (.int x2_14), some (.int x3_13), some (.int (x4 + (1 : Int32))), none]) [5] rfl ?_
    exact hK
theorem lX4_lone_10 (E : EV) (d : Nat) (rr : Option Value × Mem) (b0 : Nat) (x1 : Int32) (I : Mem) (hb0 : isH b0) (z : Int32) (hK : (fun (z : Int32) => (some (.int z), I) = rr) z) : ∀ (n : Nat) (q : (Int32 × Int32 × Int32)), iter (sX4_lone_10 b0 x1 I) n q = some z → G E (d + 1) kX4_lone 10 [some (.ref b0), some (.int x1), some (.int q.1), some (.int q.2.1), some (.int q.2.2), none] [] I rr := by
  intro n
  induction n with
  | zero => intro q h; cases h
  | succ n ih =>
    intro q h
    rcases iter_at h with ⟨q2, hs, h2⟩ | hs
    · exact wX4_lone_10 E d rr b0 x1 I q.1 q.2.1 q.2.2 hb0 _ hs (ih q2 h2)
    · exact wX4_lone_10 E d rr b0 x1 I q.1 q.2.1 q.2.2 hb0 _ hs hK
def fX4_lone (b0 : Nat) (x1 : Int32) (I : Mem) : Option Int32 :=
  letb (I b0 1) fun x3_1 =>
  iter (sX4_lone_10 b0 x1 I) FU ((0 : Int32), x3_1, (0 : Int32))
set_option maxRecDepth 20000 in
theorem gX4_lone (E : EV) (d : Nat) (b0 : Nat) (x1 : Int32) (I : Mem) (hb0 : isH b0) {v : Int32} (hf : fX4_lone b0 x1 I = some v) : Gm E (d + 1) kX4_lone [.ref b0, .int x1] I (some (.int v), I) := by
  refine Gm.of (by decide) rfl (Nat.le_of_ble_eq_true rfl) ?_
  generalize hrr : ((some (.int v), I) : Option Value × Mem) = rr
  show G E (d + 1) kX4_lone 0 [some (.ref b0), some (.int x1), none, none, none, none] [] I rr
  have hK : (fun (z : Int32) => (some (.int z), I) = rr) v := hrr
  clear hrr
  unfold fX4_lone at hf
  refine G.iconst (v := 0) dX4_lone_0 (by decide) ?_
  refine G.istore_n (L' := [some (.ref b0), some (.int x1), some (.int (0 : Int32)), none, none, none]) dX4_lone_1 rfl (Nat.le_of_ble_eq_true rfl) (Nat.le_of_ble_eq_true rfl) rfl rfl ?_
  refine G.aload_n dX4_lone_2 rfl rfl ?_
  refine G.getI dX4_lone_3 flX4_43 (isH_lt hb0) (isH_lk hb0) ?_
  refine G.nmi (fun x3_1 e_x3_1 => ?_)
  have hf := letb_at hf e_x3_1
  clear e_x3_1
  refine G.istore_n (L' := [some (.ref b0), some (.int x1), some (.int (0 : Int32)), some (.int x3_1), none, none]) dX4_lone_6 rfl (Nat.le_of_ble_eq_true rfl) (Nat.le_of_ble_eq_true rfl) rfl rfl ?_
  refine G.iconst (v := 0) dX4_lone_7 (by decide) ?_
  refine G.istore (L' := [some (.ref b0), some (.int x1), some (.int (0 : Int32)), some (.int x3_1), some (.int (0 : Int32)), none]) dX4_lone_8 (Nat.le_of_ble_eq_true rfl) (Nat.le_of_ble_eq_true rfl) rfl rfl ?_
  exact lX4_lone_10 E d rr b0 x1 I hb0 _ hK FU _ hf
theorem dX10_step_0 : decode cX10_step 0 = .ok (.aload_n 0, 1) := by decide +kernel
theorem dX10_step_1 : decode cX10_step 1 = .ok (.getfield 21, 3) := by decide +kernel
theorem dX10_step_4 : decode cX10_step 4 = .ok (.iconst 1, 1) := by decide +kernel
theorem dX10_step_5 : decode cX10_step 5 = .ok (.isub, 1) := by decide +kernel
theorem dX10_step_6 : decode cX10_step 6 = .ok (.istore_n 1, 1) := by decide +kernel
theorem dX10_step_7 : decode cX10_step 7 = .ok (.iload_n 1, 1) := by decide +kernel
theorem dX10_step_8 : decode cX10_step 8 = .ok (.ifCond .lt 79, 3) := by decide +kernel
theorem dX10_step_11 : decode cX10_step 11 = .ok (.iconst 3, 1) := by decide +kernel
theorem dX10_step_12 : decode cX10_step 12 = .ok (.iload_n 1, 1) := by decide +kernel
theorem dX10_step_13 : decode cX10_step 13 = .ok (.imul, 1) := by decide +kernel
theorem dX10_step_14 : decode cX10_step 14 = .ok (.istore_n 2, 1) := by decide +kernel
theorem dX10_step_15 : decode cX10_step 15 = .ok (.aload_n 0, 1) := by decide +kernel
theorem dX10_step_16 : decode cX10_step 16 = .ok (.getfield 9, 3) := by decide +kernel
theorem dX10_step_19 : decode cX10_step 19 = .ok (.iload_n 1, 1) := by decide +kernel
theorem dX10_step_20 : decode cX10_step 20 = .ok (.iaload, 1) := by decide +kernel
theorem dX10_step_21 : decode cX10_step 21 = .ok (.bipush (-2), 2) := by decide +kernel
theorem dX10_step_23 : decode cX10_step 23 = .ok (.aload_n 0, 1) := by decide +kernel
theorem dX10_step_24 : decode cX10_step 24 = .ok (.getfield 49, 3) := by decide +kernel
theorem dX10_step_27 : decode cX10_step 27 = .ok (.iload_n 1, 1) := by decide +kernel
theorem dX10_step_28 : decode cX10_step 28 = .ok (.invokestatic 41, 3) := by decide +kernel
theorem dX10_step_31 : decode cX10_step 31 = .ok (.ishl, 1) := by decide +kernel
theorem dX10_step_32 : decode cX10_step 32 = .ok (.iand, 1) := by decide +kernel
theorem dX10_step_33 : decode cX10_step 33 = .ok (.istore_n 3, 1) := by decide +kernel
theorem dX10_step_34 : decode cX10_step 34 = .ok (.iload_n 3, 1) := by decide +kernel
theorem dX10_step_35 : decode cX10_step 35 = .ok (.ifCond .eq 7, 3) := by decide +kernel
theorem dX10_step_38 : decode cX10_step 38 = .ok (.iload_n 3, 1) := by decide +kernel
theorem dX10_step_39 : decode cX10_step 39 = .ok (.goto 9, 3) := by decide +kernel
theorem dX10_step_42 : decode cX10_step 42 = .ok (.aload_n 0, 1) := by decide +kernel
theorem dX10_step_43 : decode cX10_step 43 = .ok (.getfield 9, 3) := by decide +kernel
theorem dX10_step_46 : decode cX10_step 46 = .ok (.iload_n 1, 1) := by decide +kernel
theorem dX10_step_47 : decode cX10_step 47 = .ok (.iaload, 1) := by decide +kernel
theorem dX10_step_48 : decode cX10_step 48 = .ok (.istore 4, 2) := by decide +kernel
theorem dX10_step_50 : decode cX10_step 50 = .ok (.aload_n 0, 1) := by decide +kernel
theorem dX10_step_51 : decode cX10_step 51 = .ok (.aload_n 0, 1) := by decide +kernel
theorem dX10_step_52 : decode cX10_step 52 = .ok (.getfield 49, 3) := by decide +kernel
theorem dX10_step_55 : decode cX10_step 55 = .ok (.bipush 7, 2) := by decide +kernel
theorem dX10_step_57 : decode cX10_step 57 = .ok (.iload_n 2, 1) := by decide +kernel
theorem dX10_step_58 : decode cX10_step 58 = .ok (.ishl, 1) := by decide +kernel
theorem dX10_step_59 : decode cX10_step 59 = .ok (.iconst (-1), 1) := by decide +kernel
theorem dX10_step_60 : decode cX10_step 60 = .ok (.ixor, 1) := by decide +kernel
theorem dX10_step_61 : decode cX10_step 61 = .ok (.iand, 1) := by decide +kernel
theorem dX10_step_62 : decode cX10_step 62 = .ok (.iload 4, 2) := by decide +kernel
theorem dX10_step_64 : decode cX10_step 64 = .ok (.invokestatic 57, 3) := by decide +kernel
theorem dX10_step_67 : decode cX10_step 67 = .ok (.bipush 7, 2) := by decide +kernel
theorem dX10_step_69 : decode cX10_step 69 = .ok (.iand, 1) := by decide +kernel
theorem dX10_step_70 : decode cX10_step 70 = .ok (.iload_n 2, 1) := by decide +kernel
theorem dX10_step_71 : decode cX10_step 71 = .ok (.ishl, 1) := by decide +kernel
theorem dX10_step_72 : decode cX10_step 72 = .ok (.ior, 1) := by decide +kernel
theorem dX10_step_73 : decode cX10_step 73 = .ok (.putfield 49, 3) := by decide +kernel
theorem dX10_step_76 : decode cX10_step 76 = .ok (.iload_n 3, 1) := by decide +kernel
theorem dX10_step_77 : decode cX10_step 77 = .ok (.ifCond .eq 4, 3) := by decide +kernel
theorem dX10_step_80 : decode cX10_step 80 = .ok (.return_, 1) := by decide +kernel
theorem dX10_step_81 : decode cX10_step 81 = .ok (.iinc 1 (-1), 3) := by decide +kernel
theorem dX10_step_84 : decode cX10_step 84 = .ok (.goto (-77), 3) := by decide +kernel
theorem dX10_step_87 : decode cX10_step 87 = .ok (.return_, 1) := by decide +kernel
def KX10_step_7 (E : EV) (d : Nat) (rr : Option Value × Mem) (w0 : Nat) (Kp : Mem → Prop) : ((Int32 × Mem) ⊕ Mem) → Prop
  | .inl q => G E (d + 1) kX10_step 7 [some (.ref w0), some (.int q.1), none, none, none] [] q.2 rr
  | .inr z => Kp z
def jX10_step_48 (w0 : Nat) (x1 : Int32) (x2 : Int32) (x3 : Int32) (u0 : Int32) (I : Mem) : Option ((Int32 × Mem) ⊕ Mem) :=
  bnd (fJ6_numberOfTrailingZeros_0f7a4 u0 I) fun v_9 =>
  letb (up2 I w0 0 (((I w0 0) &&& (((7 : Int32) <<< (x2 &&& 31)) ^^^ (-1 : Int32))) ||| ((v_9 &&& (7 : Int32)) <<< (x2 &&& 31)))) fun I_10 =>
  if x3 = 0 then
  (some (.inl ((x1 + (-1 : Int32)), I_10)))
  else
  (some (.inr I_10))
set_option maxRecDepth 20000 in
theorem tX10_step_48 (E : EV) (d : Nat) (rr : Option Value × Mem) (w0 : Nat) (x1 : Int32) (x2 : Int32) (x3 : Int32) (u0 : Int32) (I : Mem) (hw0 : isW w0) (y : ((Int32 × Mem) ⊕ Mem)) (hf : jX10_step_48 w0 x1 x2 x3 u0 I = some y) (hK : (KX10_step_7 E d rr w0 (fun (z : Mem) => ((none : Option Value), z) = rr)) y) : G E (d + 1) kX10_step 48 [some (.ref w0), some (.int x1), some (.int x2), some (.int x3), none] [.int u0] I rr := by
  unfold jX10_step_48 at hf
  refine G.istore (L' := [some (.ref w0), some (.int x1), some (.int x2), some (.int x3), some (.int u0)]) dX10_step_48 (Nat.le_of_ble_eq_true rfl) (Nat.le_of_ble_eq_true rfl) rfl rfl ?_
  refine G.aload_n dX10_step_50 rfl rfl ?_
  refine G.aload_n dX10_step_51 rfl rfl ?_
  refine G.getI dX10_step_52 flX10_49 (isW_lt hw0) (isW_lk hw0) ?_
  refine G.bipush (v := 7) dX10_step_55 (by decide) ?_
  refine G.iload_n dX10_step_57 rfl rfl ?_
  refine G.ishl dX10_step_58 ?_
  refine G.iconst (v := -1) dX10_step_59 (by decide) ?_
  refine G.ixor dX10_step_60 ?_
  refine G.iand dX10_step_61 ?_
  refine G.iload dX10_step_62 rfl ?_
  obtain ⟨v_9, hc_8, hf⟩ := bnd_at hf
  refine G.callSi (av := [.int u0]) (rest := [.int ((I w0 0) &&& (((7 : Int32) <<< (x2 &&& 31)) ^^^ (-1 : Int32))), .ref w0]) dX10_step_64 msX10_57 (gJ6_numberOfTrailingZeros_0f7a4 E d u0 I hc_8) rfl rfl (Nat.le_of_ble_eq_true rfl) ?_
  refine G.bipush (v := 7) dX10_step_67 (by decide) ?_
  refine G.iand dX10_step_69 ?_
  refine G.iload_n dX10_step_70 rfl rfl ?_
  refine G.ishl dX10_step_71 ?_
  refine G.ior dX10_step_72 ?_
  refine G.putI dX10_step_73 flX10_49 (isW_lt hw0) (isW_lk hw0) ?_
  refine G.nmI (fun I_10 e_I_10 => ?_)
  have hf := letb_at hf e_I_10
  clear e_I_10
  refine G.iload_n dX10_step_76 rfl rfl ?_
  refine G.if_eq (tgt := 81) dX10_step_77 (by decide) (fun c_11 => ?_) (fun c_11 => ?_)
  · have hf := ite_t hf c_11
    refine G.inc (w := -1) (L' := [some (.ref w0), some (.int (x1 + (-1 : Int32))), some (.int x2), some (.int x3), some (.int u0)]) dX10_step_81 (by decide) rfl (Nat.le_of_ble_eq_true rfl) rfl rfl ?_
    refine G.goto (tgt := 7) dX10_step_84 (by decide) ?_
    cases hf
    refine G.forget (L' := [some (.ref w0), some (.int (x1 + (-1 : Int32))), none, none, none]) [2, 3, 4] rfl ?_
    exact hK
  · have hf := ite_f hf c_11
    cases hf
    exact G.vret' dX10_step_80 rfl hK
def bX10_step_7 (w0 : Nat) (x1 : Int32) (I : Mem) : Option ((Int32 × Mem) ⊕ Mem) :=
  if x1 < 0 then
  (some (.inr I))
  else
  (letb ((3 : Int32) * x1) fun x2_2 =>
  chk (inb x1 4) <|
  bnd (fX11_roomOf (I w0 0) x1 I) fun v_5 =>
  letb ((I (w0 + 1) (ix x1)) &&& ((-2 : Int32) <<< (v_5 &&& 31))) fun x3_6 =>
  if x3_6 = 0 then
  (chk (inb x1 4) <|
  jX10_step_48 w0 x1 x2_2 x3_6 (I (w0 + 1) (ix x1)) I)
  else
  (jX10_step_48 w0 x1 x2_2 x3_6 x3_6 I))
def sX10_step_7 (w0 : Nat) (q : (Int32 × Mem)) : Option ((Int32 × Mem) ⊕ Mem) := bX10_step_7 w0 q.1 q.2
set_option maxRecDepth 20000 in
theorem wX10_step_7 (E : EV) (d : Nat) (rr : Option Value × Mem) (w0 : Nat) (x1 : Int32) (I : Mem) (hw0 : isW w0) (y : ((Int32 × Mem) ⊕ Mem)) (hf : bX10_step_7 w0 x1 I = some y) (hK : (KX10_step_7 E d rr w0 (fun (z : Mem) => ((none : Option Value), z) = rr)) y) : G E (d + 1) kX10_step 7 [some (.ref w0), some (.int x1), none, none, none] [] I rr := by
  unfold bX10_step_7 at hf
  refine G.iload_n dX10_step_7 rfl rfl ?_
  refine G.if_lt (tgt := 87) dX10_step_8 (by decide) (fun c_13 => ?_) (fun c_13 => ?_)
  · have hf := ite_t hf c_13
    cases hf
    exact G.vret' dX10_step_87 rfl hK
  · have hf := ite_f hf c_13
    refine G.iconst (v := 3) dX10_step_11 (by decide) ?_
    refine G.iload_n dX10_step_12 rfl rfl ?_
    refine G.imul dX10_step_13 ?_
    refine G.nmi (fun x2_2 e_x2_2 => ?_)
    have hf := letb_at hf e_x2_2
    clear e_x2_2
    refine G.istore_n (L' := [some (.ref w0), some (.int x1), some (.int x2_2), none, none]) dX10_step_14 rfl (Nat.le_of_ble_eq_true rfl) (Nat.le_of_ble_eq_true rfl) rfl rfl ?_
    refine G.aload_n dX10_step_15 rfl rfl ?_
    refine G.getR (q := (w0 + 1)) dX10_step_16 flX10_9 (isW_lt hw0) (isW_lk hw0) (isW_r1 hw0) ?_
    refine G.iload_n dX10_step_19 rfl rfl ?_
    obtain ⟨hi_3, hf⟩ := chk_at hf
    refine G.iald' dX10_step_20 (isW_l1 hw0) (isW_k1 hw0) (isW_n1 hw0) hi_3 ?_
    refine G.bipush (v := -2) dX10_step_21 (by decide) ?_
    refine G.aload_n dX10_step_23 rfl rfl ?_
    refine G.getI dX10_step_24 flX10_49 (isW_lt hw0) (isW_lk hw0) ?_
    refine G.iload_n dX10_step_27 rfl rfl ?_
    obtain ⟨v_5, hc_4, hf⟩ := bnd_at hf
    refine G.callNi (av := [.int (I w0 0), .int x1]) (rest := [.int (-2 : Int32), .int (I (w0 + 1) (ix x1))]) dX10_step_28 mnX10_41 (gX11_roomOf E d (I w0 0) x1 I hc_4) rfl rfl (Nat.le_of_ble_eq_true rfl) ?_
    refine G.ishl dX10_step_31 ?_
    refine G.iand dX10_step_32 ?_
    refine G.nmi (fun x3_6 e_x3_6 => ?_)
    have hf := letb_at hf e_x3_6
    clear e_x3_6
    refine G.istore_n (L' := [some (.ref w0), some (.int x1), some (.int x2_2), some (.int x3_6), none]) dX10_step_33 rfl (Nat.le_of_ble_eq_true rfl) (Nat.le_of_ble_eq_true rfl) rfl rfl ?_
    refine G.iload_n dX10_step_34 rfl rfl ?_
    refine G.if_eq (tgt := 42) dX10_step_35 (by decide) (fun c_12 => ?_) (fun c_12 => ?_)
    · have hf := ite_t hf c_12
      refine G.aload_n dX10_step_42 rfl rfl ?_
      refine G.getR (q := (w0 + 1)) dX10_step_43 flX10_9 (isW_lt hw0) (isW_lk hw0) (isW_r1 hw0) ?_
      refine G.iload_n dX10_step_46 rfl rfl ?_
      obtain ⟨hi_7, hf⟩ := chk_at hf
      refine G.iald' dX10_step_47 (isW_l1 hw0) (isW_k1 hw0) (isW_n1 hw0) hi_7 ?_
      exact tX10_step_48 E d rr w0 x1 x2_2 x3_6 (I (w0 + 1) (ix x1)) I hw0 _ hf hK
    · have hf := ite_f hf c_12
      refine G.iload_n dX10_step_38 rfl rfl ?_
      refine G.goto (tgt := 48) dX10_step_39 (by decide) ?_
      exact tX10_step_48 E d rr w0 x1 x2_2 x3_6 x3_6 I hw0 _ hf hK
theorem lX10_step_7 (E : EV) (d : Nat) (rr : Option Value × Mem) (w0 : Nat) (hw0 : isW w0) (z : Mem) (hK : (fun (z : Mem) => ((none : Option Value), z) = rr) z) : ∀ (n : Nat) (q : (Int32 × Mem)), iter (sX10_step_7 w0) n q = some z → G E (d + 1) kX10_step 7 [some (.ref w0), some (.int q.1), none, none, none] [] q.2 rr := by
  intro n
  induction n with
  | zero => intro q h; cases h
  | succ n ih =>
    intro q h
    rcases iter_at h with ⟨q2, hs, h2⟩ | hs
    · exact wX10_step_7 E d rr w0 q.1 q.2 hw0 _ hs (ih q2 h2)
    · exact wX10_step_7 E d rr w0 q.1 q.2 hw0 _ hs hK
def fX10_step (w0 : Nat) (I : Mem) : Option Mem :=
  letb ((I w0 1) - (1 : Int32)) fun x1_1 =>
  iter (sX10_step_7 w0) FU (x1_1, I)
set_option maxRecDepth 20000 in
theorem gX10_step (E : EV) (d : Nat) (w0 : Nat) (I : Mem) (hw0 : isW w0) {J : Mem} (hf : fX10_step w0 I = some J) : Gm E (d + 1) kX10_step [.ref w0] I (none, J) := by
  refine Gm.of (by decide) rfl (Nat.le_of_ble_eq_true rfl) ?_
  generalize hrr : ((none, J) : Option Value × Mem) = rr
  show G E (d + 1) kX10_step 0 [some (.ref w0), none, none, none, none] [] I rr
  have hK : (fun (z : Mem) => ((none : Option Value), z) = rr) J := hrr
  clear hrr
  unfold fX10_step at hf
  refine G.aload_n dX10_step_0 rfl rfl ?_
  refine G.getI dX10_step_1 flX10_21 (isW_lt hw0) (isW_lk hw0) ?_
  refine G.iconst (v := 1) dX10_step_4 (by decide) ?_
  refine G.isub dX10_step_5 ?_
  refine G.nmi (fun x1_1 e_x1_1 => ?_)
  have hf := letb_at hf e_x1_1
  clear e_x1_1
  refine G.istore_n (L' := [some (.ref w0), some (.int x1_1), none, none, none]) dX10_step_6 rfl (Nat.le_of_ble_eq_true rfl) (Nat.le_of_ble_eq_true rfl) rfl rfl ?_
  exact lX10_step_7 E d rr w0 hw0 _ hK FU _ hf
theorem dX4_markLone_0 : decode cX4_markLone 0 = .ok (.aload_n 2, 1) := by decide +kernel
theorem dX4_markLone_1 : decode cX4_markLone 1 = .ok (.aload_n 0, 1) := by decide +kernel
theorem dX4_markLone_2 : decode cX4_markLone 2 = .ok (.invokevirtual 90, 3) := by decide +kernel
theorem dX4_markLone_5 : decode cX4_markLone 5 = .ok (.istore_n 3, 1) := by decide +kernel
theorem dX4_markLone_6 : decode cX4_markLone 6 = .ok (.iconst 0, 1) := by decide +kernel
theorem dX4_markLone_7 : decode cX4_markLone 7 = .ok (.istore 4, 2) := by decide +kernel
theorem dX4_markLone_9 : decode cX4_markLone 9 = .ok (.iload 4, 2) := by decide +kernel
theorem dX4_markLone_11 : decode cX4_markLone 11 = .ok (.iload_n 3, 1) := by decide +kernel
theorem dX4_markLone_12 : decode cX4_markLone 12 = .ok (.if_icmp .ge 27, 3) := by decide +kernel
theorem dX4_markLone_15 : decode cX4_markLone 15 = .ok (.aload_n 1, 1) := by decide +kernel
theorem dX4_markLone_16 : decode cX4_markLone 16 = .ok (.aload_n 2, 1) := by decide +kernel
theorem dX4_markLone_17 : decode cX4_markLone 17 = .ok (.getfield 96, 3) := by decide +kernel
theorem dX4_markLone_20 : decode cX4_markLone 20 = .ok (.aload_n 0, 1) := by decide +kernel
theorem dX4_markLone_21 : decode cX4_markLone 21 = .ok (.aload_n 2, 1) := by decide +kernel
theorem dX4_markLone_22 : decode cX4_markLone 22 = .ok (.getfield 96, 3) := by decide +kernel
theorem dX4_markLone_25 : decode cX4_markLone 25 = .ok (.invokevirtual 87, 3) := by decide +kernel
theorem dX4_markLone_28 : decode cX4_markLone 28 = .ok (.iastore, 1) := by decide +kernel
theorem dX4_markLone_29 : decode cX4_markLone 29 = .ok (.aload_n 2, 1) := by decide +kernel
theorem dX4_markLone_30 : decode cX4_markLone 30 = .ok (.invokevirtual 99, 3) := by decide +kernel
theorem dX4_markLone_33 : decode cX4_markLone 33 = .ok (.iinc 4 1, 3) := by decide +kernel
theorem dX4_markLone_36 : decode cX4_markLone 36 = .ok (.goto (-27), 3) := by decide +kernel
theorem dX4_markLone_39 : decode cX4_markLone 39 = .ok (.return_, 1) := by decide +kernel
def KX4_markLone_9 (E : EV) (d : Nat) (rr : Option Value × Mem) (b0 : Nat) (a1 : Nat) (w2 : Nat) (x3 : Int32) (Kp : Mem → Prop) : ((Int32 × Mem) ⊕ Mem) → Prop
  | .inl q => G E (d + 3) kX4_markLone 9 [some (.ref b0), some (.ref a1), some (.ref w2), some (.int x3), some (.int q.1)] [] q.2 rr
  | .inr z => Kp z
def bX4_markLone_9 (b0 : Nat) (a1 : Nat) (w2 : Nat) (x3 : Int32) (x4 : Int32) (I : Mem) : Option ((Int32 × Mem) ⊕ Mem) :=
  if x3 ≤ x4 then
  (some (.inr I))
  else
  (bnd (fX4_lone b0 (I w2 0) I) fun v_5 =>
  chk (inb (I w2 0) (ln a1)) <|
  letb (up2 I a1 (ix (I w2 0)) v_5) fun I_7 =>
  bnd (fX10_step w2 I_7) fun I_9 =>
  some (.inl ((x4 + (1 : Int32)), I_9)))
def sX4_markLone_9 (b0 : Nat) (a1 : Nat) (w2 : Nat) (x3 : Int32) (q : (Int32 × Mem)) : Option ((Int32 × Mem) ⊕ Mem) := bX4_markLone_9 b0 a1 w2 x3 q.1 q.2
set_option maxRecDepth 20000 in
theorem wX4_markLone_9 (E : EV) (d : Nat) (rr : Option Value × Mem) (b0 : Nat) (a1 : Nat) (w2 : Nat) (x3 : Int32) (x4 : Int32) (I : Mem) (hb0 : isH b0) (ha1 : isA a1) (hw2 : isW w2) (y : ((Int32 × Mem) ⊕ Mem)) (hf : bX4_markLone_9 b0 a1 w2 x3 x4 I = some y) (hK : (KX4_markLone_9 E d rr b0 a1 w2 x3 (fun (z : Mem) => ((none : Option Value), z) = rr)) y) : G E (d + 3) kX4_markLone 9 [some (.ref b0), some (.ref a1), some (.ref w2), some (.int x3), some (.int x4)] [] I rr := by
  unfold bX4_markLone_9 at hf
  refine G.iload dX4_markLone_9 rfl ?_
  refine G.iload_n dX4_markLone_11 rfl rfl ?_
  refine G.icmp_ge (tgt := 39) dX4_markLone_12 (by decide) (fun c_10 => ?_) (fun c_10 => ?_)
  · have hf := ite_t hf c_10
    cases hf
    exact G.vret' dX4_markLone_39 rfl hK
  · have hf := ite_f hf c_10
    refine G.aload_n dX4_markLone_15 rfl rfl ?_
    refine G.aload_n dX4_markLone_16 rfl rfl ?_
    refine G.getI dX4_markLone_17 flX4_96 (isW_lt hw2) (isW_lk hw2) ?_
    refine G.aload_n dX4_markLone_20 rfl rfl ?_
    refine G.aload_n dX4_markLone_21 rfl rfl ?_
    refine G.getI dX4_markLone_22 flX4_96 (isW_lt hw2) (isW_lk hw2) ?_
    obtain ⟨v_5, hc_4, hf⟩ := bnd_at hf
    refine G.callVi (av := [.int (I w2 0)]) (rest := [.int (I w2 0), .ref a1]) dX4_markLone_25 mvX4_87 (gX4_lone E (d + 1) b0 (I w2 0) I hb0 hc_4) (isH_lt hb0) (isH_lk hb0) rfl rfl (Nat.le_of_ble_eq_true rfl) ?_
    obtain ⟨hi_6, hf⟩ := chk_at hf
    refine G.iast' dX4_markLone_28 ha1.1 ha1.2 rfl hi_6 ?_
    refine G.nmI (fun I_7 e_I_7 => ?_)
    have hf := letb_at hf e_I_7
    clear e_I_7
    refine G.aload_n dX4_markLone_29 rfl rfl ?_
    obtain ⟨I_9, hc_8, hf⟩ := bnd_at hf
    refine G.callVv (av := []) (rest := []) dX4_markLone_30 mvX4_99 (gX10_step E (d + 1) w2 I_7 hw2 hc_8) (isW_lt hw2) (isW_lk hw2) rfl rfl (Nat.le_of_ble_eq_true rfl) ?_
    refine G.inc (w := 1) (L' := [some (.ref b0), some (.ref a1), some (.ref w2), some (.int x3), some (.int (x4 + (1 : Int32)))]) dX4_markLone_33 (by decide) rfl (Nat.le_of_ble_eq_true rfl) rfl rfl ?_
    refine G.goto (tgt := 9) dX4_markLone_36 (by decide) ?_
    cases hf
    exact hK
theorem lX4_markLone_9 (E : EV) (d : Nat) (rr : Option Value × Mem) (b0 : Nat) (a1 : Nat) (w2 : Nat) (x3 : Int32) (hb0 : isH b0) (ha1 : isA a1) (hw2 : isW w2) (z : Mem) (hK : (fun (z : Mem) => ((none : Option Value), z) = rr) z) : ∀ (n : Nat) (q : (Int32 × Mem)), iter (sX4_markLone_9 b0 a1 w2 x3) n q = some z → G E (d + 3) kX4_markLone 9 [some (.ref b0), some (.ref a1), some (.ref w2), some (.int x3), some (.int q.1)] [] q.2 rr := by
  intro n
  induction n with
  | zero => intro q h; cases h
  | succ n ih =>
    intro q h
    rcases iter_at h with ⟨q2, hs, h2⟩ | hs
    · exact wX4_markLone_9 E d rr b0 a1 w2 x3 q.1 q.2 hb0 ha1 hw2 _ hs (ih q2 h2)
    · exact wX4_markLone_9 E d rr b0 a1 w2 x3 q.1 q.2 hb0 ha1 hw2 _ hs hK
def fX4_markLone (b0 : Nat) (a1 : Nat) (w2 : Nat) (I : Mem) : Option Mem :=
  bnd2 (fX10_all w2 b0 I) fun v_2 I_3 =>
  iter (sX4_markLone_9 b0 a1 w2 v_2) FU ((0 : Int32), I_3)
set_option maxRecDepth 20000 in
theorem gX4_markLone (E : EV) (d : Nat) (b0 : Nat) (a1 : Nat) (w2 : Nat) (I : Mem) (hb0 : isH b0) (ha1 : isA a1) (hw2 : isW w2) {J : Mem} (hf : fX4_markLone b0 a1 w2 I = some J) : Gm E (d + 3) kX4_markLone [.ref b0, .ref a1, .ref w2] I (none, J) := by
  refine Gm.of (by decide) rfl (Nat.le_of_ble_eq_true rfl) ?_
  generalize hrr : ((none, J) : Option Value × Mem) = rr
  show G E (d + 3) kX4_markLone 0 [some (.ref b0), some (.ref a1), some (.ref w2), none, none] [] I rr
  have hK : (fun (z : Mem) => ((none : Option Value), z) = rr) J := hrr
  clear hrr
  unfold fX4_markLone at hf
  refine G.aload_n dX4_markLone_0 rfl rfl ?_
  refine G.aload_n dX4_markLone_1 rfl rfl ?_
  obtain ⟨v_2, I_3, hc_1, hf⟩ := bnd2_at hf
  refine G.callVi (av := [.ref b0]) (rest := []) dX4_markLone_2 mvX4_90 (gX10_all E d w2 b0 I hw2 hb0 hc_1) (isW_lt hw2) (isW_lk hw2) rfl rfl (Nat.le_of_ble_eq_true rfl) ?_
  refine G.istore_n (L' := [some (.ref b0), some (.ref a1), some (.ref w2), some (.int v_2), none]) dX4_markLone_5 rfl (Nat.le_of_ble_eq_true rfl) (Nat.le_of_ble_eq_true rfl) rfl rfl ?_
  refine G.iconst (v := 0) dX4_markLone_6 (by decide) ?_
  refine G.istore (L' := [some (.ref b0), some (.ref a1), some (.ref w2), some (.int v_2), some (.int (0 : Int32))]) dX4_markLone_7 (Nat.le_of_ble_eq_true rfl) (Nat.le_of_ble_eq_true rfl) rfl rfl ?_
  exact lX4_markLone_9 E d rr b0 a1 w2 v_2 hb0 ha1 hw2 _ hK FU _ hf
theorem dX4_reach_0 : decode cX4_reach 0 = .ok (.aload_n 0, 1) := by decide +kernel
theorem dX4_reach_1 : decode cX4_reach 1 = .ok (.getfield 15, 3) := by decide +kernel
theorem dX4_reach_4 : decode cX4_reach 4 = .ok (.iload_n 1, 1) := by decide +kernel
theorem dX4_reach_5 : decode cX4_reach 5 = .ok (.iaload, 1) := by decide +kernel
theorem dX4_reach_6 : decode cX4_reach 6 = .ok (.iconst 1, 1) := by decide +kernel
theorem dX4_reach_7 : decode cX4_reach 7 = .ok (.iload_n 1, 1) := by decide +kernel
theorem dX4_reach_8 : decode cX4_reach 8 = .ok (.ishl, 1) := by decide +kernel
theorem dX4_reach_9 : decode cX4_reach 9 = .ok (.ior, 1) := by decide +kernel
theorem dX4_reach_10 : decode cX4_reach 10 = .ok (.ireturn, 1) := by decide +kernel
def fX4_reach (b0 : Nat) (x1 : Int32) (I : Mem) : Option Int32 :=
  chk (inb x1 5) <|
  some ((I (b0 + 1) (ix x1)) ||| ((1 : Int32) <<< (x1 &&& 31)))
set_option maxRecDepth 20000 in
theorem gX4_reach (E : EV) (d : Nat) (b0 : Nat) (x1 : Int32) (I : Mem) (hb0 : isH b0) {v : Int32} (hf : fX4_reach b0 x1 I = some v) : Gm E (d + 0) kX4_reach [.ref b0, .int x1] I (some (.int v), I) := by
  refine Gm.of (by decide) rfl (Nat.le_of_ble_eq_true rfl) ?_
  generalize hrr : ((some (.int v), I) : Option Value × Mem) = rr
  show G E (d + 0) kX4_reach 0 [some (.ref b0), some (.int x1)] [] I rr
  have hK : (fun (z : Int32) => (some (.int z), I) = rr) v := hrr
  clear hrr
  unfold fX4_reach at hf
  refine G.aload_n dX4_reach_0 rfl rfl ?_
  refine G.getR (q := (b0 + 1)) dX4_reach_1 flX4_15 (isH_lt hb0) (isH_lk hb0) (isH_r1 hb0) ?_
  refine G.iload_n dX4_reach_4 rfl rfl ?_
  obtain ⟨hi_1, hf⟩ := chk_at hf
  refine G.iald' dX4_reach_5 (isH_l1 hb0) (isH_k1 hb0) (isH_n1 hb0) hi_1 ?_
  refine G.iconst (v := 1) dX4_reach_6 (by decide) ?_
  refine G.iload_n dX4_reach_7 rfl rfl ?_
  refine G.ishl dX4_reach_8 ?_
  refine G.ior dX4_reach_9 ?_
  cases hf
  exact G.iret' dX4_reach_10 rfl hK
theorem dX10_among_0 : decode cX10_among 0 = .ok (.aload_n 0, 1) := by decide +kernel
theorem dX10_among_1 : decode cX10_among 1 = .ok (.aload_n 1, 1) := by decide +kernel
theorem dX10_among_2 : decode cX10_among 2 = .ok (.getfield 15, 3) := by decide +kernel
theorem dX10_among_5 : decode cX10_among 5 = .ok (.putfield 21, 3) := by decide +kernel
theorem dX10_among_8 : decode cX10_among 8 = .ok (.aload_n 2, 1) := by decide +kernel
theorem dX10_among_9 : decode cX10_among 9 = .ok (.iconst 0, 1) := by decide +kernel
theorem dX10_among_10 : decode cX10_among 10 = .ok (.aload_n 0, 1) := by decide +kernel
theorem dX10_among_11 : decode cX10_among 11 = .ok (.getfield 9, 3) := by decide +kernel
theorem dX10_among_14 : decode cX10_among 14 = .ok (.iconst 0, 1) := by decide +kernel
theorem dX10_among_15 : decode cX10_among 15 = .ok (.iconst 4, 1) := by decide +kernel
theorem dX10_among_16 : decode cX10_among 16 = .ok (.invokestatic 35, 3) := by decide +kernel
theorem dX10_among_19 : decode cX10_among 19 = .ok (.aload_n 0, 1) := by decide +kernel
theorem dX10_among_20 : decode cX10_among 20 = .ok (.invokevirtual 32, 3) := by decide +kernel
theorem dX10_among_23 : decode cX10_among 23 = .ok (.ireturn, 1) := by decide +kernel
def fX10_among (w0 : Nat) (b1 : Nat) (a2 : Nat) (I : Mem) : Option (Int32 × Mem) :=
  letb (up2 I w0 1 (I b1 2)) fun I_1 =>
  chk (cpok (0 : Int32) (0 : Int32) (4 : Int32) (ln a2) 4) <|
  letb (upA I_1 (w0 + 1) (cpA (I_1 a2) (I_1 (w0 + 1)) (ix (0 : Int32)) (ix (0 : Int32)) (ix (4 : Int32)))) fun I_3 =>
  bnd2 (fX10_begin w0 I_3) fun v_5 I_6 =>
  some (v_5, I_6)
set_option maxRecDepth 20000 in
theorem gX10_among (E : EV) (d : Nat) (w0 : Nat) (b1 : Nat) (a2 : Nat) (I : Mem) (hw0 : isW w0) (hb1 : isH b1) (ha2 : isA a2) {v : Int32} {J : Mem} (hf : fX10_among w0 b1 a2 I = some (v, J)) : Gm E (d + 2) kX10_among [.ref w0, .ref b1, .ref a2] I (some (.int v), J) := by
  refine Gm.of (by decide) rfl (Nat.le_of_ble_eq_true rfl) ?_
  generalize hrr : ((some (.int v), J) : Option Value × Mem) = rr
  show G E (d + 2) kX10_among 0 [some (.ref w0), some (.ref b1), some (.ref a2)] [] I rr
  have hK : (fun (z : Int32 × Mem) => (some (.int z.1), z.2) = rr) (v, J) := hrr
  clear hrr
  unfold fX10_among at hf
  refine G.aload_n dX10_among_0 rfl rfl ?_
  refine G.aload_n dX10_among_1 rfl rfl ?_
  refine G.getI dX10_among_2 flX10_15 (isH_lt hb1) (isH_lk hb1) ?_
  refine G.putI dX10_among_5 flX10_21 (isW_lt hw0) (isW_lk hw0) ?_
  refine G.nmI (fun I_1 e_I_1 => ?_)
  have hf := letb_at hf e_I_1
  clear e_I_1
  refine G.aload_n dX10_among_8 rfl rfl ?_
  refine G.iconst (v := 0) dX10_among_9 (by decide) ?_
  refine G.aload_n dX10_among_10 rfl rfl ?_
  refine G.getR (q := (w0 + 1)) dX10_among_11 flX10_9 (isW_lt hw0) (isW_lk hw0) (isW_r1 hw0) ?_
  refine G.iconst (v := 0) dX10_among_14 (by decide) ?_
  refine G.iconst (v := 4) dX10_among_15 (by decide) ?_
  obtain ⟨hi_2, hf⟩ := chk_at hf
  refine G.acopy' (rest := []) dX10_among_16 maX10_35 ha2.1 ha2.2 rfl (isW_l1 hw0) (isW_k1 hw0) (isW_n1 hw0) hi_2 (Nat.le_of_ble_eq_true rfl) ?_
  refine G.nmI (fun I_3 e_I_3 => ?_)
  have hf := letb_at hf e_I_3
  clear e_I_3
  refine G.aload_n dX10_among_19 rfl rfl ?_
  obtain ⟨v_5, I_6, hc_4, hf⟩ := bnd2_at hf
  refine G.callVi (av := []) (rest := []) dX10_among_20 mvX10_32 (gX10_begin E d w0 I_3 hw0 hc_4) (isW_lt hw0) (isW_lk hw0) rfl rfl (Nat.le_of_ble_eq_true rfl) ?_
  cases hf
  exact G.iret' dX10_among_23 rfl hK
theorem dX10_onwardAmong_0 : decode cX10_onwardAmong 0 = .ok (.aload_n 0, 1) := by decide +kernel
theorem dX10_onwardAmong_1 : decode cX10_onwardAmong 1 = .ok (.aload_n 1, 1) := by decide +kernel
theorem dX10_onwardAmong_2 : decode cX10_onwardAmong 2 = .ok (.getfield 15, 3) := by decide +kernel
theorem dX10_onwardAmong_5 : decode cX10_onwardAmong 5 = .ok (.putfield 21, 3) := by decide +kernel
theorem dX10_onwardAmong_8 : decode cX10_onwardAmong 8 = .ok (.iconst 0, 1) := by decide +kernel
theorem dX10_onwardAmong_9 : decode cX10_onwardAmong 9 = .ok (.istore 4, 2) := by decide +kernel
theorem dX10_onwardAmong_11 : decode cX10_onwardAmong 11 = .ok (.iload 4, 2) := by decide +kernel
theorem dX10_onwardAmong_13 : decode cX10_onwardAmong 13 = .ok (.aload_n 0, 1) := by decide +kernel
theorem dX10_onwardAmong_14 : decode cX10_onwardAmong 14 = .ok (.getfield 21, 3) := by decide +kernel
theorem dX10_onwardAmong_17 : decode cX10_onwardAmong 17 = .ok (.if_icmp .ge 31, 3) := by decide +kernel
theorem dX10_onwardAmong_20 : decode cX10_onwardAmong 20 = .ok (.aload_n 0, 1) := by decide +kernel
theorem dX10_onwardAmong_21 : decode cX10_onwardAmong 21 = .ok (.getfield 9, 3) := by decide +kernel
theorem dX10_onwardAmong_24 : decode cX10_onwardAmong 24 = .ok (.iload 4, 2) := by decide +kernel
theorem dX10_onwardAmong_26 : decode cX10_onwardAmong 26 = .ok (.aload_n 1, 1) := by decide +kernel
theorem dX10_onwardAmong_27 : decode cX10_onwardAmong 27 = .ok (.iload_n 2, 1) := by decide +kernel
theorem dX10_onwardAmong_28 : decode cX10_onwardAmong 28 = .ok (.iload 4, 2) := by decide +kernel
theorem dX10_onwardAmong_30 : decode cX10_onwardAmong 30 = .ok (.invokestatic 41, 3) := by decide +kernel
theorem dX10_onwardAmong_33 : decode cX10_onwardAmong 33 = .ok (.invokevirtual 45, 3) := by decide +kernel
theorem dX10_onwardAmong_36 : decode cX10_onwardAmong 36 = .ok (.aload_n 3, 1) := by decide +kernel
theorem dX10_onwardAmong_37 : decode cX10_onwardAmong 37 = .ok (.iload 4, 2) := by decide +kernel
theorem dX10_onwardAmong_39 : decode cX10_onwardAmong 39 = .ok (.iaload, 1) := by decide +kernel
theorem dX10_onwardAmong_40 : decode cX10_onwardAmong 40 = .ok (.iand, 1) := by decide +kernel
theorem dX10_onwardAmong_41 : decode cX10_onwardAmong 41 = .ok (.iastore, 1) := by decide +kernel
theorem dX10_onwardAmong_42 : decode cX10_onwardAmong 42 = .ok (.iinc 4 1, 3) := by decide +kernel
theorem dX10_onwardAmong_45 : decode cX10_onwardAmong 45 = .ok (.goto (-34), 3) := by decide +kernel
theorem dX10_onwardAmong_48 : decode cX10_onwardAmong 48 = .ok (.aload_n 0, 1) := by decide +kernel
theorem dX10_onwardAmong_49 : decode cX10_onwardAmong 49 = .ok (.invokevirtual 32, 3) := by decide +kernel
theorem dX10_onwardAmong_52 : decode cX10_onwardAmong 52 = .ok (.ireturn, 1) := by decide +kernel
def KX10_onwardAmong_11 (E : EV) (d : Nat) (rr : Option Value × Mem) (w0 : Nat) (b1 : Nat) (a3 : Nat) (x2 : Int32) (Kp : (Int32 × Mem) → Prop) : ((Int32 × Mem) ⊕ (Int32 × Mem)) → Prop
  | .inl q => G E (d + 2) kX10_onwardAmong 11 [some (.ref w0), some (.ref b1), some (.int x2), some (.ref a3), some (.int q.1)] [] q.2 rr
  | .inr z => Kp z
def bX10_onwardAmong_11 (w0 : Nat) (b1 : Nat) (a3 : Nat) (x2 : Int32) (x4 : Int32) (I : Mem) : Option ((Int32 × Mem) ⊕ (Int32 × Mem)) :=
  if (I w0 1) ≤ x4 then
  (bnd2 (fX10_begin w0 I) fun v_3 I_4 =>
  some (.inr (v_3, I_4)))
  else
  (bnd (fX11_roomOf x2 x4 I) fun v_6 =>
  bnd (fX4_reach b1 v_6 I) fun v_8 =>
  chk (inb x4 (ln a3)) <|
  chk (inb x4 4) <|
  letb (up2 I (w0 + 1) (ix x4) (v_8 &&& (I a3 (ix x4)))) fun I_11 =>
  some (.inl ((x4 + (1 : Int32)), I_11)))
def sX10_onwardAmong_11 (w0 : Nat) (b1 : Nat) (a3 : Nat) (x2 : Int32) (q : (Int32 × Mem)) : Option ((Int32 × Mem) ⊕ (Int32 × Mem)) := bX10_onwardAmong_11 w0 b1 a3 x2 q.1 q.2
set_option maxRecDepth 20000 in
theorem wX10_onwardAmong_11 (E : EV) (d : Nat) (rr : Option Value × Mem) (w0 : Nat) (b1 : Nat) (a3 : Nat) (x2 : Int32) (x4 : Int32) (I : Mem) (hw0 : isW w0) (hb1 : isH b1) (ha3 : isA a3) (y : ((Int32 × Mem) ⊕ (Int32 × Mem))) (hf : bX10_onwardAmong_11 w0 b1 a3 x2 x4 I = some y) (hK : (KX10_onwardAmong_11 E d rr w0 b1 a3 x2 (fun (z : Int32 × Mem) => (some (.int z.1), z.2) = rr)) y) : G E (d + 2) kX10_onwardAmong 11 [some (.ref w0), some (.ref b1), some (.int x2), some (.ref a3), some (.int x4)] [] I rr := by
  unfold bX10_onwardAmong_11 at hf
  refine G.iload dX10_onwardAmong_11 rfl ?_
  refine G.aload_n dX10_onwardAmong_13 rfl rfl ?_
  refine G.getI dX10_onwardAmong_14 flX10_21 (isW_lt hw0) (isW_lk hw0) ?_
  refine G.icmp_ge (tgt := 48) dX10_onwardAmong_17 (by decide) (fun c_12 => ?_) (fun c_12 => ?_)
  · have hf := ite_t hf c_12
    refine G.aload_n dX10_onwardAmong_48 rfl rfl ?_
    obtain ⟨v_3, I_4, hc_2, hf⟩ := bnd2_at hf
    refine G.callVi (av := []) (rest := []) dX10_onwardAmong_49 mvX10_32 (gX10_begin E d w0 I hw0 hc_2) (isW_lt hw0) (isW_lk hw0) rfl rfl (Nat.le_of_ble_eq_true rfl) ?_
    cases hf
    exact G.iret' dX10_onwardAmong_52 rfl hK
  · have hf := ite_f hf c_12
    refine G.aload_n dX10_onwardAmong_20 rfl rfl ?_
    refine G.getR (q := (w0 + 1)) dX10_onwardAmong_21 flX10_9 (isW_lt hw0) (isW_lk hw0) (isW_r1 hw0) ?_
    refine G.iload dX10_onwardAmong_24 rfl ?_
    refine G.aload_n dX10_onwardAmong_26 rfl rfl ?_
    refine G.iload_n dX10_onwardAmong_27 rfl rfl ?_
    refine G.iload dX10_onwardAmong_28 rfl ?_
    obtain ⟨v_6, hc_5, hf⟩ := bnd_at hf
    refine G.callNi (av := [.int x2, .int x4]) (rest := [.ref b1, .int x4, .ref (w0 + 1)]) dX10_onwardAmong_30 mnX10_41 (gX11_roomOf E (d + 1) x2 x4 I hc_5) rfl rfl (Nat.le_of_ble_eq_true rfl) ?_
    obtain ⟨v_8, hc_7, hf⟩ := bnd_at hf
    refine G.callVi (av := [.int v_6]) (rest := [.int x4, .ref (w0 + 1)]) dX10_onwardAmong_33 mvX10_45 (gX4_reach E (d + 1) b1 v_6 I hb1 hc_7) (isH_lt hb1) (isH_lk hb1) rfl rfl (Nat.le_of_ble_eq_true rfl) ?_
    refine G.aload_n dX10_onwardAmong_36 rfl rfl ?_
    refine G.iload dX10_onwardAmong_37 rfl ?_
    obtain ⟨hi_9, hf⟩ := chk_at hf
    refine G.iald' dX10_onwardAmong_39 ha3.1 ha3.2 rfl hi_9 ?_
    refine G.iand dX10_onwardAmong_40 ?_
    obtain ⟨hi_10, hf⟩ := chk_at hf
    refine G.iast' dX10_onwardAmong_41 (isW_l1 hw0) (isW_k1 hw0) (isW_n1 hw0) hi_10 ?_
    refine G.nmI (fun I_11 e_I_11 => ?_)
    have hf := letb_at hf e_I_11
    clear e_I_11
    refine G.inc (w := 1) (L' := [some (.ref w0), some (.ref b1), some (.int x2), some (.ref a3), some (.int (x4 + (1 : Int32)))]) dX10_onwardAmong_42 (by decide) rfl (Nat.le_of_ble_eq_true rfl) rfl rfl ?_
    refine G.goto (tgt := 11) dX10_onwardAmong_45 (by decide) ?_
    cases hf
    exact hK
theorem lX10_onwardAmong_11 (E : EV) (d : Nat) (rr : Option Value × Mem) (w0 : Nat) (b1 : Nat) (a3 : Nat) (x2 : Int32) (hw0 : isW w0) (hb1 : isH b1) (ha3 : isA a3) (z : (Int32 × Mem)) (hK : (fun (z : Int32 × Mem) => (some (.int z.1), z.2) = rr) z) : ∀ (n : Nat) (q : (Int32 × Mem)), iter (sX10_onwardAmong_11 w0 b1 a3 x2) n q = some z → G E (d + 2) kX10_onwardAmong 11 [some (.ref w0), some (.ref b1), some (.int x2), some (.ref a3), some (.int q.1)] [] q.2 rr := by
  intro n
  induction n with
  | zero => intro q h; cases h
  | succ n ih =>
    intro q h
    rcases iter_at h with ⟨q2, hs, h2⟩ | hs
    · exact wX10_onwardAmong_11 E d rr w0 b1 a3 x2 q.1 q.2 hw0 hb1 ha3 _ hs (ih q2 h2)
    · exact wX10_onwardAmong_11 E d rr w0 b1 a3 x2 q.1 q.2 hw0 hb1 ha3 _ hs hK
def fX10_onwardAmong (w0 : Nat) (b1 : Nat) (x2 : Int32) (a3 : Nat) (I : Mem) : Option (Int32 × Mem) :=
  letb (up2 I w0 1 (I b1 2)) fun I_1 =>
  iter (sX10_onwardAmong_11 w0 b1 a3 x2) FU ((0 : Int32), I_1)
set_option maxRecDepth 20000 in
theorem gX10_onwardAmong (E : EV) (d : Nat) (w0 : Nat) (b1 : Nat) (x2 : Int32) (a3 : Nat) (I : Mem) (hw0 : isW w0) (hb1 : isH b1) (ha3 : isA a3) {v : Int32} {J : Mem} (hf : fX10_onwardAmong w0 b1 x2 a3 I = some (v, J)) : Gm E (d + 2) kX10_onwardAmong [.ref w0, .ref b1, .int x2, .ref a3] I (some (.int v), J) := by
  refine Gm.of (by decide) rfl (Nat.le_of_ble_eq_true rfl) ?_
  generalize hrr : ((some (.int v), J) : Option Value × Mem) = rr
  show G E (d + 2) kX10_onwardAmong 0 [some (.ref w0), some (.ref b1), some (.int x2), some (.ref a3), none] [] I rr
  have hK : (fun (z : Int32 × Mem) => (some (.int z.1), z.2) = rr) (v, J) := hrr
  clear hrr
  unfold fX10_onwardAmong at hf
  refine G.aload_n dX10_onwardAmong_0 rfl rfl ?_
  refine G.aload_n dX10_onwardAmong_1 rfl rfl ?_
  refine G.getI dX10_onwardAmong_2 flX10_15 (isH_lt hb1) (isH_lk hb1) ?_
  refine G.putI dX10_onwardAmong_5 flX10_21 (isW_lt hw0) (isW_lk hw0) ?_
  refine G.nmI (fun I_1 e_I_1 => ?_)
  have hf := letb_at hf e_I_1
  clear e_I_1
  refine G.iconst (v := 0) dX10_onwardAmong_8 (by decide) ?_
  refine G.istore (L' := [some (.ref w0), some (.ref b1), some (.int x2), some (.ref a3), some (.int (0 : Int32))]) dX10_onwardAmong_9 (Nat.le_of_ble_eq_true rfl) (Nat.le_of_ble_eq_true rfl) rfl rfl ?_
  exact lX10_onwardAmong_11 E d rr w0 b1 a3 x2 hw0 hb1 ha3 _ hK FU _ hf
theorem dX4_payers_0 : decode cX4_payers 0 = .ok (.iconst 0, 1) := by decide +kernel
theorem dX4_payers_1 : decode cX4_payers 1 = .ok (.istore 7, 2) := by decide +kernel
theorem dX4_payers_3 : decode cX4_payers 3 = .ok (.iconst 0, 1) := by decide +kernel
theorem dX4_payers_4 : decode cX4_payers 4 = .ok (.istore 8, 2) := by decide +kernel
theorem dX4_payers_6 : decode cX4_payers 6 = .ok (.iload 8, 2) := by decide +kernel
theorem dX4_payers_8 : decode cX4_payers 8 = .ok (.aload_n 0, 1) := by decide +kernel
theorem dX4_payers_9 : decode cX4_payers 9 = .ok (.getfield 46, 3) := by decide +kernel
theorem dX4_payers_12 : decode cX4_payers 12 = .ok (.if_icmp .ge 76, 3) := by decide +kernel
theorem dX4_payers_15 : decode cX4_payers 15 = .ok (.iload 4, 2) := by decide +kernel
theorem dX4_payers_17 : decode cX4_payers 17 = .ok (.iload 8, 2) := by decide +kernel
theorem dX4_payers_19 : decode cX4_payers 19 = .ok (.ishr, 1) := by decide +kernel
theorem dX4_payers_20 : decode cX4_payers 20 = .ok (.ifCond .eq 68, 3) := by decide +kernel
theorem dX4_payers_23 : decode cX4_payers 23 = .ok (.iload_n 1, 1) := by decide +kernel
theorem dX4_payers_24 : decode cX4_payers 24 = .ok (.iload 8, 2) := by decide +kernel
theorem dX4_payers_26 : decode cX4_payers 26 = .ok (.invokestatic 76, 3) := by decide +kernel
theorem dX4_payers_29 : decode cX4_payers 29 = .ok (.iload_n 2, 1) := by decide +kernel
theorem dX4_payers_30 : decode cX4_payers 30 = .ok (.iload 8, 2) := by decide +kernel
theorem dX4_payers_32 : decode cX4_payers 32 = .ok (.invokestatic 76, 3) := by decide +kernel
theorem dX4_payers_35 : decode cX4_payers 35 = .ok (.if_icmp .ne 7, 3) := by decide +kernel
theorem dX4_payers_38 : decode cX4_payers 38 = .ok (.iconst 1, 1) := by decide +kernel
theorem dX4_payers_39 : decode cX4_payers 39 = .ok (.goto 4, 3) := by decide +kernel
theorem dX4_payers_42 : decode cX4_payers 42 = .ok (.iconst 0, 1) := by decide +kernel
theorem dX4_payers_43 : decode cX4_payers 43 = .ok (.istore 9, 2) := by decide +kernel
theorem dX4_payers_45 : decode cX4_payers 45 = .ok (.iload 4, 2) := by decide +kernel
theorem dX4_payers_47 : decode cX4_payers 47 = .ok (.iload 8, 2) := by decide +kernel
theorem dX4_payers_49 : decode cX4_payers 49 = .ok (.invokestatic 83, 3) := by decide +kernel
theorem dX4_payers_52 : decode cX4_payers 52 = .ok (.ifCond .eq 30, 3) := by decide +kernel
theorem dX4_payers_55 : decode cX4_payers 55 = .ok (.aload 6, 2) := by decide +kernel
theorem dX4_payers_57 : decode cX4_payers 57 = .ok (.iload 9, 2) := by decide +kernel
theorem dX4_payers_59 : decode cX4_payers 59 = .ok (.iload_n 3, 1) := by decide +kernel
theorem dX4_payers_60 : decode cX4_payers 60 = .ok (.iload 8, 2) := by decide +kernel
theorem dX4_payers_62 : decode cX4_payers 62 = .ok (.invokestatic 83, 3) := by decide +kernel
theorem dX4_payers_65 : decode cX4_payers 65 = .ok (.iload 5, 2) := by decide +kernel
theorem dX4_payers_67 : decode cX4_payers 67 = .ok (.invokevirtual 102, 3) := by decide +kernel
theorem dX4_payers_70 : decode cX4_payers 70 = .ok (.ifCond .eq 12, 3) := by decide +kernel
theorem dX4_payers_73 : decode cX4_payers 73 = .ok (.iload 7, 2) := by decide +kernel
theorem dX4_payers_75 : decode cX4_payers 75 = .ok (.iconst 1, 1) := by decide +kernel
theorem dX4_payers_76 : decode cX4_payers 76 = .ok (.iload 8, 2) := by decide +kernel
theorem dX4_payers_78 : decode cX4_payers 78 = .ok (.ishl, 1) := by decide +kernel
theorem dX4_payers_79 : decode cX4_payers 79 = .ok (.ior, 1) := by decide +kernel
theorem dX4_payers_80 : decode cX4_payers 80 = .ok (.istore 7, 2) := by decide +kernel
theorem dX4_payers_82 : decode cX4_payers 82 = .ok (.iinc 8 1, 3) := by decide +kernel
theorem dX4_payers_85 : decode cX4_payers 85 = .ok (.goto (-79), 3) := by decide +kernel
theorem dX4_payers_88 : decode cX4_payers 88 = .ok (.iload 7, 2) := by decide +kernel
theorem dX4_payers_90 : decode cX4_payers 90 = .ok (.ireturn, 1) := by decide +kernel
def KX4_payers_6 (E : EV) (d : Nat) (rr : Option Value × Mem) (b0 : Nat) (o6 : Nat) (x1 : Int32) (x2 : Int32) (x3 : Int32) (x4 : Int32) (x5 : Int32) (I : Mem) (Kp : Int32 → Prop) : ((Int32 × Int32) ⊕ Int32) → Prop
  | .inl q => G E (d + 2) kX4_payers 6 [some (.ref b0), some (.int x1), some (.int x2), some (.int x3), some (.int x4), some (.int x5), some (.ref o6), some (.int q.1), some (.int q.2), none] [] I rr
  | .inr z => Kp z
def jX4_payers_43 (b0 : Nat) (o6 : Nat) (x1 : Int32) (x2 : Int32) (x3 : Int32) (x4 : Int32) (x5 : Int32) (x7 : Int32) (x8 : Int32) (u0 : Int32) (I : Mem) : Option ((Int32 × Int32) ⊕ Int32) :=
  bnd (fX11_has x4 x8 I) fun v_6 =>
  if v_6 = 0 then
  (some (.inl (x7, (x8 + (1 : Int32)))))
  else
  (bnd (fX11_has x3 x8 I) fun v_8 =>
  bnd (fD_lays o6 u0 v_8 x5 I) fun v_9 =>
  if v_9 = 0 then
  (some (.inl (x7, (x8 + (1 : Int32)))))
  else
  (letb (x7 ||| ((1 : Int32) <<< (x8 &&& 31))) fun x7_11 =>
  some (.inl (x7_11, (x8 + (1 : Int32))))))
set_option maxRecDepth 20000 in
theorem tX4_payers_43 (E : EV) (d : Nat) (rr : Option Value × Mem) (b0 : Nat) (o6 : Nat) (x1 : Int32) (x2 : Int32) (x3 : Int32) (x4 : Int32) (x5 : Int32) (x7 : Int32) (x8 : Int32) (u0 : Int32) (I : Mem) (hb0 : isH b0) (ho6 : isL o6) (y : ((Int32 × Int32) ⊕ Int32)) (hf : jX4_payers_43 b0 o6 x1 x2 x3 x4 x5 x7 x8 u0 I = some y) (hK : (KX4_payers_6 E d rr b0 o6 x1 x2 x3 x4 x5 I (fun (z : Int32) => (some (.int z), I) = rr)) y) : G E (d + 2) kX4_payers 43 [some (.ref b0), some (.int x1), some (.int x2), some (.int x3), some (.int x4), some (.int x5), some (.ref o6), some (.int x7), some (.int x8), none] [.int u0] I rr := by
  unfold jX4_payers_43 at hf
  refine G.istore (L' := [some (.ref b0), some (.int x1), some (.int x2), some (.int x3), some (.int x4), some (.int x5), some (.ref o6), some (.int x7), some (.int x8), some (.int u0)]) dX4_payers_43 (Nat.le_of_ble_eq_true rfl) (Nat.le_of_ble_eq_true rfl) rfl rfl ?_
  refine G.iload dX4_payers_45 rfl ?_
  refine G.iload dX4_payers_47 rfl ?_
  obtain ⟨v_6, hc_5, hf⟩ := bnd_at hf
  refine G.callNi (av := [.int x4, .int x8]) (rest := []) dX4_payers_49 mnX4_83 (gX11_has E (d + 1) x4 x8 I hc_5) rfl rfl (Nat.le_of_ble_eq_true rfl) ?_
  refine G.if_eq (tgt := 82) dX4_payers_52 (by decide) (fun c_13 => ?_) (fun c_13 => ?_)
  · have hf := ite_t hf c_13
    refine G.inc (w := 1) (L' := [some (.ref b0), some (.int x1), some (.int x2), some (.int x3), some (.int x4), some (.int x5), some (.ref o6), some (.int x7), some (.int (x8 + (1 : Int32))), some (.int u0)]) dX4_payers_82 (by decide) rfl (Nat.le_of_ble_eq_true rfl) rfl rfl ?_
    refine G.goto (tgt := 6) dX4_payers_85 (by decide) ?_
    cases hf
    refine G.forget (L' := [some (.ref b0), some (.int x1), some (.int x2), some (.int x3), some (.int x4), some (.int x5), some (.ref o6), some (.int x7), some (.int (x8 + (1 : Int32))), none]) [9] rfl ?_
    exact hK
  · have hf := ite_f hf c_13
    refine G.aload dX4_payers_55 rfl ?_
    refine G.iload dX4_payers_57 rfl ?_
    refine G.iload_n dX4_payers_59 rfl rfl ?_
    refine G.iload dX4_payers_60 rfl ?_
    obtain ⟨v_8, hc_7, hf⟩ := bnd_at hf
    refine G.callNi (av := [.int x3, .int x8]) (rest := [.int u0, .ref o6]) dX4_payers_62 mnX4_83 (gX11_has E (d + 1) x3 x8 I hc_7) rfl rfl (Nat.le_of_ble_eq_true rfl) ?_
    refine G.iload dX4_payers_65 rfl ?_
    obtain ⟨v_9, hc_10, hf⟩ := bnd_at hf
    refine vLX4_102 (rest := []) dX4_payers_67 ho6 hc_10 (Nat.le_of_ble_eq_true rfl) rfl ?_
    refine G.if_eq (tgt := 82) dX4_payers_70 (by decide) (fun c_12 => ?_) (fun c_12 => ?_)
    · have hf := ite_t hf c_12
      refine G.inc (w := 1) (L' := [some (.ref b0), some (.int x1), some (.int x2), some (.int x3), some (.int x4), some (.int x5), some (.ref o6), some (.int x7), some (.int (x8 + (1 : Int32))), some (.int u0)]) dX4_payers_82 (by decide) rfl (Nat.le_of_ble_eq_true rfl) rfl rfl ?_
      refine G.goto (tgt := 6) dX4_payers_85 (by decide) ?_
      cases hf
      refine G.forget (L' := [some (.ref b0), some (.int x1), some (.int x2), some (.int x3), some (.int x4), some (.int x5), some (.ref o6), some (.int x7), some (.int (x8 + (1 : Int32))), none]) [9] rfl ?_
      exact hK
    · have hf := ite_f hf c_12
      refine G.iload dX4_payers_73 rfl ?_
      refine G.iconst (v := 1) dX4_payers_75 (by decide) ?_
      refine G.iload dX4_payers_76 rfl ?_
      refine G.ishl dX4_payers_78 ?_
      refine G.ior dX4_payers_79 ?_
      refine G.nmi (fun x7_11 e_x7_11 => ?_)
      have hf := letb_at hf e_x7_11
      clear e_x7_11
      refine G.istore (L' := [some (.ref b0), some (.int x1), some (.int x2), some (.int x3), some (.int x4), some (.int x5), some (.ref o6), some (.int x7_11), some (.int x8), some (.int u0)]) dX4_payers_80 (Nat.le_of_ble_eq_true rfl) (Nat.le_of_ble_eq_true rfl) rfl rfl ?_
      refine G.inc (w := 1) (L' := [some (.ref b0), some (.int x1), some (.int x2), some (.int x3), some (.int x4), some (.int x5), some (.ref o6), some (.int x7_11), some (.int (x8 + (1 : Int32))), some (.int u0)]) dX4_payers_82 (by decide) rfl (Nat.le_of_ble_eq_true rfl) rfl rfl ?_
      refine G.goto (tgt := 6) dX4_payers_85 (by decide) ?_
      cases hf
      refine G.forget (L' := [some (.ref b0), some (.int x1), some (.int x2), some (.int x3), some (.int x4), some (.int x5), some (.ref o6), some (.int x7_11), some (.int (x8 + (1 : Int32))), none]) [9] rfl ?_
      exact hK
def bX4_payers_6 (b0 : Nat) (o6 : Nat) (x1 : Int32) (x2 : Int32) (x3 : Int32) (x4 : Int32) (x5 : Int32) (I : Mem) (x7 : Int32) (x8 : Int32) : Option ((Int32 × Int32) ⊕ Int32) :=
  if (I b0 2) ≤ x8 then
  (some (.inr x7))
  else
  (if (x4 >>> (x8 &&& 31)) = 0 then
  (some (.inr x7))
  else
  (bnd (fX11_roomOf x1 x8 I) fun v_2 =>
  bnd (fX11_roomOf x2 x8 I) fun v_4 =>
  if v_2 = v_4 then
  (jX4_payers_43 b0 o6 x1 x2 x3 x4 x5 x7 x8 (1 : Int32) I)
  else
  (jX4_payers_43 b0 o6 x1 x2 x3 x4 x5 x7 x8 (0 : Int32) I)))
def sX4_payers_6 (b0 : Nat) (o6 : Nat) (x1 : Int32) (x2 : Int32) (x3 : Int32) (x4 : Int32) (x5 : Int32) (I : Mem) (q : (Int32 × Int32)) : Option ((Int32 × Int32) ⊕ Int32) := bX4_payers_6 b0 o6 x1 x2 x3 x4 x5 I q.1 q.2
set_option maxRecDepth 20000 in
theorem wX4_payers_6 (E : EV) (d : Nat) (rr : Option Value × Mem) (b0 : Nat) (o6 : Nat) (x1 : Int32) (x2 : Int32) (x3 : Int32) (x4 : Int32) (x5 : Int32) (I : Mem) (x7 : Int32) (x8 : Int32) (hb0 : isH b0) (ho6 : isL o6) (y : ((Int32 × Int32) ⊕ Int32)) (hf : bX4_payers_6 b0 o6 x1 x2 x3 x4 x5 I x7 x8 = some y) (hK : (KX4_payers_6 E d rr b0 o6 x1 x2 x3 x4 x5 I (fun (z : Int32) => (some (.int z), I) = rr)) y) : G E (d + 2) kX4_payers 6 [some (.ref b0), some (.int x1), some (.int x2), some (.int x3), some (.int x4), some (.int x5), some (.ref o6), some (.int x7), some (.int x8), none] [] I rr := by
  unfold bX4_payers_6 at hf
  refine G.iload dX4_payers_6 rfl ?_
  refine G.aload_n dX4_payers_8 rfl rfl ?_
  refine G.getI dX4_payers_9 flX4_46 (isH_lt hb0) (isH_lk hb0) ?_
  refine G.icmp_ge (tgt := 88) dX4_payers_12 (by decide) (fun c_16 => ?_) (fun c_16 => ?_)
  · have hf := ite_t hf c_16
    refine G.iload dX4_payers_88 rfl ?_
    cases hf
    exact G.iret' dX4_payers_90 rfl hK
  · have hf := ite_f hf c_16
    refine G.iload dX4_payers_15 rfl ?_
    refine G.iload dX4_payers_17 rfl ?_
    refine G.ishr dX4_payers_19 ?_
    refine G.if_eq (tgt := 88) dX4_payers_20 (by decide) (fun c_15 => ?_) (fun c_15 => ?_)
    · have hf := ite_t hf c_15
      refine G.iload dX4_payers_88 rfl ?_
      cases hf
      exact G.iret' dX4_payers_90 rfl hK
    · have hf := ite_f hf c_15
      refine G.iload_n dX4_payers_23 rfl rfl ?_
      refine G.iload dX4_payers_24 rfl ?_
      obtain ⟨v_2, hc_1, hf⟩ := bnd_at hf
      refine G.callNi (av := [.int x1, .int x8]) (rest := []) dX4_payers_26 mnX4_76 (gX11_roomOf E (d + 1) x1 x8 I hc_1) rfl rfl (Nat.le_of_ble_eq_true rfl) ?_
      refine G.iload_n dX4_payers_29 rfl rfl ?_
      refine G.iload dX4_payers_30 rfl ?_
      obtain ⟨v_4, hc_3, hf⟩ := bnd_at hf
      refine G.callNi (av := [.int x2, .int x8]) (rest := [.int v_2]) dX4_payers_32 mnX4_76 (gX11_roomOf E (d + 1) x2 x8 I hc_3) rfl rfl (Nat.le_of_ble_eq_true rfl) ?_
      refine G.icmp_ne (tgt := 42) dX4_payers_35 (by decide) (fun c_14 => ?_) (fun c_14 => ?_)
      · have hf := ite_f hf c_14
        refine G.iconst (v := 0) dX4_payers_42 (by decide) ?_
        exact tX4_payers_43 E d rr b0 o6 x1 x2 x3 x4 x5 x7 x8 (0 : Int32) I hb0 ho6 _ hf hK
      · have hf := ite_t hf c_14
        refine G.iconst (v := 1) dX4_payers_38 (by decide) ?_
        refine G.goto (tgt := 43) dX4_payers_39 (by decide) ?_
        exact tX4_payers_43 E d rr b0 o6 x1 x2 x3 x4 x5 x7 x8 (1 : Int32) I hb0 ho6 _ hf hK
theorem lX4_payers_6 (E : EV) (d : Nat) (rr : Option Value × Mem) (b0 : Nat) (o6 : Nat) (x1 : Int32) (x2 : Int32) (x3 : Int32) (x4 : Int32) (x5 : Int32) (I : Mem) (hb0 : isH b0) (ho6 : isL o6) (z : Int32) (hK : (fun (z : Int32) => (some (.int z), I) = rr) z) : ∀ (n : Nat) (q : (Int32 × Int32)), iter (sX4_payers_6 b0 o6 x1 x2 x3 x4 x5 I) n q = some z → G E (d + 2) kX4_payers 6 [some (.ref b0), some (.int x1), some (.int x2), some (.int x3), some (.int x4), some (.int x5), some (.ref o6), some (.int q.1), some (.int q.2), none] [] I rr := by
  intro n
  induction n with
  | zero => intro q h; cases h
  | succ n ih =>
    intro q h
    rcases iter_at h with ⟨q2, hs, h2⟩ | hs
    · exact wX4_payers_6 E d rr b0 o6 x1 x2 x3 x4 x5 I q.1 q.2 hb0 ho6 _ hs (ih q2 h2)
    · exact wX4_payers_6 E d rr b0 o6 x1 x2 x3 x4 x5 I q.1 q.2 hb0 ho6 _ hs hK
def fX4_payers (b0 : Nat) (x1 : Int32) (x2 : Int32) (x3 : Int32) (x4 : Int32) (x5 : Int32) (o6 : Nat) (I : Mem) : Option Int32 :=
  iter (sX4_payers_6 b0 o6 x1 x2 x3 x4 x5 I) FU ((0 : Int32), (0 : Int32))
set_option maxRecDepth 20000 in
theorem gX4_payers (E : EV) (d : Nat) (b0 : Nat) (x1 : Int32) (x2 : Int32) (x3 : Int32) (x4 : Int32) (x5 : Int32) (o6 : Nat) (I : Mem) (hb0 : isH b0) (ho6 : isL o6) {v : Int32} (hf : fX4_payers b0 x1 x2 x3 x4 x5 o6 I = some v) : Gm E (d + 2) kX4_payers [.ref b0, .int x1, .int x2, .int x3, .int x4, .int x5, .ref o6] I (some (.int v), I) := by
  refine Gm.of (by decide) rfl (Nat.le_of_ble_eq_true rfl) ?_
  generalize hrr : ((some (.int v), I) : Option Value × Mem) = rr
  show G E (d + 2) kX4_payers 0 [some (.ref b0), some (.int x1), some (.int x2), some (.int x3), some (.int x4), some (.int x5), some (.ref o6), none, none, none] [] I rr
  have hK : (fun (z : Int32) => (some (.int z), I) = rr) v := hrr
  clear hrr
  unfold fX4_payers at hf
  refine G.iconst (v := 0) dX4_payers_0 (by decide) ?_
  refine G.istore (L' := [some (.ref b0), some (.int x1), some (.int x2), some (.int x3), some (.int x4), some (.int x5), some (.ref o6), some (.int (0 : Int32)), none, none]) dX4_payers_1 (Nat.le_of_ble_eq_true rfl) (Nat.le_of_ble_eq_true rfl) rfl rfl ?_
  refine G.iconst (v := 0) dX4_payers_3 (by decide) ?_
  refine G.istore (L' := [some (.ref b0), some (.int x1), some (.int x2), some (.int x3), some (.int x4), some (.int x5), some (.ref o6), some (.int (0 : Int32)), some (.int (0 : Int32)), none]) dX4_payers_4 (Nat.le_of_ble_eq_true rfl) (Nat.le_of_ble_eq_true rfl) rfl rfl ?_
  exact lX4_payers_6 E d rr b0 o6 x1 x2 x3 x4 x5 I hb0 ho6 _ hK FU _ hf
theorem dX4_empty_0 : decode cX4_empty 0 = .ok (.aload_n 0, 1) := by decide +kernel
theorem dX4_empty_1 : decode cX4_empty 1 = .ok (.iload_n 1, 1) := by decide +kernel
theorem dX4_empty_2 : decode cX4_empty 2 = .ok (.putfield 9, 3) := by decide +kernel
theorem dX4_empty_5 : decode cX4_empty 5 = .ok (.aload_n 0, 1) := by decide +kernel
theorem dX4_empty_6 : decode cX4_empty 6 = .ok (.iconst 0, 1) := by decide +kernel
theorem dX4_empty_7 : decode cX4_empty 7 = .ok (.putfield 43, 3) := by decide +kernel
theorem dX4_empty_10 : decode cX4_empty 10 = .ok (.aload_n 0, 1) := by decide +kernel
theorem dX4_empty_11 : decode cX4_empty 11 = .ok (.iconst 0, 1) := by decide +kernel
theorem dX4_empty_12 : decode cX4_empty 12 = .ok (.putfield 46, 3) := by decide +kernel
theorem dX4_empty_15 : decode cX4_empty 15 = .ok (.aload_n 0, 1) := by decide +kernel
theorem dX4_empty_16 : decode cX4_empty 16 = .ok (.iconst 0, 1) := by decide +kernel
theorem dX4_empty_17 : decode cX4_empty 17 = .ok (.putfield 49, 3) := by decide +kernel
theorem dX4_empty_20 : decode cX4_empty 20 = .ok (.aload_n 0, 1) := by decide +kernel
theorem dX4_empty_21 : decode cX4_empty 21 = .ok (.iconst 0, 1) := by decide +kernel
theorem dX4_empty_22 : decode cX4_empty 22 = .ok (.putfield 52, 3) := by decide +kernel
theorem dX4_empty_25 : decode cX4_empty 25 = .ok (.aload_n 0, 1) := by decide +kernel
theorem dX4_empty_26 : decode cX4_empty 26 = .ok (.iconst 0, 1) := by decide +kernel
theorem dX4_empty_27 : decode cX4_empty 27 = .ok (.putfield 55, 3) := by decide +kernel
theorem dX4_empty_30 : decode cX4_empty 30 = .ok (.aload_n 0, 1) := by decide +kernel
theorem dX4_empty_31 : decode cX4_empty 31 = .ok (.iconst 0, 1) := by decide +kernel
theorem dX4_empty_32 : decode cX4_empty 32 = .ok (.putfield 58, 3) := by decide +kernel
theorem dX4_empty_35 : decode cX4_empty 35 = .ok (.aload_n 0, 1) := by decide +kernel
theorem dX4_empty_36 : decode cX4_empty 36 = .ok (.iconst 0, 1) := by decide +kernel
theorem dX4_empty_37 : decode cX4_empty 37 = .ok (.putfield 61, 3) := by decide +kernel
theorem dX4_empty_40 : decode cX4_empty 40 = .ok (.aload_n 0, 1) := by decide +kernel
theorem dX4_empty_41 : decode cX4_empty 41 = .ok (.getfield 15, 3) := by decide +kernel
theorem dX4_empty_44 : decode cX4_empty 44 = .ok (.iconst 0, 1) := by decide +kernel
theorem dX4_empty_45 : decode cX4_empty 45 = .ok (.invokestatic 37, 3) := by decide +kernel
theorem dX4_empty_48 : decode cX4_empty 48 = .ok (.aload_n 0, 1) := by decide +kernel
theorem dX4_empty_49 : decode cX4_empty 49 = .ok (.getfield 19, 3) := by decide +kernel
theorem dX4_empty_52 : decode cX4_empty 52 = .ok (.iconst 0, 1) := by decide +kernel
theorem dX4_empty_53 : decode cX4_empty 53 = .ok (.invokestatic 37, 3) := by decide +kernel
theorem dX4_empty_56 : decode cX4_empty 56 = .ok (.aload_n 0, 1) := by decide +kernel
theorem dX4_empty_57 : decode cX4_empty 57 = .ok (.getfield 22, 3) := by decide +kernel
theorem dX4_empty_60 : decode cX4_empty 60 = .ok (.iconst 0, 1) := by decide +kernel
theorem dX4_empty_61 : decode cX4_empty 61 = .ok (.invokestatic 37, 3) := by decide +kernel
theorem dX4_empty_64 : decode cX4_empty 64 = .ok (.aload_n 0, 1) := by decide +kernel
theorem dX4_empty_65 : decode cX4_empty 65 = .ok (.getfield 25, 3) := by decide +kernel
theorem dX4_empty_68 : decode cX4_empty 68 = .ok (.iconst 0, 1) := by decide +kernel
theorem dX4_empty_69 : decode cX4_empty 69 = .ok (.invokestatic 37, 3) := by decide +kernel
theorem dX4_empty_72 : decode cX4_empty 72 = .ok (.aload_n 0, 1) := by decide +kernel
theorem dX4_empty_73 : decode cX4_empty 73 = .ok (.getfield 28, 3) := by decide +kernel
theorem dX4_empty_76 : decode cX4_empty 76 = .ok (.iconst (-1), 1) := by decide +kernel
theorem dX4_empty_77 : decode cX4_empty 77 = .ok (.invokestatic 37, 3) := by decide +kernel
theorem dX4_empty_80 : decode cX4_empty 80 = .ok (.return_, 1) := by decide +kernel
def fX4_empty (b0 : Nat) (x1 : Int32) (I : Mem) : Option Mem :=
  letb (up2 I b0 0 x1) fun I_1 =>
  letb (up2 I_1 b0 1 (0 : Int32)) fun I_2 =>
  letb (up2 I_2 b0 2 (0 : Int32)) fun I_3 =>
  letb (up2 I_3 b0 3 (0 : Int32)) fun I_4 =>
  letb (up2 I_4 b0 4 (0 : Int32)) fun I_5 =>
  letb (up2 I_5 b0 5 (0 : Int32)) fun I_6 =>
  letb (up2 I_6 b0 6 (0 : Int32)) fun I_7 =>
  letb (up2 I_7 b0 7 (0 : Int32)) fun I_8 =>
  bnd (fJ7_fill_53178 (b0 + 1) (0 : Int32) I_8) fun I_10 =>
  bnd (fJ7_fill_53178 (b0 + 2) (0 : Int32) I_10) fun I_12 =>
  bnd (fJ7_fill_53178 (b0 + 3) (0 : Int32) I_12) fun I_14 =>
  bnd (fJ7_fill_53178 (b0 + 4) (0 : Int32) I_14) fun I_16 =>
  bnd (fJ7_fill_53178 (b0 + 5) (-1 : Int32) I_16) fun I_18 =>
  some I_18
set_option maxRecDepth 20000 in
theorem gX4_empty (E : EV) (d : Nat) (b0 : Nat) (x1 : Int32) (I : Mem) (hb0 : isH b0) {J : Mem} (hf : fX4_empty b0 x1 I = some J) : Gm E (d + 1) kX4_empty [.ref b0, .int x1] I (none, J) := by
  refine Gm.of (by decide) rfl (Nat.le_of_ble_eq_true rfl) ?_
  generalize hrr : ((none, J) : Option Value × Mem) = rr
  show G E (d + 1) kX4_empty 0 [some (.ref b0), some (.int x1)] [] I rr
  have hK : (fun (z : Mem) => ((none : Option Value), z) = rr) J := hrr
  clear hrr
  unfold fX4_empty at hf
  refine G.aload_n dX4_empty_0 rfl rfl ?_
  refine G.iload_n dX4_empty_1 rfl rfl ?_
  refine G.putI dX4_empty_2 flX4_9 (isH_lt hb0) (isH_lk hb0) ?_
  refine G.nmI (fun I_1 e_I_1 => ?_)
  have hf := letb_at hf e_I_1
  clear e_I_1
  refine G.aload_n dX4_empty_5 rfl rfl ?_
  refine G.iconst (v := 0) dX4_empty_6 (by decide) ?_
  refine G.putI dX4_empty_7 flX4_43 (isH_lt hb0) (isH_lk hb0) ?_
  refine G.nmI (fun I_2 e_I_2 => ?_)
  have hf := letb_at hf e_I_2
  clear e_I_2
  refine G.aload_n dX4_empty_10 rfl rfl ?_
  refine G.iconst (v := 0) dX4_empty_11 (by decide) ?_
  refine G.putI dX4_empty_12 flX4_46 (isH_lt hb0) (isH_lk hb0) ?_
  refine G.nmI (fun I_3 e_I_3 => ?_)
  have hf := letb_at hf e_I_3
  clear e_I_3
  refine G.aload_n dX4_empty_15 rfl rfl ?_
  refine G.iconst (v := 0) dX4_empty_16 (by decide) ?_
  refine G.putI dX4_empty_17 flX4_49 (isH_lt hb0) (isH_lk hb0) ?_
  refine G.nmI (fun I_4 e_I_4 => ?_)
  have hf := letb_at hf e_I_4
  clear e_I_4
  refine G.aload_n dX4_empty_20 rfl rfl ?_
  refine G.iconst (v := 0) dX4_empty_21 (by decide) ?_
  refine G.putI dX4_empty_22 flX4_52 (isH_lt hb0) (isH_lk hb0) ?_
  refine G.nmI (fun I_5 e_I_5 => ?_)
  have hf := letb_at hf e_I_5
  clear e_I_5
  refine G.aload_n dX4_empty_25 rfl rfl ?_
  refine G.iconst (v := 0) dX4_empty_26 (by decide) ?_
  refine G.putI dX4_empty_27 flX4_55 (isH_lt hb0) (isH_lk hb0) ?_
  refine G.nmI (fun I_6 e_I_6 => ?_)
  have hf := letb_at hf e_I_6
  clear e_I_6
  refine G.aload_n dX4_empty_30 rfl rfl ?_
  refine G.iconst (v := 0) dX4_empty_31 (by decide) ?_
  refine G.putI dX4_empty_32 flX4_58 (isH_lt hb0) (isH_lk hb0) ?_
  refine G.nmI (fun I_7 e_I_7 => ?_)
  have hf := letb_at hf e_I_7
  clear e_I_7
  refine G.aload_n dX4_empty_35 rfl rfl ?_
  refine G.iconst (v := 0) dX4_empty_36 (by decide) ?_
  refine G.putI dX4_empty_37 flX4_61 (isH_lt hb0) (isH_lk hb0) ?_
  refine G.nmI (fun I_8 e_I_8 => ?_)
  have hf := letb_at hf e_I_8
  clear e_I_8
  refine G.aload_n dX4_empty_40 rfl rfl ?_
  refine G.getR (q := (b0 + 1)) dX4_empty_41 flX4_15 (isH_lt hb0) (isH_lk hb0) (isH_r1 hb0) ?_
  refine G.iconst (v := 0) dX4_empty_44 (by decide) ?_
  obtain ⟨I_10, hc_9, hf⟩ := bnd_at hf
  refine G.callSv (av := [.ref (b0 + 1), .int (0 : Int32)]) (rest := []) dX4_empty_45 msX4_37 (gJ7_fill_53178 E d (b0 + 1) (0 : Int32) I_8 (isH_a1 hb0) hc_9) rfl rfl (Nat.le_of_ble_eq_true rfl) ?_
  refine G.aload_n dX4_empty_48 rfl rfl ?_
  refine G.getR (q := (b0 + 2)) dX4_empty_49 flX4_19 (isH_lt hb0) (isH_lk hb0) (isH_r2 hb0) ?_
  refine G.iconst (v := 0) dX4_empty_52 (by decide) ?_
  obtain ⟨I_12, hc_11, hf⟩ := bnd_at hf
  refine G.callSv (av := [.ref (b0 + 2), .int (0 : Int32)]) (rest := []) dX4_empty_53 msX4_37 (gJ7_fill_53178 E d (b0 + 2) (0 : Int32) I_10 (isH_a2 hb0) hc_11) rfl rfl (Nat.le_of_ble_eq_true rfl) ?_
  refine G.aload_n dX4_empty_56 rfl rfl ?_
  refine G.getR (q := (b0 + 3)) dX4_empty_57 flX4_22 (isH_lt hb0) (isH_lk hb0) (isH_r3 hb0) ?_
  refine G.iconst (v := 0) dX4_empty_60 (by decide) ?_
  obtain ⟨I_14, hc_13, hf⟩ := bnd_at hf
  refine G.callSv (av := [.ref (b0 + 3), .int (0 : Int32)]) (rest := []) dX4_empty_61 msX4_37 (gJ7_fill_53178 E d (b0 + 3) (0 : Int32) I_12 (isH_a3 hb0) hc_13) rfl rfl (Nat.le_of_ble_eq_true rfl) ?_
  refine G.aload_n dX4_empty_64 rfl rfl ?_
  refine G.getR (q := (b0 + 4)) dX4_empty_65 flX4_25 (isH_lt hb0) (isH_lk hb0) (isH_r4 hb0) ?_
  refine G.iconst (v := 0) dX4_empty_68 (by decide) ?_
  obtain ⟨I_16, hc_15, hf⟩ := bnd_at hf
  refine G.callSv (av := [.ref (b0 + 4), .int (0 : Int32)]) (rest := []) dX4_empty_69 msX4_37 (gJ7_fill_53178 E d (b0 + 4) (0 : Int32) I_14 (isH_a4 hb0) hc_15) rfl rfl (Nat.le_of_ble_eq_true rfl) ?_
  refine G.aload_n dX4_empty_72 rfl rfl ?_
  refine G.getR (q := (b0 + 5)) dX4_empty_73 flX4_28 (isH_lt hb0) (isH_lk hb0) (isH_r5 hb0) ?_
  refine G.iconst (v := -1) dX4_empty_76 (by decide) ?_
  obtain ⟨I_18, hc_17, hf⟩ := bnd_at hf
  refine G.callSv (av := [.ref (b0 + 5), .int (-1 : Int32)]) (rest := []) dX4_empty_77 msX4_37 (gJ7_fill_53178 E d (b0 + 5) (-1 : Int32) I_16 (isH_a5 hb0) hc_17) rfl rfl (Nat.le_of_ble_eq_true rfl) ?_
  cases hf
  exact G.vret' dX4_empty_80 rfl hK
theorem dX4_copy_0 : decode cX4_copy 0 = .ok (.aload_n 0, 1) := by decide +kernel
theorem dX4_copy_1 : decode cX4_copy 1 = .ok (.aload_n 1, 1) := by decide +kernel
theorem dX4_copy_2 : decode cX4_copy 2 = .ok (.getfield 9, 3) := by decide +kernel
theorem dX4_copy_5 : decode cX4_copy 5 = .ok (.putfield 9, 3) := by decide +kernel
theorem dX4_copy_8 : decode cX4_copy 8 = .ok (.aload_n 0, 1) := by decide +kernel
theorem dX4_copy_9 : decode cX4_copy 9 = .ok (.aload_n 1, 1) := by decide +kernel
theorem dX4_copy_10 : decode cX4_copy 10 = .ok (.getfield 43, 3) := by decide +kernel
theorem dX4_copy_13 : decode cX4_copy 13 = .ok (.putfield 43, 3) := by decide +kernel
theorem dX4_copy_16 : decode cX4_copy 16 = .ok (.aload_n 0, 1) := by decide +kernel
theorem dX4_copy_17 : decode cX4_copy 17 = .ok (.aload_n 1, 1) := by decide +kernel
theorem dX4_copy_18 : decode cX4_copy 18 = .ok (.getfield 46, 3) := by decide +kernel
theorem dX4_copy_21 : decode cX4_copy 21 = .ok (.putfield 46, 3) := by decide +kernel
theorem dX4_copy_24 : decode cX4_copy 24 = .ok (.aload_n 0, 1) := by decide +kernel
theorem dX4_copy_25 : decode cX4_copy 25 = .ok (.aload_n 1, 1) := by decide +kernel
theorem dX4_copy_26 : decode cX4_copy 26 = .ok (.getfield 49, 3) := by decide +kernel
theorem dX4_copy_29 : decode cX4_copy 29 = .ok (.putfield 49, 3) := by decide +kernel
theorem dX4_copy_32 : decode cX4_copy 32 = .ok (.aload_n 0, 1) := by decide +kernel
theorem dX4_copy_33 : decode cX4_copy 33 = .ok (.aload_n 1, 1) := by decide +kernel
theorem dX4_copy_34 : decode cX4_copy 34 = .ok (.getfield 52, 3) := by decide +kernel
theorem dX4_copy_37 : decode cX4_copy 37 = .ok (.putfield 52, 3) := by decide +kernel
theorem dX4_copy_40 : decode cX4_copy 40 = .ok (.aload_n 0, 1) := by decide +kernel
theorem dX4_copy_41 : decode cX4_copy 41 = .ok (.aload_n 1, 1) := by decide +kernel
theorem dX4_copy_42 : decode cX4_copy 42 = .ok (.getfield 55, 3) := by decide +kernel
theorem dX4_copy_45 : decode cX4_copy 45 = .ok (.putfield 55, 3) := by decide +kernel
theorem dX4_copy_48 : decode cX4_copy 48 = .ok (.aload_n 0, 1) := by decide +kernel
theorem dX4_copy_49 : decode cX4_copy 49 = .ok (.aload_n 1, 1) := by decide +kernel
theorem dX4_copy_50 : decode cX4_copy 50 = .ok (.getfield 58, 3) := by decide +kernel
theorem dX4_copy_53 : decode cX4_copy 53 = .ok (.putfield 58, 3) := by decide +kernel
theorem dX4_copy_56 : decode cX4_copy 56 = .ok (.aload_n 0, 1) := by decide +kernel
theorem dX4_copy_57 : decode cX4_copy 57 = .ok (.aload_n 1, 1) := by decide +kernel
theorem dX4_copy_58 : decode cX4_copy 58 = .ok (.getfield 61, 3) := by decide +kernel
theorem dX4_copy_61 : decode cX4_copy 61 = .ok (.putfield 61, 3) := by decide +kernel
theorem dX4_copy_64 : decode cX4_copy 64 = .ok (.aload_n 1, 1) := by decide +kernel
theorem dX4_copy_65 : decode cX4_copy 65 = .ok (.getfield 15, 3) := by decide +kernel
theorem dX4_copy_68 : decode cX4_copy 68 = .ok (.iconst 0, 1) := by decide +kernel
theorem dX4_copy_69 : decode cX4_copy 69 = .ok (.aload_n 0, 1) := by decide +kernel
theorem dX4_copy_70 : decode cX4_copy 70 = .ok (.getfield 15, 3) := by decide +kernel
theorem dX4_copy_73 : decode cX4_copy 73 = .ok (.iconst 0, 1) := by decide +kernel
theorem dX4_copy_74 : decode cX4_copy 74 = .ok (.iconst 5, 1) := by decide +kernel
theorem dX4_copy_75 : decode cX4_copy 75 = .ok (.invokestatic 64, 3) := by decide +kernel
theorem dX4_copy_78 : decode cX4_copy 78 = .ok (.aload_n 1, 1) := by decide +kernel
theorem dX4_copy_79 : decode cX4_copy 79 = .ok (.getfield 19, 3) := by decide +kernel
theorem dX4_copy_82 : decode cX4_copy 82 = .ok (.iconst 0, 1) := by decide +kernel
theorem dX4_copy_83 : decode cX4_copy 83 = .ok (.aload_n 0, 1) := by decide +kernel
theorem dX4_copy_84 : decode cX4_copy 84 = .ok (.getfield 19, 3) := by decide +kernel
theorem dX4_copy_87 : decode cX4_copy 87 = .ok (.iconst 0, 1) := by decide +kernel
theorem dX4_copy_88 : decode cX4_copy 88 = .ok (.iconst 5, 1) := by decide +kernel
theorem dX4_copy_89 : decode cX4_copy 89 = .ok (.invokestatic 64, 3) := by decide +kernel
theorem dX4_copy_92 : decode cX4_copy 92 = .ok (.aload_n 1, 1) := by decide +kernel
theorem dX4_copy_93 : decode cX4_copy 93 = .ok (.getfield 22, 3) := by decide +kernel
theorem dX4_copy_96 : decode cX4_copy 96 = .ok (.iconst 0, 1) := by decide +kernel
theorem dX4_copy_97 : decode cX4_copy 97 = .ok (.aload_n 0, 1) := by decide +kernel
theorem dX4_copy_98 : decode cX4_copy 98 = .ok (.getfield 22, 3) := by decide +kernel
theorem dX4_copy_101 : decode cX4_copy 101 = .ok (.iconst 0, 1) := by decide +kernel
theorem dX4_copy_102 : decode cX4_copy 102 = .ok (.iconst 5, 1) := by decide +kernel
theorem dX4_copy_103 : decode cX4_copy 103 = .ok (.invokestatic 64, 3) := by decide +kernel
theorem dX4_copy_106 : decode cX4_copy 106 = .ok (.aload_n 1, 1) := by decide +kernel
theorem dX4_copy_107 : decode cX4_copy 107 = .ok (.getfield 25, 3) := by decide +kernel
theorem dX4_copy_110 : decode cX4_copy 110 = .ok (.iconst 0, 1) := by decide +kernel
theorem dX4_copy_111 : decode cX4_copy 111 = .ok (.aload_n 0, 1) := by decide +kernel
theorem dX4_copy_112 : decode cX4_copy 112 = .ok (.getfield 25, 3) := by decide +kernel
theorem dX4_copy_115 : decode cX4_copy 115 = .ok (.iconst 0, 1) := by decide +kernel
theorem dX4_copy_116 : decode cX4_copy 116 = .ok (.iconst 4, 1) := by decide +kernel
theorem dX4_copy_117 : decode cX4_copy 117 = .ok (.invokestatic 64, 3) := by decide +kernel
theorem dX4_copy_120 : decode cX4_copy 120 = .ok (.aload_n 1, 1) := by decide +kernel
theorem dX4_copy_121 : decode cX4_copy 121 = .ok (.getfield 28, 3) := by decide +kernel
theorem dX4_copy_124 : decode cX4_copy 124 = .ok (.iconst 0, 1) := by decide +kernel
theorem dX4_copy_125 : decode cX4_copy 125 = .ok (.aload_n 0, 1) := by decide +kernel
theorem dX4_copy_126 : decode cX4_copy 126 = .ok (.getfield 28, 3) := by decide +kernel
theorem dX4_copy_129 : decode cX4_copy 129 = .ok (.iconst 0, 1) := by decide +kernel
theorem dX4_copy_130 : decode cX4_copy 130 = .ok (.bipush 16, 2) := by decide +kernel
theorem dX4_copy_132 : decode cX4_copy 132 = .ok (.invokestatic 64, 3) := by decide +kernel
theorem dX4_copy_135 : decode cX4_copy 135 = .ok (.aload_n 1, 1) := by decide +kernel
theorem dX4_copy_136 : decode cX4_copy 136 = .ok (.getfield 31, 3) := by decide +kernel
theorem dX4_copy_139 : decode cX4_copy 139 = .ok (.iconst 0, 1) := by decide +kernel
theorem dX4_copy_140 : decode cX4_copy 140 = .ok (.aload_n 0, 1) := by decide +kernel
theorem dX4_copy_141 : decode cX4_copy 141 = .ok (.getfield 31, 3) := by decide +kernel
theorem dX4_copy_144 : decode cX4_copy 144 = .ok (.iconst 0, 1) := by decide +kernel
theorem dX4_copy_145 : decode cX4_copy 145 = .ok (.bipush 8, 2) := by decide +kernel
theorem dX4_copy_147 : decode cX4_copy 147 = .ok (.invokestatic 64, 3) := by decide +kernel
theorem dX4_copy_150 : decode cX4_copy 150 = .ok (.aload_n 1, 1) := by decide +kernel
theorem dX4_copy_151 : decode cX4_copy 151 = .ok (.getfield 34, 3) := by decide +kernel
theorem dX4_copy_154 : decode cX4_copy 154 = .ok (.iconst 0, 1) := by decide +kernel
theorem dX4_copy_155 : decode cX4_copy 155 = .ok (.aload_n 0, 1) := by decide +kernel
theorem dX4_copy_156 : decode cX4_copy 156 = .ok (.getfield 34, 3) := by decide +kernel
theorem dX4_copy_159 : decode cX4_copy 159 = .ok (.iconst 0, 1) := by decide +kernel
theorem dX4_copy_160 : decode cX4_copy 160 = .ok (.bipush 80, 2) := by decide +kernel
theorem dX4_copy_162 : decode cX4_copy 162 = .ok (.invokestatic 64, 3) := by decide +kernel
theorem dX4_copy_165 : decode cX4_copy 165 = .ok (.return_, 1) := by decide +kernel
def fX4_copy (b0 : Nat) (b1 : Nat) (I : Mem) : Option Mem :=
  letb (up2 I b0 0 (I b1 0)) fun I_1 =>
  letb (up2 I_1 b0 1 (I_1 b1 1)) fun I_2 =>
  letb (up2 I_2 b0 2 (I_2 b1 2)) fun I_3 =>
  letb (up2 I_3 b0 3 (I_3 b1 3)) fun I_4 =>
  letb (up2 I_4 b0 4 (I_4 b1 4)) fun I_5 =>
  letb (up2 I_5 b0 5 (I_5 b1 5)) fun I_6 =>
  letb (up2 I_6 b0 6 (I_6 b1 6)) fun I_7 =>
  letb (up2 I_7 b0 7 (I_7 b1 7)) fun I_8 =>
  chk (cpok (0 : Int32) (0 : Int32) (5 : Int32) 5 5) <|
  letb (upA I_8 (b0 + 1) (cpA (I_8 (b1 + 1)) (I_8 (b0 + 1)) (ix (0 : Int32)) (ix (0 : Int32)) (ix (5 : Int32)))) fun I_10 =>
  chk (cpok (0 : Int32) (0 : Int32) (5 : Int32) 5 5) <|
  letb (upA I_10 (b0 + 2) (cpA (I_10 (b1 + 2)) (I_10 (b0 + 2)) (ix (0 : Int32)) (ix (0 : Int32)) (ix (5 : Int32)))) fun I_12 =>
  chk (cpok (0 : Int32) (0 : Int32) (5 : Int32) 5 5) <|
  letb (upA I_12 (b0 + 3) (cpA (I_12 (b1 + 3)) (I_12 (b0 + 3)) (ix (0 : Int32)) (ix (0 : Int32)) (ix (5 : Int32)))) fun I_14 =>
  chk (cpok (0 : Int32) (0 : Int32) (4 : Int32) 4 4) <|
  letb (upA I_14 (b0 + 4) (cpA (I_14 (b1 + 4)) (I_14 (b0 + 4)) (ix (0 : Int32)) (ix (0 : Int32)) (ix (4 : Int32)))) fun I_16 =>
  chk (cpok (0 : Int32) (0 : Int32) (16 : Int32) 16 16) <|
  letb (upA I_16 (b0 + 5) (cpA (I_16 (b1 + 5)) (I_16 (b0 + 5)) (ix (0 : Int32)) (ix (0 : Int32)) (ix (16 : Int32)))) fun I_18 =>
  chk (cpok (0 : Int32) (0 : Int32) (8 : Int32) 8 8) <|
  letb (upA I_18 (b0 + 6) (cpA (I_18 (b1 + 6)) (I_18 (b0 + 6)) (ix (0 : Int32)) (ix (0 : Int32)) (ix (8 : Int32)))) fun I_20 =>
  chk (cpok (0 : Int32) (0 : Int32) (80 : Int32) 80 80) <|
  letb (upA I_20 (b0 + 7) (cpA (I_20 (b1 + 7)) (I_20 (b0 + 7)) (ix (0 : Int32)) (ix (0 : Int32)) (ix (80 : Int32)))) fun I_22 =>
  some I_22
set_option maxRecDepth 20000 in
theorem gX4_copy (E : EV) (d : Nat) (b0 : Nat) (b1 : Nat) (I : Mem) (hb0 : isH b0) (hb1 : isH b1) {J : Mem} (hf : fX4_copy b0 b1 I = some J) : Gm E (d + 1) kX4_copy [.ref b0, .ref b1] I (none, J) := by
  refine Gm.of (by decide) rfl (Nat.le_of_ble_eq_true rfl) ?_
  generalize hrr : ((none, J) : Option Value × Mem) = rr
  show G E (d + 1) kX4_copy 0 [some (.ref b0), some (.ref b1)] [] I rr
  have hK : (fun (z : Mem) => ((none : Option Value), z) = rr) J := hrr
  clear hrr
  unfold fX4_copy at hf
  refine G.aload_n dX4_copy_0 rfl rfl ?_
  refine G.aload_n dX4_copy_1 rfl rfl ?_
  refine G.getI dX4_copy_2 flX4_9 (isH_lt hb1) (isH_lk hb1) ?_
  refine G.putI dX4_copy_5 flX4_9 (isH_lt hb0) (isH_lk hb0) ?_
  refine G.nmI (fun I_1 e_I_1 => ?_)
  have hf := letb_at hf e_I_1
  clear e_I_1
  refine G.aload_n dX4_copy_8 rfl rfl ?_
  refine G.aload_n dX4_copy_9 rfl rfl ?_
  refine G.getI dX4_copy_10 flX4_43 (isH_lt hb1) (isH_lk hb1) ?_
  refine G.putI dX4_copy_13 flX4_43 (isH_lt hb0) (isH_lk hb0) ?_
  refine G.nmI (fun I_2 e_I_2 => ?_)
  have hf := letb_at hf e_I_2
  clear e_I_2
  refine G.aload_n dX4_copy_16 rfl rfl ?_
  refine G.aload_n dX4_copy_17 rfl rfl ?_
  refine G.getI dX4_copy_18 flX4_46 (isH_lt hb1) (isH_lk hb1) ?_
  refine G.putI dX4_copy_21 flX4_46 (isH_lt hb0) (isH_lk hb0) ?_
  refine G.nmI (fun I_3 e_I_3 => ?_)
  have hf := letb_at hf e_I_3
  clear e_I_3
  refine G.aload_n dX4_copy_24 rfl rfl ?_
  refine G.aload_n dX4_copy_25 rfl rfl ?_
  refine G.getI dX4_copy_26 flX4_49 (isH_lt hb1) (isH_lk hb1) ?_
  refine G.putI dX4_copy_29 flX4_49 (isH_lt hb0) (isH_lk hb0) ?_
  refine G.nmI (fun I_4 e_I_4 => ?_)
  have hf := letb_at hf e_I_4
  clear e_I_4
  refine G.aload_n dX4_copy_32 rfl rfl ?_
  refine G.aload_n dX4_copy_33 rfl rfl ?_
  refine G.getI dX4_copy_34 flX4_52 (isH_lt hb1) (isH_lk hb1) ?_
  refine G.putI dX4_copy_37 flX4_52 (isH_lt hb0) (isH_lk hb0) ?_
  refine G.nmI (fun I_5 e_I_5 => ?_)
  have hf := letb_at hf e_I_5
  clear e_I_5
  refine G.aload_n dX4_copy_40 rfl rfl ?_
  refine G.aload_n dX4_copy_41 rfl rfl ?_
  refine G.getI dX4_copy_42 flX4_55 (isH_lt hb1) (isH_lk hb1) ?_
  refine G.putI dX4_copy_45 flX4_55 (isH_lt hb0) (isH_lk hb0) ?_
  refine G.nmI (fun I_6 e_I_6 => ?_)
  have hf := letb_at hf e_I_6
  clear e_I_6
  refine G.aload_n dX4_copy_48 rfl rfl ?_
  refine G.aload_n dX4_copy_49 rfl rfl ?_
  refine G.getI dX4_copy_50 flX4_58 (isH_lt hb1) (isH_lk hb1) ?_
  refine G.putI dX4_copy_53 flX4_58 (isH_lt hb0) (isH_lk hb0) ?_
  refine G.nmI (fun I_7 e_I_7 => ?_)
  have hf := letb_at hf e_I_7
  clear e_I_7
  refine G.aload_n dX4_copy_56 rfl rfl ?_
  refine G.aload_n dX4_copy_57 rfl rfl ?_
  refine G.getI dX4_copy_58 flX4_61 (isH_lt hb1) (isH_lk hb1) ?_
  refine G.putI dX4_copy_61 flX4_61 (isH_lt hb0) (isH_lk hb0) ?_
  refine G.nmI (fun I_8 e_I_8 => ?_)
  have hf := letb_at hf e_I_8
  clear e_I_8
  refine G.aload_n dX4_copy_64 rfl rfl ?_
  refine G.getR (q := (b1 + 1)) dX4_copy_65 flX4_15 (isH_lt hb1) (isH_lk hb1) (isH_r1 hb1) ?_
  refine G.iconst (v := 0) dX4_copy_68 (by decide) ?_
  refine G.aload_n dX4_copy_69 rfl rfl ?_
  refine G.getR (q := (b0 + 1)) dX4_copy_70 flX4_15 (isH_lt hb0) (isH_lk hb0) (isH_r1 hb0) ?_
  refine G.iconst (v := 0) dX4_copy_73 (by decide) ?_
  refine G.iconst (v := 5) dX4_copy_74 (by decide) ?_
  obtain ⟨hi_9, hf⟩ := chk_at hf
  refine G.acopy' (rest := []) dX4_copy_75 maX4_64 (isH_l1 hb1) (isH_k1 hb1) (isH_n1 hb1) (isH_l1 hb0) (isH_k1 hb0) (isH_n1 hb0) hi_9 (Nat.le_of_ble_eq_true rfl) ?_
  refine G.nmI (fun I_10 e_I_10 => ?_)
  have hf := letb_at hf e_I_10
  clear e_I_10
  refine G.aload_n dX4_copy_78 rfl rfl ?_
  refine G.getR (q := (b1 + 2)) dX4_copy_79 flX4_19 (isH_lt hb1) (isH_lk hb1) (isH_r2 hb1) ?_
  refine G.iconst (v := 0) dX4_copy_82 (by decide) ?_
  refine G.aload_n dX4_copy_83 rfl rfl ?_
  refine G.getR (q := (b0 + 2)) dX4_copy_84 flX4_19 (isH_lt hb0) (isH_lk hb0) (isH_r2 hb0) ?_
  refine G.iconst (v := 0) dX4_copy_87 (by decide) ?_
  refine G.iconst (v := 5) dX4_copy_88 (by decide) ?_
  obtain ⟨hi_11, hf⟩ := chk_at hf
  refine G.acopy' (rest := []) dX4_copy_89 maX4_64 (isH_l2 hb1) (isH_k2 hb1) (isH_n2 hb1) (isH_l2 hb0) (isH_k2 hb0) (isH_n2 hb0) hi_11 (Nat.le_of_ble_eq_true rfl) ?_
  refine G.nmI (fun I_12 e_I_12 => ?_)
  have hf := letb_at hf e_I_12
  clear e_I_12
  refine G.aload_n dX4_copy_92 rfl rfl ?_
  refine G.getR (q := (b1 + 3)) dX4_copy_93 flX4_22 (isH_lt hb1) (isH_lk hb1) (isH_r3 hb1) ?_
  refine G.iconst (v := 0) dX4_copy_96 (by decide) ?_
  refine G.aload_n dX4_copy_97 rfl rfl ?_
  refine G.getR (q := (b0 + 3)) dX4_copy_98 flX4_22 (isH_lt hb0) (isH_lk hb0) (isH_r3 hb0) ?_
  refine G.iconst (v := 0) dX4_copy_101 (by decide) ?_
  refine G.iconst (v := 5) dX4_copy_102 (by decide) ?_
  obtain ⟨hi_13, hf⟩ := chk_at hf
  refine G.acopy' (rest := []) dX4_copy_103 maX4_64 (isH_l3 hb1) (isH_k3 hb1) (isH_n3 hb1) (isH_l3 hb0) (isH_k3 hb0) (isH_n3 hb0) hi_13 (Nat.le_of_ble_eq_true rfl) ?_
  refine G.nmI (fun I_14 e_I_14 => ?_)
  have hf := letb_at hf e_I_14
  clear e_I_14
  refine G.aload_n dX4_copy_106 rfl rfl ?_
  refine G.getR (q := (b1 + 4)) dX4_copy_107 flX4_25 (isH_lt hb1) (isH_lk hb1) (isH_r4 hb1) ?_
  refine G.iconst (v := 0) dX4_copy_110 (by decide) ?_
  refine G.aload_n dX4_copy_111 rfl rfl ?_
  refine G.getR (q := (b0 + 4)) dX4_copy_112 flX4_25 (isH_lt hb0) (isH_lk hb0) (isH_r4 hb0) ?_
  refine G.iconst (v := 0) dX4_copy_115 (by decide) ?_
  refine G.iconst (v := 4) dX4_copy_116 (by decide) ?_
  obtain ⟨hi_15, hf⟩ := chk_at hf
  refine G.acopy' (rest := []) dX4_copy_117 maX4_64 (isH_l4 hb1) (isH_k4 hb1) (isH_n4 hb1) (isH_l4 hb0) (isH_k4 hb0) (isH_n4 hb0) hi_15 (Nat.le_of_ble_eq_true rfl) ?_
  refine G.nmI (fun I_16 e_I_16 => ?_)
  have hf := letb_at hf e_I_16
  clear e_I_16
  refine G.aload_n dX4_copy_120 rfl rfl ?_
  refine G.getR (q := (b1 + 5)) dX4_copy_121 flX4_28 (isH_lt hb1) (isH_lk hb1) (isH_r5 hb1) ?_
  refine G.iconst (v := 0) dX4_copy_124 (by decide) ?_
  refine G.aload_n dX4_copy_125 rfl rfl ?_
  refine G.getR (q := (b0 + 5)) dX4_copy_126 flX4_28 (isH_lt hb0) (isH_lk hb0) (isH_r5 hb0) ?_
  refine G.iconst (v := 0) dX4_copy_129 (by decide) ?_
  refine G.bipush (v := 16) dX4_copy_130 (by decide) ?_
  obtain ⟨hi_17, hf⟩ := chk_at hf
  refine G.acopy' (rest := []) dX4_copy_132 maX4_64 (isH_l5 hb1) (isH_k5 hb1) (isH_n5 hb1) (isH_l5 hb0) (isH_k5 hb0) (isH_n5 hb0) hi_17 (Nat.le_of_ble_eq_true rfl) ?_
  refine G.nmI (fun I_18 e_I_18 => ?_)
  have hf := letb_at hf e_I_18
  clear e_I_18
  refine G.aload_n dX4_copy_135 rfl rfl ?_
  refine G.getR (q := (b1 + 6)) dX4_copy_136 flX4_31 (isH_lt hb1) (isH_lk hb1) (isH_r6 hb1) ?_
  refine G.iconst (v := 0) dX4_copy_139 (by decide) ?_
  refine G.aload_n dX4_copy_140 rfl rfl ?_
  refine G.getR (q := (b0 + 6)) dX4_copy_141 flX4_31 (isH_lt hb0) (isH_lk hb0) (isH_r6 hb0) ?_
  refine G.iconst (v := 0) dX4_copy_144 (by decide) ?_
  refine G.bipush (v := 8) dX4_copy_145 (by decide) ?_
  obtain ⟨hi_19, hf⟩ := chk_at hf
  refine G.acopy' (rest := []) dX4_copy_147 maX4_64 (isH_l6 hb1) (isH_k6 hb1) (isH_n6 hb1) (isH_l6 hb0) (isH_k6 hb0) (isH_n6 hb0) hi_19 (Nat.le_of_ble_eq_true rfl) ?_
  refine G.nmI (fun I_20 e_I_20 => ?_)
  have hf := letb_at hf e_I_20
  clear e_I_20
  refine G.aload_n dX4_copy_150 rfl rfl ?_
  refine G.getR (q := (b1 + 7)) dX4_copy_151 flX4_34 (isH_lt hb1) (isH_lk hb1) (isH_r7 hb1) ?_
  refine G.iconst (v := 0) dX4_copy_154 (by decide) ?_
  refine G.aload_n dX4_copy_155 rfl rfl ?_
  refine G.getR (q := (b0 + 7)) dX4_copy_156 flX4_34 (isH_lt hb0) (isH_lk hb0) (isH_r7 hb0) ?_
  refine G.iconst (v := 0) dX4_copy_159 (by decide) ?_
  refine G.bipush (v := 80) dX4_copy_160 (by decide) ?_
  obtain ⟨hi_21, hf⟩ := chk_at hf
  refine G.acopy' (rest := []) dX4_copy_162 maX4_64 (isH_l7 hb1) (isH_k7 hb1) (isH_n7 hb1) (isH_l7 hb0) (isH_k7 hb0) (isH_n7 hb0) hi_21 (Nat.le_of_ble_eq_true rfl) ?_
  refine G.nmI (fun I_22 e_I_22 => ?_)
  have hf := letb_at hf e_I_22
  clear e_I_22
  cases hf
  exact G.vret' dX4_copy_165 rfl hK
theorem dX4_enter_0 : decode cX4_enter 0 = .ok (.aload_n 0, 1) := by decide +kernel
theorem dX4_enter_1 : decode cX4_enter 1 = .ok (.dup, 1) := by decide +kernel
theorem dX4_enter_2 : decode cX4_enter 2 = .ok (.getfield 49, 3) := by decide +kernel
theorem dX4_enter_5 : decode cX4_enter 5 = .ok (.iload_n 1, 1) := by decide +kernel
theorem dX4_enter_6 : decode cX4_enter 6 = .ok (.iconst 3, 1) := by decide +kernel
theorem dX4_enter_7 : decode cX4_enter 7 = .ok (.aload_n 0, 1) := by decide +kernel
theorem dX4_enter_8 : decode cX4_enter 8 = .ok (.getfield 46, 3) := by decide +kernel
theorem dX4_enter_11 : decode cX4_enter 11 = .ok (.imul, 1) := by decide +kernel
theorem dX4_enter_12 : decode cX4_enter 12 = .ok (.ishl, 1) := by decide +kernel
theorem dX4_enter_13 : decode cX4_enter 13 = .ok (.ior, 1) := by decide +kernel
theorem dX4_enter_14 : decode cX4_enter 14 = .ok (.putfield 49, 3) := by decide +kernel
theorem dX4_enter_17 : decode cX4_enter 17 = .ok (.aload_n 0, 1) := by decide +kernel
theorem dX4_enter_18 : decode cX4_enter 18 = .ok (.dup, 1) := by decide +kernel
theorem dX4_enter_19 : decode cX4_enter 19 = .ok (.getfield 46, 3) := by decide +kernel
theorem dX4_enter_22 : decode cX4_enter 22 = .ok (.iconst 1, 1) := by decide +kernel
theorem dX4_enter_23 : decode cX4_enter 23 = .ok (.iadd, 1) := by decide +kernel
theorem dX4_enter_24 : decode cX4_enter 24 = .ok (.putfield 46, 3) := by decide +kernel
theorem dX4_enter_27 : decode cX4_enter 27 = .ok (.aload_n 0, 1) := by decide +kernel
theorem dX4_enter_28 : decode cX4_enter 28 = .ok (.iconst 0, 1) := by decide +kernel
theorem dX4_enter_29 : decode cX4_enter 29 = .ok (.putfield 61, 3) := by decide +kernel
theorem dX4_enter_32 : decode cX4_enter 32 = .ok (.return_, 1) := by decide +kernel
def fX4_enter (b0 : Nat) (x1 : Int32) (I : Mem) : Option Mem :=
  letb (up2 I b0 3 ((I b0 3) ||| (x1 <<< (((3 : Int32) * (I b0 2)) &&& 31)))) fun I_1 =>
  letb (up2 I_1 b0 2 ((I_1 b0 2) + (1 : Int32))) fun I_2 =>
  letb (up2 I_2 b0 7 (0 : Int32)) fun I_3 =>
  some I_3
set_option maxRecDepth 20000 in
theorem gX4_enter (E : EV) (d : Nat) (b0 : Nat) (x1 : Int32) (I : Mem) (hb0 : isH b0) {J : Mem} (hf : fX4_enter b0 x1 I = some J) : Gm E (d + 0) kX4_enter [.ref b0, .int x1] I (none, J) := by
  refine Gm.of (by decide) rfl (Nat.le_of_ble_eq_true rfl) ?_
  generalize hrr : ((none, J) : Option Value × Mem) = rr
  show G E (d + 0) kX4_enter 0 [some (.ref b0), some (.int x1)] [] I rr
  have hK : (fun (z : Mem) => ((none : Option Value), z) = rr) J := hrr
  clear hrr
  unfold fX4_enter at hf
  refine G.aload_n dX4_enter_0 rfl rfl ?_
  refine G.dup dX4_enter_1 rfl ?_
  refine G.getI dX4_enter_2 flX4_49 (isH_lt hb0) (isH_lk hb0) ?_
  refine G.iload_n dX4_enter_5 rfl rfl ?_
  refine G.iconst (v := 3) dX4_enter_6 (by decide) ?_
  refine G.aload_n dX4_enter_7 rfl rfl ?_
  refine G.getI dX4_enter_8 flX4_46 (isH_lt hb0) (isH_lk hb0) ?_
  refine G.imul dX4_enter_11 ?_
  refine G.ishl dX4_enter_12 ?_
  refine G.ior dX4_enter_13 ?_
  refine G.putI dX4_enter_14 flX4_49 (isH_lt hb0) (isH_lk hb0) ?_
  refine G.nmI (fun I_1 e_I_1 => ?_)
  have hf := letb_at hf e_I_1
  clear e_I_1
  refine G.aload_n dX4_enter_17 rfl rfl ?_
  refine G.dup dX4_enter_18 rfl ?_
  refine G.getI dX4_enter_19 flX4_46 (isH_lt hb0) (isH_lk hb0) ?_
  refine G.iconst (v := 1) dX4_enter_22 (by decide) ?_
  refine G.iadd dX4_enter_23 ?_
  refine G.putI dX4_enter_24 flX4_46 (isH_lt hb0) (isH_lk hb0) ?_
  refine G.nmI (fun I_2 e_I_2 => ?_)
  have hf := letb_at hf e_I_2
  clear e_I_2
  refine G.aload_n dX4_enter_27 rfl rfl ?_
  refine G.iconst (v := 0) dX4_enter_28 (by decide) ?_
  refine G.putI dX4_enter_29 flX4_61 (isH_lt hb0) (isH_lk hb0) ?_
  refine G.nmI (fun I_3 e_I_3 => ?_)
  have hf := letb_at hf e_I_3
  clear e_I_3
  cases hf
  exact G.vret' dX4_enter_32 rfl hK
theorem dX4_doorCount_0 : decode cX4_doorCount 0 = .ok (.iconst 0, 1) := by decide +kernel
theorem dX4_doorCount_1 : decode cX4_doorCount 1 = .ok (.istore_n 1, 1) := by decide +kernel
theorem dX4_doorCount_2 : decode cX4_doorCount 2 = .ok (.iconst 0, 1) := by decide +kernel
theorem dX4_doorCount_3 : decode cX4_doorCount 3 = .ok (.istore_n 2, 1) := by decide +kernel
theorem dX4_doorCount_4 : decode cX4_doorCount 4 = .ok (.iload_n 2, 1) := by decide +kernel
theorem dX4_doorCount_5 : decode cX4_doorCount 5 = .ok (.aload_n 0, 1) := by decide +kernel
theorem dX4_doorCount_6 : decode cX4_doorCount 6 = .ok (.getfield 9, 3) := by decide +kernel
theorem dX4_doorCount_9 : decode cX4_doorCount 9 = .ok (.if_icmp .ge 21, 3) := by decide +kernel
theorem dX4_doorCount_12 : decode cX4_doorCount 12 = .ok (.iload_n 1, 1) := by decide +kernel
theorem dX4_doorCount_13 : decode cX4_doorCount 13 = .ok (.aload_n 0, 1) := by decide +kernel
theorem dX4_doorCount_14 : decode cX4_doorCount 14 = .ok (.getfield 15, 3) := by decide +kernel
theorem dX4_doorCount_17 : decode cX4_doorCount 17 = .ok (.iload_n 2, 1) := by decide +kernel
theorem dX4_doorCount_18 : decode cX4_doorCount 18 = .ok (.iaload, 1) := by decide +kernel
theorem dX4_doorCount_19 : decode cX4_doorCount 19 = .ok (.invokestatic 70, 3) := by decide +kernel
theorem dX4_doorCount_22 : decode cX4_doorCount 22 = .ok (.iadd, 1) := by decide +kernel
theorem dX4_doorCount_23 : decode cX4_doorCount 23 = .ok (.istore_n 1, 1) := by decide +kernel
theorem dX4_doorCount_24 : decode cX4_doorCount 24 = .ok (.iinc 2 1, 3) := by decide +kernel
theorem dX4_doorCount_27 : decode cX4_doorCount 27 = .ok (.goto (-23), 3) := by decide +kernel
theorem dX4_doorCount_30 : decode cX4_doorCount 30 = .ok (.iload_n 1, 1) := by decide +kernel
theorem dX4_doorCount_31 : decode cX4_doorCount 31 = .ok (.iconst 2, 1) := by decide +kernel
theorem dX4_doorCount_32 : decode cX4_doorCount 32 = .ok (.idiv, 1) := by decide +kernel
theorem dX4_doorCount_33 : decode cX4_doorCount 33 = .ok (.ireturn, 1) := by decide +kernel
def KX4_doorCount_4 (E : EV) (d : Nat) (rr : Option Value × Mem) (b0 : Nat) (I : Mem) (Kp : Int32 → Prop) : ((Int32 × Int32) ⊕ Int32) → Prop
  | .inl q => G E (d + 1) kX4_doorCount 4 [some (.ref b0), some (.int q.1), some (.int q.2)] [] I rr
  | .inr z => Kp z
def bX4_doorCount_4 (b0 : Nat) (I : Mem) (x1 : Int32) (x2 : Int32) : Option ((Int32 × Int32) ⊕ Int32) :=
  if (I b0 0) ≤ x2 then
  (some (.inr (x1 / (2 : Int32))))
  else
  (chk (inb x2 5) <|
  bnd (fJ6_bitCount_0f7a4 (I (b0 + 1) (ix x2)) I) fun v_3 =>
  letb (x1 + v_3) fun x1_4 =>
  some (.inl (x1_4, (x2 + (1 : Int32)))))
def sX4_doorCount_4 (b0 : Nat) (I : Mem) (q : (Int32 × Int32)) : Option ((Int32 × Int32) ⊕ Int32) := bX4_doorCount_4 b0 I q.1 q.2
set_option maxRecDepth 20000 in
theorem wX4_doorCount_4 (E : EV) (d : Nat) (rr : Option Value × Mem) (b0 : Nat) (I : Mem) (x1 : Int32) (x2 : Int32) (hb0 : isH b0) (y : ((Int32 × Int32) ⊕ Int32)) (hf : bX4_doorCount_4 b0 I x1 x2 = some y) (hK : (KX4_doorCount_4 E d rr b0 I (fun (z : Int32) => (some (.int z), I) = rr)) y) : G E (d + 1) kX4_doorCount 4 [some (.ref b0), some (.int x1), some (.int x2)] [] I rr := by
  unfold bX4_doorCount_4 at hf
  refine G.iload_n dX4_doorCount_4 rfl rfl ?_
  refine G.aload_n dX4_doorCount_5 rfl rfl ?_
  refine G.getI dX4_doorCount_6 flX4_9 (isH_lt hb0) (isH_lk hb0) ?_
  refine G.icmp_ge (tgt := 30) dX4_doorCount_9 (by decide) (fun c_5 => ?_) (fun c_5 => ?_)
  · have hf := ite_t hf c_5
    refine G.iload_n dX4_doorCount_30 rfl rfl ?_
    refine G.iconst (v := 2) dX4_doorCount_31 (by decide) ?_
    refine G.idiv dX4_doorCount_32 (by decide) ?_
    cases hf
    exact G.iret' dX4_doorCount_33 rfl hK
  · have hf := ite_f hf c_5
    refine G.iload_n dX4_doorCount_12 rfl rfl ?_
    refine G.aload_n dX4_doorCount_13 rfl rfl ?_
    refine G.getR (q := (b0 + 1)) dX4_doorCount_14 flX4_15 (isH_lt hb0) (isH_lk hb0) (isH_r1 hb0) ?_
    refine G.iload_n dX4_doorCount_17 rfl rfl ?_
    obtain ⟨hi_1, hf⟩ := chk_at hf
    refine G.iald' dX4_doorCount_18 (isH_l1 hb0) (isH_k1 hb0) (isH_n1 hb0) hi_1 ?_
    obtain ⟨v_3, hc_2, hf⟩ := bnd_at hf
    refine G.callSi (av := [.int (I (b0 + 1) (ix x2))]) (rest := [.int x1]) dX4_doorCount_19 msX4_70 (gJ6_bitCount_0f7a4 E d (I (b0 + 1) (ix x2)) I hc_2) rfl rfl (Nat.le_of_ble_eq_true rfl) ?_
    refine G.iadd dX4_doorCount_22 ?_
    refine G.nmi (fun x1_4 e_x1_4 => ?_)
    have hf := letb_at hf e_x1_4
    clear e_x1_4
    refine G.istore_n (L' := [some (.ref b0), some (.int x1_4), some (.int x2)]) dX4_doorCount_23 rfl (Nat.le_of_ble_eq_true rfl) (Nat.le_of_ble_eq_true rfl) rfl rfl ?_
    refine G.inc (w := 1) (L' := [some (.ref b0), some (.int x1_4), some (.int (x2 + (1 : Int32)))]) dX4_doorCount_24 (by decide) rfl (Nat.le_of_ble_eq_true rfl) rfl rfl ?_
    refine G.goto (tgt := 4) dX4_doorCount_27 (by decide) ?_
    cases hf
    exact hK
theorem lX4_doorCount_4 (E : EV) (d : Nat) (rr : Option Value × Mem) (b0 : Nat) (I : Mem) (hb0 : isH b0) (z : Int32) (hK : (fun (z : Int32) => (some (.int z), I) = rr) z) : ∀ (n : Nat) (q : (Int32 × Int32)), iter (sX4_doorCount_4 b0 I) n q = some z → G E (d + 1) kX4_doorCount 4 [some (.ref b0), some (.int q.1), some (.int q.2)] [] I rr := by
  intro n
  induction n with
  | zero => intro q h; cases h
  | succ n ih =>
    intro q h
    rcases iter_at h with ⟨q2, hs, h2⟩ | hs
    · exact wX4_doorCount_4 E d rr b0 I q.1 q.2 hb0 _ hs (ih q2 h2)
    · exact wX4_doorCount_4 E d rr b0 I q.1 q.2 hb0 _ hs hK
def fX4_doorCount (b0 : Nat) (I : Mem) : Option Int32 :=
  iter (sX4_doorCount_4 b0 I) FU ((0 : Int32), (0 : Int32))
set_option maxRecDepth 20000 in
theorem gX4_doorCount (E : EV) (d : Nat) (b0 : Nat) (I : Mem) (hb0 : isH b0) {v : Int32} (hf : fX4_doorCount b0 I = some v) : Gm E (d + 1) kX4_doorCount [.ref b0] I (some (.int v), I) := by
  refine Gm.of (by decide) rfl (Nat.le_of_ble_eq_true rfl) ?_
  generalize hrr : ((some (.int v), I) : Option Value × Mem) = rr
  show G E (d + 1) kX4_doorCount 0 [some (.ref b0), none, none] [] I rr
  have hK : (fun (z : Int32) => (some (.int z), I) = rr) v := hrr
  clear hrr
  unfold fX4_doorCount at hf
  refine G.iconst (v := 0) dX4_doorCount_0 (by decide) ?_
  refine G.istore_n (L' := [some (.ref b0), some (.int (0 : Int32)), none]) dX4_doorCount_1 rfl (Nat.le_of_ble_eq_true rfl) (Nat.le_of_ble_eq_true rfl) rfl rfl ?_
  refine G.iconst (v := 0) dX4_doorCount_2 (by decide) ?_
  refine G.istore_n (L' := [some (.ref b0), some (.int (0 : Int32)), some (.int (0 : Int32))]) dX4_doorCount_3 rfl (Nat.le_of_ble_eq_true rfl) (Nat.le_of_ble_eq_true rfl) rfl rfl ?_
  exact lX4_doorCount_4 E d rr b0 I hb0 _ hK FU _ hf
theorem dX4_canGo_0 : decode cX4_canGo 0 = .ok (.iconst 0, 1) := by decide +kernel
theorem dX4_canGo_1 : decode cX4_canGo 1 = .ok (.istore_n 3, 1) := by decide +kernel
theorem dX4_canGo_2 : decode cX4_canGo 2 = .ok (.iload_n 3, 1) := by decide +kernel
theorem dX4_canGo_3 : decode cX4_canGo 3 = .ok (.aload_n 0, 1) := by decide +kernel
theorem dX4_canGo_4 : decode cX4_canGo 4 = .ok (.getfield 46, 3) := by decide +kernel
theorem dX4_canGo_7 : decode cX4_canGo 7 = .ok (.if_icmp .ge 31, 3) := by decide +kernel
theorem dX4_canGo_10 : decode cX4_canGo 10 = .ok (.aload_n 0, 1) := by decide +kernel
theorem dX4_canGo_11 : decode cX4_canGo 11 = .ok (.iload_n 1, 1) := by decide +kernel
theorem dX4_canGo_12 : decode cX4_canGo 12 = .ok (.iload_n 3, 1) := by decide +kernel
theorem dX4_canGo_13 : decode cX4_canGo 13 = .ok (.invokestatic 76, 3) := by decide +kernel
theorem dX4_canGo_16 : decode cX4_canGo 16 = .ok (.invokevirtual 80, 3) := by decide +kernel
theorem dX4_canGo_19 : decode cX4_canGo 19 = .ok (.iload_n 2, 1) := by decide +kernel
theorem dX4_canGo_20 : decode cX4_canGo 20 = .ok (.iload_n 3, 1) := by decide +kernel
theorem dX4_canGo_21 : decode cX4_canGo 21 = .ok (.invokestatic 76, 3) := by decide +kernel
theorem dX4_canGo_24 : decode cX4_canGo 24 = .ok (.invokestatic 83, 3) := by decide +kernel
theorem dX4_canGo_27 : decode cX4_canGo 27 = .ok (.ifCond .ne 5, 3) := by decide +kernel
theorem dX4_canGo_30 : decode cX4_canGo 30 = .ok (.iconst 0, 1) := by decide +kernel
theorem dX4_canGo_31 : decode cX4_canGo 31 = .ok (.ireturn, 1) := by decide +kernel
theorem dX4_canGo_32 : decode cX4_canGo 32 = .ok (.iinc 3 1, 3) := by decide +kernel
theorem dX4_canGo_35 : decode cX4_canGo 35 = .ok (.goto (-33), 3) := by decide +kernel
theorem dX4_canGo_38 : decode cX4_canGo 38 = .ok (.iconst 1, 1) := by decide +kernel
theorem dX4_canGo_39 : decode cX4_canGo 39 = .ok (.ireturn, 1) := by decide +kernel
def KX4_canGo_2 (E : EV) (d : Nat) (rr : Option Value × Mem) (b0 : Nat) (x1 : Int32) (x2 : Int32) (I : Mem) (Kp : Int32 → Prop) : (Int32 ⊕ Int32) → Prop
  | .inl q => G E (d + 1) kX4_canGo 2 [some (.ref b0), some (.int x1), some (.int x2), some (.int q)] [] I rr
  | .inr z => Kp z
def bX4_canGo_2 (b0 : Nat) (x1 : Int32) (x2 : Int32) (I : Mem) (x3 : Int32) : Option (Int32 ⊕ Int32) :=
  if (I b0 2) ≤ x3 then
  (some (.inr (1 : Int32)))
  else
  (bnd (fX11_roomOf x1 x3 I) fun v_2 =>
  bnd (fX4_reach b0 v_2 I) fun v_4 =>
  bnd (fX11_roomOf x2 x3 I) fun v_6 =>
  bnd (fX11_has v_4 v_6 I) fun v_8 =>
  if v_8 = 0 then
  (some (.inr (0 : Int32)))
  else
  (some (.inl (x3 + (1 : Int32)))))
def sX4_canGo_2 (b0 : Nat) (x1 : Int32) (x2 : Int32) (I : Mem) (q : Int32) : Option (Int32 ⊕ Int32) := bX4_canGo_2 b0 x1 x2 I q
set_option maxRecDepth 20000 in
theorem wX4_canGo_2 (E : EV) (d : Nat) (rr : Option Value × Mem) (b0 : Nat) (x1 : Int32) (x2 : Int32) (I : Mem) (x3 : Int32) (hb0 : isH b0) (y : (Int32 ⊕ Int32)) (hf : bX4_canGo_2 b0 x1 x2 I x3 = some y) (hK : (KX4_canGo_2 E d rr b0 x1 x2 I (fun (z : Int32) => (some (.int z), I) = rr)) y) : G E (d + 1) kX4_canGo 2 [some (.ref b0), some (.int x1), some (.int x2), some (.int x3)] [] I rr := by
  unfold bX4_canGo_2 at hf
  refine G.iload_n dX4_canGo_2 rfl rfl ?_
  refine G.aload_n dX4_canGo_3 rfl rfl ?_
  refine G.getI dX4_canGo_4 flX4_46 (isH_lt hb0) (isH_lk hb0) ?_
  refine G.icmp_ge (tgt := 38) dX4_canGo_7 (by decide) (fun c_10 => ?_) (fun c_10 => ?_)
  · have hf := ite_t hf c_10
    refine G.iconst (v := 1) dX4_canGo_38 (by decide) ?_
    cases hf
    exact G.zret' dX4_canGo_39 rfl (by decide) hK
  · have hf := ite_f hf c_10
    refine G.aload_n dX4_canGo_10 rfl rfl ?_
    refine G.iload_n dX4_canGo_11 rfl rfl ?_
    refine G.iload_n dX4_canGo_12 rfl rfl ?_
    obtain ⟨v_2, hc_1, hf⟩ := bnd_at hf
    refine G.callNi (av := [.int x1, .int x3]) (rest := [.ref b0]) dX4_canGo_13 mnX4_76 (gX11_roomOf E d x1 x3 I hc_1) rfl rfl (Nat.le_of_ble_eq_true rfl) ?_
    obtain ⟨v_4, hc_3, hf⟩ := bnd_at hf
    refine G.callVi (av := [.int v_2]) (rest := []) dX4_canGo_16 mvX4_80 (gX4_reach E d b0 v_2 I hb0 hc_3) (isH_lt hb0) (isH_lk hb0) rfl rfl (Nat.le_of_ble_eq_true rfl) ?_
    refine G.iload_n dX4_canGo_19 rfl rfl ?_
    refine G.iload_n dX4_canGo_20 rfl rfl ?_
    obtain ⟨v_6, hc_5, hf⟩ := bnd_at hf
    refine G.callNi (av := [.int x2, .int x3]) (rest := [.int v_4]) dX4_canGo_21 mnX4_76 (gX11_roomOf E d x2 x3 I hc_5) rfl rfl (Nat.le_of_ble_eq_true rfl) ?_
    obtain ⟨v_8, hc_7, hf⟩ := bnd_at hf
    refine G.callNi (av := [.int v_4, .int v_6]) (rest := []) dX4_canGo_24 mnX4_83 (gX11_has E d v_4 v_6 I hc_7) rfl rfl (Nat.le_of_ble_eq_true rfl) ?_
    refine G.if_ne (tgt := 32) dX4_canGo_27 (by decide) (fun c_9 => ?_) (fun c_9 => ?_)
    · have hf := ite_f hf c_9
      refine G.inc (w := 1) (L' := [some (.ref b0), some (.int x1), some (.int x2), some (.int (x3 + (1 : Int32)))]) dX4_canGo_32 (by decide) rfl (Nat.le_of_ble_eq_true rfl) rfl rfl ?_
      refine G.goto (tgt := 2) dX4_canGo_35 (by decide) ?_
      cases hf
      exact hK
    · have hf := ite_t hf c_9
      refine G.iconst (v := 0) dX4_canGo_30 (by decide) ?_
      cases hf
      exact G.zret' dX4_canGo_31 rfl (by decide) hK
theorem lX4_canGo_2 (E : EV) (d : Nat) (rr : Option Value × Mem) (b0 : Nat) (x1 : Int32) (x2 : Int32) (I : Mem) (hb0 : isH b0) (z : Int32) (hK : (fun (z : Int32) => (some (.int z), I) = rr) z) : ∀ (n : Nat) (q : Int32), iter (sX4_canGo_2 b0 x1 x2 I) n q = some z → G E (d + 1) kX4_canGo 2 [some (.ref b0), some (.int x1), some (.int x2), some (.int q)] [] I rr := by
  intro n
  induction n with
  | zero => intro q h; cases h
  | succ n ih =>
    intro q h
    rcases iter_at h with ⟨q2, hs, h2⟩ | hs
    · exact wX4_canGo_2 E d rr b0 x1 x2 I q hb0 _ hs (ih q2 h2)
    · exact wX4_canGo_2 E d rr b0 x1 x2 I q hb0 _ hs hK
def fX4_canGo (b0 : Nat) (x1 : Int32) (x2 : Int32) (I : Mem) : Option Int32 :=
  iter (sX4_canGo_2 b0 x1 x2 I) FU (0 : Int32)
set_option maxRecDepth 20000 in
theorem gX4_canGo (E : EV) (d : Nat) (b0 : Nat) (x1 : Int32) (x2 : Int32) (I : Mem) (hb0 : isH b0) {v : Int32} (hf : fX4_canGo b0 x1 x2 I = some v) : Gm E (d + 1) kX4_canGo [.ref b0, .int x1, .int x2] I (some (.int v), I) := by
  refine Gm.of (by decide) rfl (Nat.le_of_ble_eq_true rfl) ?_
  generalize hrr : ((some (.int v), I) : Option Value × Mem) = rr
  show G E (d + 1) kX4_canGo 0 [some (.ref b0), some (.int x1), some (.int x2), none] [] I rr
  have hK : (fun (z : Int32) => (some (.int z), I) = rr) v := hrr
  clear hrr
  unfold fX4_canGo at hf
  refine G.iconst (v := 0) dX4_canGo_0 (by decide) ?_
  refine G.istore_n (L' := [some (.ref b0), some (.int x1), some (.int x2), some (.int (0 : Int32))]) dX4_canGo_1 rfl (Nat.le_of_ble_eq_true rfl) (Nat.le_of_ble_eq_true rfl) rfl rfl ?_
  exact lX4_canGo_2 E d rr b0 x1 x2 I hb0 _ hK FU _ hf
theorem dX4_peopled_0 : decode cX4_peopled 0 = .ok (.iconst 0, 1) := by decide +kernel
theorem dX4_peopled_1 : decode cX4_peopled 1 = .ok (.istore_n 1, 1) := by decide +kernel
theorem dX4_peopled_2 : decode cX4_peopled 2 = .ok (.iconst 0, 1) := by decide +kernel
theorem dX4_peopled_3 : decode cX4_peopled 3 = .ok (.istore_n 2, 1) := by decide +kernel
theorem dX4_peopled_4 : decode cX4_peopled 4 = .ok (.iload_n 2, 1) := by decide +kernel
theorem dX4_peopled_5 : decode cX4_peopled 5 = .ok (.aload_n 0, 1) := by decide +kernel
theorem dX4_peopled_6 : decode cX4_peopled 6 = .ok (.getfield 46, 3) := by decide +kernel
theorem dX4_peopled_9 : decode cX4_peopled 9 = .ok (.if_icmp .ge 22, 3) := by decide +kernel
theorem dX4_peopled_12 : decode cX4_peopled 12 = .ok (.iload_n 1, 1) := by decide +kernel
theorem dX4_peopled_13 : decode cX4_peopled 13 = .ok (.iconst 1, 1) := by decide +kernel
theorem dX4_peopled_14 : decode cX4_peopled 14 = .ok (.aload_n 0, 1) := by decide +kernel
theorem dX4_peopled_15 : decode cX4_peopled 15 = .ok (.getfield 49, 3) := by decide +kernel
theorem dX4_peopled_18 : decode cX4_peopled 18 = .ok (.iload_n 2, 1) := by decide +kernel
theorem dX4_peopled_19 : decode cX4_peopled 19 = .ok (.invokestatic 76, 3) := by decide +kernel
theorem dX4_peopled_22 : decode cX4_peopled 22 = .ok (.ishl, 1) := by decide +kernel
theorem dX4_peopled_23 : decode cX4_peopled 23 = .ok (.ior, 1) := by decide +kernel
theorem dX4_peopled_24 : decode cX4_peopled 24 = .ok (.istore_n 1, 1) := by decide +kernel
theorem dX4_peopled_25 : decode cX4_peopled 25 = .ok (.iinc 2 1, 3) := by decide +kernel
theorem dX4_peopled_28 : decode cX4_peopled 28 = .ok (.goto (-24), 3) := by decide +kernel
theorem dX4_peopled_31 : decode cX4_peopled 31 = .ok (.iload_n 1, 1) := by decide +kernel
theorem dX4_peopled_32 : decode cX4_peopled 32 = .ok (.ireturn, 1) := by decide +kernel
def KX4_peopled_4 (E : EV) (d : Nat) (rr : Option Value × Mem) (b0 : Nat) (I : Mem) (Kp : Int32 → Prop) : ((Int32 × Int32) ⊕ Int32) → Prop
  | .inl q => G E (d + 1) kX4_peopled 4 [some (.ref b0), some (.int q.1), some (.int q.2)] [] I rr
  | .inr z => Kp z
def bX4_peopled_4 (b0 : Nat) (I : Mem) (x1 : Int32) (x2 : Int32) : Option ((Int32 × Int32) ⊕ Int32) :=
  if (I b0 2) ≤ x2 then
  (some (.inr x1))
  else
  (bnd (fX11_roomOf (I b0 3) x2 I) fun v_2 =>
  letb (x1 ||| ((1 : Int32) <<< (v_2 &&& 31))) fun x1_3 =>
  some (.inl (x1_3, (x2 + (1 : Int32)))))
def sX4_peopled_4 (b0 : Nat) (I : Mem) (q : (Int32 × Int32)) : Option ((Int32 × Int32) ⊕ Int32) := bX4_peopled_4 b0 I q.1 q.2
set_option maxRecDepth 20000 in
theorem wX4_peopled_4 (E : EV) (d : Nat) (rr : Option Value × Mem) (b0 : Nat) (I : Mem) (x1 : Int32) (x2 : Int32) (hb0 : isH b0) (y : ((Int32 × Int32) ⊕ Int32)) (hf : bX4_peopled_4 b0 I x1 x2 = some y) (hK : (KX4_peopled_4 E d rr b0 I (fun (z : Int32) => (some (.int z), I) = rr)) y) : G E (d + 1) kX4_peopled 4 [some (.ref b0), some (.int x1), some (.int x2)] [] I rr := by
  unfold bX4_peopled_4 at hf
  refine G.iload_n dX4_peopled_4 rfl rfl ?_
  refine G.aload_n dX4_peopled_5 rfl rfl ?_
  refine G.getI dX4_peopled_6 flX4_46 (isH_lt hb0) (isH_lk hb0) ?_
  refine G.icmp_ge (tgt := 31) dX4_peopled_9 (by decide) (fun c_4 => ?_) (fun c_4 => ?_)
  · have hf := ite_t hf c_4
    refine G.iload_n dX4_peopled_31 rfl rfl ?_
    cases hf
    exact G.iret' dX4_peopled_32 rfl hK
  · have hf := ite_f hf c_4
    refine G.iload_n dX4_peopled_12 rfl rfl ?_
    refine G.iconst (v := 1) dX4_peopled_13 (by decide) ?_
    refine G.aload_n dX4_peopled_14 rfl rfl ?_
    refine G.getI dX4_peopled_15 flX4_49 (isH_lt hb0) (isH_lk hb0) ?_
    refine G.iload_n dX4_peopled_18 rfl rfl ?_
    obtain ⟨v_2, hc_1, hf⟩ := bnd_at hf
    refine G.callNi (av := [.int (I b0 3), .int x2]) (rest := [.int (1 : Int32), .int x1]) dX4_peopled_19 mnX4_76 (gX11_roomOf E d (I b0 3) x2 I hc_1) rfl rfl (Nat.le_of_ble_eq_true rfl) ?_
    refine G.ishl dX4_peopled_22 ?_
    refine G.ior dX4_peopled_23 ?_
    refine G.nmi (fun x1_3 e_x1_3 => ?_)
    have hf := letb_at hf e_x1_3
    clear e_x1_3
    refine G.istore_n (L' := [some (.ref b0), some (.int x1_3), some (.int x2)]) dX4_peopled_24 rfl (Nat.le_of_ble_eq_true rfl) (Nat.le_of_ble_eq_true rfl) rfl rfl ?_
    refine G.inc (w := 1) (L' := [some (.ref b0), some (.int x1_3), some (.int (x2 + (1 : Int32)))]) dX4_peopled_25 (by decide) rfl (Nat.le_of_ble_eq_true rfl) rfl rfl ?_
    refine G.goto (tgt := 4) dX4_peopled_28 (by decide) ?_
    cases hf
    exact hK
theorem lX4_peopled_4 (E : EV) (d : Nat) (rr : Option Value × Mem) (b0 : Nat) (I : Mem) (hb0 : isH b0) (z : Int32) (hK : (fun (z : Int32) => (some (.int z), I) = rr) z) : ∀ (n : Nat) (q : (Int32 × Int32)), iter (sX4_peopled_4 b0 I) n q = some z → G E (d + 1) kX4_peopled 4 [some (.ref b0), some (.int q.1), some (.int q.2)] [] I rr := by
  intro n
  induction n with
  | zero => intro q h; cases h
  | succ n ih =>
    intro q h
    rcases iter_at h with ⟨q2, hs, h2⟩ | hs
    · exact wX4_peopled_4 E d rr b0 I q.1 q.2 hb0 _ hs (ih q2 h2)
    · exact wX4_peopled_4 E d rr b0 I q.1 q.2 hb0 _ hs hK
def fX4_peopled (b0 : Nat) (I : Mem) : Option Int32 :=
  iter (sX4_peopled_4 b0 I) FU ((0 : Int32), (0 : Int32))
set_option maxRecDepth 20000 in
theorem gX4_peopled (E : EV) (d : Nat) (b0 : Nat) (I : Mem) (hb0 : isH b0) {v : Int32} (hf : fX4_peopled b0 I = some v) : Gm E (d + 1) kX4_peopled [.ref b0] I (some (.int v), I) := by
  refine Gm.of (by decide) rfl (Nat.le_of_ble_eq_true rfl) ?_
  generalize hrr : ((some (.int v), I) : Option Value × Mem) = rr
  show G E (d + 1) kX4_peopled 0 [some (.ref b0), none, none] [] I rr
  have hK : (fun (z : Int32) => (some (.int z), I) = rr) v := hrr
  clear hrr
  unfold fX4_peopled at hf
  refine G.iconst (v := 0) dX4_peopled_0 (by decide) ?_
  refine G.istore_n (L' := [some (.ref b0), some (.int (0 : Int32)), none]) dX4_peopled_1 rfl (Nat.le_of_ble_eq_true rfl) (Nat.le_of_ble_eq_true rfl) rfl rfl ?_
  refine G.iconst (v := 0) dX4_peopled_2 (by decide) ?_
  refine G.istore_n (L' := [some (.ref b0), some (.int (0 : Int32)), some (.int (0 : Int32))]) dX4_peopled_3 rfl (Nat.le_of_ble_eq_true rfl) (Nat.le_of_ble_eq_true rfl) rfl rfl ?_
  exact lX4_peopled_4 E d rr b0 I hb0 _ hK FU _ hf
theorem dX4_isAloneIn_0 : decode cX4_isAloneIn 0 = .ok (.aload_n 0, 1) := by decide +kernel
theorem dX4_isAloneIn_1 : decode cX4_isAloneIn 1 = .ok (.getfield 49, 3) := by decide +kernel
theorem dX4_isAloneIn_4 : decode cX4_isAloneIn 4 = .ok (.iload_n 1, 1) := by decide +kernel
theorem dX4_isAloneIn_5 : decode cX4_isAloneIn 5 = .ok (.invokestatic 76, 3) := by decide +kernel
theorem dX4_isAloneIn_8 : decode cX4_isAloneIn 8 = .ok (.iload_n 2, 1) := by decide +kernel
theorem dX4_isAloneIn_9 : decode cX4_isAloneIn 9 = .ok (.if_icmp .ne 22, 3) := by decide +kernel
theorem dX4_isAloneIn_12 : decode cX4_isAloneIn 12 = .ok (.aload_n 0, 1) := by decide +kernel
theorem dX4_isAloneIn_13 : decode cX4_isAloneIn 13 = .ok (.aload_n 0, 1) := by decide +kernel
theorem dX4_isAloneIn_14 : decode cX4_isAloneIn 14 = .ok (.getfield 49, 3) := by decide +kernel
theorem dX4_isAloneIn_17 : decode cX4_isAloneIn 17 = .ok (.invokevirtual 87, 3) := by decide +kernel
theorem dX4_isAloneIn_20 : decode cX4_isAloneIn 20 = .ok (.iload_n 1, 1) := by decide +kernel
theorem dX4_isAloneIn_21 : decode cX4_isAloneIn 21 = .ok (.invokestatic 83, 3) := by decide +kernel
theorem dX4_isAloneIn_24 : decode cX4_isAloneIn 24 = .ok (.ifCond .eq 7, 3) := by decide +kernel
theorem dX4_isAloneIn_27 : decode cX4_isAloneIn 27 = .ok (.iconst 1, 1) := by decide +kernel
theorem dX4_isAloneIn_28 : decode cX4_isAloneIn 28 = .ok (.goto 4, 3) := by decide +kernel
theorem dX4_isAloneIn_31 : decode cX4_isAloneIn 31 = .ok (.iconst 0, 1) := by decide +kernel
theorem dX4_isAloneIn_32 : decode cX4_isAloneIn 32 = .ok (.ireturn, 1) := by decide +kernel
def fX4_isAloneIn (b0 : Nat) (x1 : Int32) (x2 : Int32) (I : Mem) : Option Int32 :=
  bnd (fX11_roomOf (I b0 3) x1 I) fun v_2 =>
  if v_2 = x2 then
  (bnd (fX4_lone b0 (I b0 3) I) fun v_4 =>
  bnd (fX11_has v_4 x1 I) fun v_6 =>
  if v_6 = 0 then
  (some (0 : Int32))
  else
  (some (1 : Int32)))
  else
  (some (0 : Int32))
set_option maxRecDepth 20000 in
theorem gX4_isAloneIn (E : EV) (d : Nat) (b0 : Nat) (x1 : Int32) (x2 : Int32) (I : Mem) (hb0 : isH b0) {v : Int32} (hf : fX4_isAloneIn b0 x1 x2 I = some v) : Gm E (d + 2) kX4_isAloneIn [.ref b0, .int x1, .int x2] I (some (.int v), I) := by
  refine Gm.of (by decide) rfl (Nat.le_of_ble_eq_true rfl) ?_
  generalize hrr : ((some (.int v), I) : Option Value × Mem) = rr
  show G E (d + 2) kX4_isAloneIn 0 [some (.ref b0), some (.int x1), some (.int x2)] [] I rr
  have hK : (fun (z : Int32) => (some (.int z), I) = rr) v := hrr
  clear hrr
  unfold fX4_isAloneIn at hf
  refine G.aload_n dX4_isAloneIn_0 rfl rfl ?_
  refine G.getI dX4_isAloneIn_1 flX4_49 (isH_lt hb0) (isH_lk hb0) ?_
  refine G.iload_n dX4_isAloneIn_4 rfl rfl ?_
  obtain ⟨v_2, hc_1, hf⟩ := bnd_at hf
  refine G.callNi (av := [.int (I b0 3), .int x1]) (rest := []) dX4_isAloneIn_5 mnX4_76 (gX11_roomOf E (d + 1) (I b0 3) x1 I hc_1) rfl rfl (Nat.le_of_ble_eq_true rfl) ?_
  refine G.iload_n dX4_isAloneIn_8 rfl rfl ?_
  refine G.icmp_ne (tgt := 31) dX4_isAloneIn_9 (by decide) (fun c_8 => ?_) (fun c_8 => ?_)
  · have hf := ite_f hf c_8
    refine G.iconst (v := 0) dX4_isAloneIn_31 (by decide) ?_
    cases hf
    exact G.zret' dX4_isAloneIn_32 rfl (by decide) hK
  · have hf := ite_t hf c_8
    refine G.aload_n dX4_isAloneIn_12 rfl rfl ?_
    refine G.aload_n dX4_isAloneIn_13 rfl rfl ?_
    refine G.getI dX4_isAloneIn_14 flX4_49 (isH_lt hb0) (isH_lk hb0) ?_
    obtain ⟨v_4, hc_3, hf⟩ := bnd_at hf
    refine G.callVi (av := [.int (I b0 3)]) (rest := []) dX4_isAloneIn_17 mvX4_87 (gX4_lone E d b0 (I b0 3) I hb0 hc_3) (isH_lt hb0) (isH_lk hb0) rfl rfl (Nat.le_of_ble_eq_true rfl) ?_
    refine G.iload_n dX4_isAloneIn_20 rfl rfl ?_
    obtain ⟨v_6, hc_5, hf⟩ := bnd_at hf
    refine G.callNi (av := [.int v_4, .int x1]) (rest := []) dX4_isAloneIn_21 mnX4_83 (gX11_has E (d + 1) v_4 x1 I hc_5) rfl rfl (Nat.le_of_ble_eq_true rfl) ?_
    refine G.if_eq (tgt := 31) dX4_isAloneIn_24 (by decide) (fun c_7 => ?_) (fun c_7 => ?_)
    · have hf := ite_t hf c_7
      refine G.iconst (v := 0) dX4_isAloneIn_31 (by decide) ?_
      cases hf
      exact G.zret' dX4_isAloneIn_32 rfl (by decide) hK
    · have hf := ite_f hf c_7
      refine G.iconst (v := 1) dX4_isAloneIn_27 (by decide) ?_
      refine G.goto (tgt := 32) dX4_isAloneIn_28 (by decide) ?_
      cases hf
      exact G.zret' dX4_isAloneIn_32 rfl (by decide) hK
theorem dX4_gather_0 : decode cX4_gather 0 = .ok (.iconst (-1), 1) := by decide +kernel
theorem dX4_gather_1 : decode cX4_gather 1 = .ok (.istore 4, 2) := by decide +kernel
theorem dX4_gather_3 : decode cX4_gather 3 = .ok (.iconst (-1), 1) := by decide +kernel
theorem dX4_gather_4 : decode cX4_gather 4 = .ok (.istore 5, 2) := by decide +kernel
theorem dX4_gather_6 : decode cX4_gather 6 = .ok (.iconst (-1), 1) := by decide +kernel
theorem dX4_gather_7 : decode cX4_gather 7 = .ok (.istore 6, 2) := by decide +kernel
theorem dX4_gather_9 : decode cX4_gather 9 = .ok (.aload_n 0, 1) := by decide +kernel
theorem dX4_gather_10 : decode cX4_gather 10 = .ok (.getfield 46, 3) := by decide +kernel
theorem dX4_gather_13 : decode cX4_gather 13 = .ok (.iconst 1, 1) := by decide +kernel
theorem dX4_gather_14 : decode cX4_gather 14 = .ok (.isub, 1) := by decide +kernel
theorem dX4_gather_15 : decode cX4_gather 15 = .ok (.istore 7, 2) := by decide +kernel
theorem dX4_gather_17 : decode cX4_gather 17 = .ok (.iload 7, 2) := by decide +kernel
theorem dX4_gather_19 : decode cX4_gather 19 = .ok (.ifCond .lt 49, 3) := by decide +kernel
theorem dX4_gather_22 : decode cX4_gather 22 = .ok (.aload_n 0, 1) := by decide +kernel
theorem dX4_gather_23 : decode cX4_gather 23 = .ok (.getfield 49, 3) := by decide +kernel
theorem dX4_gather_26 : decode cX4_gather 26 = .ok (.iload 7, 2) := by decide +kernel
theorem dX4_gather_28 : decode cX4_gather 28 = .ok (.invokestatic 76, 3) := by decide +kernel
theorem dX4_gather_31 : decode cX4_gather 31 = .ok (.iload_n 1, 1) := by decide +kernel
theorem dX4_gather_32 : decode cX4_gather 32 = .ok (.if_icmp .ne 30, 3) := by decide +kernel
theorem dX4_gather_35 : decode cX4_gather 35 = .ok (.iload 5, 2) := by decide +kernel
theorem dX4_gather_37 : decode cX4_gather 37 = .ok (.istore 6, 2) := by decide +kernel
theorem dX4_gather_39 : decode cX4_gather 39 = .ok (.iload 7, 2) := by decide +kernel
theorem dX4_gather_41 : decode cX4_gather 41 = .ok (.istore 5, 2) := by decide +kernel
theorem dX4_gather_43 : decode cX4_gather 43 = .ok (.iload_n 2, 1) := by decide +kernel
theorem dX4_gather_44 : decode cX4_gather 44 = .ok (.iload 7, 2) := by decide +kernel
theorem dX4_gather_46 : decode cX4_gather 46 = .ok (.invokestatic 76, 3) := by decide +kernel
theorem dX4_gather_49 : decode cX4_gather 49 = .ok (.iload_n 1, 1) := by decide +kernel
theorem dX4_gather_50 : decode cX4_gather 50 = .ok (.if_icmp .ne 8, 3) := by decide +kernel
theorem dX4_gather_53 : decode cX4_gather 53 = .ok (.iload 4, 2) := by decide +kernel
theorem dX4_gather_55 : decode cX4_gather 55 = .ok (.goto 5, 3) := by decide +kernel
theorem dX4_gather_58 : decode cX4_gather 58 = .ok (.iload 7, 2) := by decide +kernel
theorem dX4_gather_60 : decode cX4_gather 60 = .ok (.istore 4, 2) := by decide +kernel
theorem dX4_gather_62 : decode cX4_gather 62 = .ok (.iinc 7 (-1), 3) := by decide +kernel
theorem dX4_gather_65 : decode cX4_gather 65 = .ok (.goto (-48), 3) := by decide +kernel
theorem dX4_gather_68 : decode cX4_gather 68 = .ok (.iload 6, 2) := by decide +kernel
theorem dX4_gather_70 : decode cX4_gather 70 = .ok (.iconst (-1), 1) := by decide +kernel
theorem dX4_gather_71 : decode cX4_gather 71 = .ok (.if_icmp .eq 9, 3) := by decide +kernel
theorem dX4_gather_74 : decode cX4_gather 74 = .ok (.iload 4, 2) := by decide +kernel
theorem dX4_gather_76 : decode cX4_gather 76 = .ok (.iconst (-1), 1) := by decide +kernel
theorem dX4_gather_77 : decode cX4_gather 77 = .ok (.if_icmp .ne 4, 3) := by decide +kernel
theorem dX4_gather_80 : decode cX4_gather 80 = .ok (.return_, 1) := by decide +kernel
theorem dX4_gather_81 : decode cX4_gather 81 = .ok (.iload 4, 2) := by decide +kernel
theorem dX4_gather_83 : decode cX4_gather 83 = .ok (.iload 5, 2) := by decide +kernel
theorem dX4_gather_85 : decode cX4_gather 85 = .ok (.if_icmp .ne 8, 3) := by decide +kernel
theorem dX4_gather_88 : decode cX4_gather 88 = .ok (.iload 6, 2) := by decide +kernel
theorem dX4_gather_90 : decode cX4_gather 90 = .ok (.goto 5, 3) := by decide +kernel
theorem dX4_gather_93 : decode cX4_gather 93 = .ok (.iload 5, 2) := by decide +kernel
theorem dX4_gather_95 : decode cX4_gather 95 = .ok (.istore 7, 2) := by decide +kernel
theorem dX4_gather_97 : decode cX4_gather 97 = .ok (.aload_n 3, 1) := by decide +kernel
theorem dX4_gather_98 : decode cX4_gather 98 = .ok (.aload_n 0, 1) := by decide +kernel
theorem dX4_gather_99 : decode cX4_gather 99 = .ok (.getfield 19, 3) := by decide +kernel
theorem dX4_gather_102 : decode cX4_gather 102 = .ok (.iload_n 1, 1) := by decide +kernel
theorem dX4_gather_103 : decode cX4_gather 103 = .ok (.iaload, 1) := by decide +kernel
theorem dX4_gather_104 : decode cX4_gather 104 = .ok (.invokevirtual 116, 3) := by decide +kernel
theorem dX4_gather_107 : decode cX4_gather 107 = .ok (.istore 8, 2) := by decide +kernel
theorem dX4_gather_109 : decode cX4_gather 109 = .ok (.aload_n 0, 1) := by decide +kernel
theorem dX4_gather_110 : decode cX4_gather 110 = .ok (.getfield 25, 3) := by decide +kernel
theorem dX4_gather_113 : decode cX4_gather 113 = .ok (.iload 4, 2) := by decide +kernel
theorem dX4_gather_115 : decode cX4_gather 115 = .ok (.dup2, 1) := by decide +kernel
theorem dX4_gather_116 : decode cX4_gather 116 = .ok (.iaload, 1) := by decide +kernel
theorem dX4_gather_117 : decode cX4_gather 117 = .ok (.aload_n 0, 1) := by decide +kernel
theorem dX4_gather_118 : decode cX4_gather 118 = .ok (.getfield 19, 3) := by decide +kernel
theorem dX4_gather_121 : decode cX4_gather 121 = .ok (.iload_n 1, 1) := by decide +kernel
theorem dX4_gather_122 : decode cX4_gather 122 = .ok (.iaload, 1) := by decide +kernel
theorem dX4_gather_123 : decode cX4_gather 123 = .ok (.iload 8, 2) := by decide +kernel
theorem dX4_gather_125 : decode cX4_gather 125 = .ok (.isub, 1) := by decide +kernel
theorem dX4_gather_126 : decode cX4_gather 126 = .ok (.iadd, 1) := by decide +kernel
theorem dX4_gather_127 : decode cX4_gather 127 = .ok (.iastore, 1) := by decide +kernel
theorem dX4_gather_128 : decode cX4_gather 128 = .ok (.aload_n 0, 1) := by decide +kernel
theorem dX4_gather_129 : decode cX4_gather 129 = .ok (.getfield 25, 3) := by decide +kernel
theorem dX4_gather_132 : decode cX4_gather 132 = .ok (.iload 7, 2) := by decide +kernel
theorem dX4_gather_134 : decode cX4_gather 134 = .ok (.dup2, 1) := by decide +kernel
theorem dX4_gather_135 : decode cX4_gather 135 = .ok (.iaload, 1) := by decide +kernel
theorem dX4_gather_136 : decode cX4_gather 136 = .ok (.iload 8, 2) := by decide +kernel
theorem dX4_gather_138 : decode cX4_gather 138 = .ok (.iadd, 1) := by decide +kernel
theorem dX4_gather_139 : decode cX4_gather 139 = .ok (.iastore, 1) := by decide +kernel
theorem dX4_gather_140 : decode cX4_gather 140 = .ok (.aload_n 0, 1) := by decide +kernel
theorem dX4_gather_141 : decode cX4_gather 141 = .ok (.getfield 19, 3) := by decide +kernel
theorem dX4_gather_144 : decode cX4_gather 144 = .ok (.iload_n 1, 1) := by decide +kernel
theorem dX4_gather_145 : decode cX4_gather 145 = .ok (.iconst 0, 1) := by decide +kernel
theorem dX4_gather_146 : decode cX4_gather 146 = .ok (.iastore, 1) := by decide +kernel
theorem dX4_gather_147 : decode cX4_gather 147 = .ok (.return_, 1) := by decide +kernel
def KX4_gather_17 (E : EV) (d : Nat) (rr : Option Value × Mem) (b0 : Nat) (o3 : Nat) (x1 : Int32) (x2 : Int32) (I : Mem) (Kp : Mem → Prop) : ((Int32 × Int32 × Int32 × Int32) ⊕ Mem) → Prop
  | .inl q => G E (d + 1) kX4_gather 17 [some (.ref b0), some (.int x1), some (.int x2), some (.ref o3), some (.int q.1), some (.int q.2.1), some (.int q.2.2.1), some (.int q.2.2.2), none] [] I rr
  | .inr z => Kp z
def jX4_gather_95 (b0 : Nat) (o3 : Nat) (x1 : Int32) (x4 : Int32) (u0 : Int32) (I : Mem) : Option Mem :=
  chk (inb x1 5) <|
  bnd (fD_share o3 (I (b0 + 2) (ix x1)) I) fun v_3 =>
  chk (inb x4 4) <|
  chk (inb x1 5) <|
  chk (inb x4 4) <|
  letb (up2 I (b0 + 4) (ix x4) ((I (b0 + 4) (ix x4)) + ((I (b0 + 2) (ix x1)) - v_3))) fun I_8 =>
  chk (inb u0 4) <|
  chk (inb u0 4) <|
  letb (up2 I_8 (b0 + 4) (ix u0) ((I_8 (b0 + 4) (ix u0)) + v_3)) fun I_11 =>
  chk (inb x1 5) <|
  letb (up2 I_11 (b0 + 2) (ix x1) (0 : Int32)) fun I_13 =>
  some I_13
set_option maxRecDepth 20000 in
theorem tX4_gather_95 (E : EV) (d : Nat) (rr : Option Value × Mem) (b0 : Nat) (o3 : Nat) (x1 : Int32) (x4 : Int32) (u0 : Int32) (I : Mem) (hb0 : isH b0) (ho3 : isL o3) (y : Mem) (hf : jX4_gather_95 b0 o3 x1 x4 u0 I = some y) (hK : (fun (z : Mem) => ((none : Option Value), z) = rr) y) : G E (d + 1) kX4_gather 95 [some (.ref b0), some (.int x1), none, some (.ref o3), some (.int x4), none, none, none, none] [.int u0] I rr := by
  unfold jX4_gather_95 at hf
  refine G.istore (L' := [some (.ref b0), some (.int x1), none, some (.ref o3), some (.int x4), none, none, some (.int u0), none]) dX4_gather_95 (Nat.le_of_ble_eq_true rfl) (Nat.le_of_ble_eq_true rfl) rfl rfl ?_
  refine G.aload_n dX4_gather_97 rfl rfl ?_
  refine G.aload_n dX4_gather_98 rfl rfl ?_
  refine G.getR (q := (b0 + 2)) dX4_gather_99 flX4_19 (isH_lt hb0) (isH_lk hb0) (isH_r2 hb0) ?_
  refine G.iload_n dX4_gather_102 rfl rfl ?_
  obtain ⟨hi_2, hf⟩ := chk_at hf
  refine G.iald' dX4_gather_103 (isH_l2 hb0) (isH_k2 hb0) (isH_n2 hb0) hi_2 ?_
  obtain ⟨v_3, hc_4, hf⟩ := bnd_at hf
  refine vLX4_116 (rest := []) dX4_gather_104 ho3 hc_4 (Nat.le_of_ble_eq_true rfl) rfl ?_
  refine G.istore (L' := [some (.ref b0), some (.int x1), none, some (.ref o3), some (.int x4), none, none, some (.int u0), some (.int v_3)]) dX4_gather_107 (Nat.le_of_ble_eq_true rfl) (Nat.le_of_ble_eq_true rfl) rfl rfl ?_
  refine G.aload_n dX4_gather_109 rfl rfl ?_
  refine G.getR (q := (b0 + 4)) dX4_gather_110 flX4_25 (isH_lt hb0) (isH_lk hb0) (isH_r4 hb0) ?_
  refine G.iload dX4_gather_113 rfl ?_
  refine G.dup2 dX4_gather_115 rfl rfl ?_
  obtain ⟨hi_5, hf⟩ := chk_at hf
  refine G.iald' dX4_gather_116 (isH_l4 hb0) (isH_k4 hb0) (isH_n4 hb0) hi_5 ?_
  refine G.aload_n dX4_gather_117 rfl rfl ?_
  refine G.getR (q := (b0 + 2)) dX4_gather_118 flX4_19 (isH_lt hb0) (isH_lk hb0) (isH_r2 hb0) ?_
  refine G.iload_n dX4_gather_121 rfl rfl ?_
  obtain ⟨hi_6, hf⟩ := chk_at hf
  refine G.iald' dX4_gather_122 (isH_l2 hb0) (isH_k2 hb0) (isH_n2 hb0) hi_6 ?_
  refine G.iload dX4_gather_123 rfl ?_
  refine G.isub dX4_gather_125 ?_
  refine G.iadd dX4_gather_126 ?_
  obtain ⟨hi_7, hf⟩ := chk_at hf
  refine G.iast' dX4_gather_127 (isH_l4 hb0) (isH_k4 hb0) (isH_n4 hb0) hi_7 ?_
  refine G.nmI (fun I_8 e_I_8 => ?_)
  have hf := letb_at hf e_I_8
  clear e_I_8
  refine G.aload_n dX4_gather_128 rfl rfl ?_
  refine G.getR (q := (b0 + 4)) dX4_gather_129 flX4_25 (isH_lt hb0) (isH_lk hb0) (isH_r4 hb0) ?_
  refine G.iload dX4_gather_132 rfl ?_
  refine G.dup2 dX4_gather_134 rfl rfl ?_
  obtain ⟨hi_9, hf⟩ := chk_at hf
  refine G.iald' dX4_gather_135 (isH_l4 hb0) (isH_k4 hb0) (isH_n4 hb0) hi_9 ?_
  refine G.iload dX4_gather_136 rfl ?_
  refine G.iadd dX4_gather_138 ?_
  obtain ⟨hi_10, hf⟩ := chk_at hf
  refine G.iast' dX4_gather_139 (isH_l4 hb0) (isH_k4 hb0) (isH_n4 hb0) hi_10 ?_
  refine G.nmI (fun I_11 e_I_11 => ?_)
  have hf := letb_at hf e_I_11
  clear e_I_11
  refine G.aload_n dX4_gather_140 rfl rfl ?_
  refine G.getR (q := (b0 + 2)) dX4_gather_141 flX4_19 (isH_lt hb0) (isH_lk hb0) (isH_r2 hb0) ?_
  refine G.iload_n dX4_gather_144 rfl rfl ?_
  refine G.iconst (v := 0) dX4_gather_145 (by decide) ?_
  obtain ⟨hi_12, hf⟩ := chk_at hf
  refine G.iast' dX4_gather_146 (isH_l2 hb0) (isH_k2 hb0) (isH_n2 hb0) hi_12 ?_
  refine G.nmI (fun I_13 e_I_13 => ?_)
  have hf := letb_at hf e_I_13
  clear e_I_13
  cases hf
  exact G.vret' dX4_gather_147 rfl hK
def bX4_gather_17 (b0 : Nat) (o3 : Nat) (x1 : Int32) (x2 : Int32) (I : Mem) (x4 : Int32) (x5 : Int32) (x6 : Int32) (x7 : Int32) : Option ((Int32 × Int32 × Int32 × Int32) ⊕ Mem) :=
  if x7 < 0 then
  (if x6 = (-1 : Int32) then
  (some (.inr I))
  else
  (if x4 = (-1 : Int32) then
  (some (.inr I))
  else
  (if x4 = x5 then
  (inrO (jX4_gather_95 b0 o3 x1 x4 x6 I))
  else
  (inrO (jX4_gather_95 b0 o3 x1 x4 x5 I)))))
  else
  (bnd (fX11_roomOf (I b0 3) x7 I) fun v_20 =>
  if v_20 = x1 then
  (bnd (fX11_roomOf x2 x7 I) fun v_22 =>
  if v_22 = x1 then
  (some (.inl (x4, x7, x5, (x7 + (-1 : Int32)))))
  else
  (some (.inl (x7, x7, x5, (x7 + (-1 : Int32))))))
  else
  (some (.inl (x4, x5, x6, (x7 + (-1 : Int32))))))
def sX4_gather_17 (b0 : Nat) (o3 : Nat) (x1 : Int32) (x2 : Int32) (I : Mem) (q : (Int32 × Int32 × Int32 × Int32)) : Option ((Int32 × Int32 × Int32 × Int32) ⊕ Mem) := bX4_gather_17 b0 o3 x1 x2 I q.1 q.2.1 q.2.2.1 q.2.2.2
set_option maxRecDepth 20000 in
theorem wX4_gather_17 (E : EV) (d : Nat) (rr : Option Value × Mem) (b0 : Nat) (o3 : Nat) (x1 : Int32) (x2 : Int32) (I : Mem) (x4 : Int32) (x5 : Int32) (x6 : Int32) (x7 : Int32) (hb0 : isH b0) (ho3 : isL o3) (y : ((Int32 × Int32 × Int32 × Int32) ⊕ Mem)) (hf : bX4_gather_17 b0 o3 x1 x2 I x4 x5 x6 x7 = some y) (hK : (KX4_gather_17 E d rr b0 o3 x1 x2 I (fun (z : Mem) => ((none : Option Value), z) = rr)) y) : G E (d + 1) kX4_gather 17 [some (.ref b0), some (.int x1), some (.int x2), some (.ref o3), some (.int x4), some (.int x5), some (.int x6), some (.int x7), none] [] I rr := by
  unfold bX4_gather_17 at hf
  refine G.iload dX4_gather_17 rfl ?_
  refine G.if_lt (tgt := 68) dX4_gather_19 (by decide) (fun c_25 => ?_) (fun c_25 => ?_)
  · have hf := ite_t hf c_25
    refine G.iload dX4_gather_68 rfl ?_
    refine G.iconst (v := -1) dX4_gather_70 (by decide) ?_
    refine G.icmp_eq (tgt := 80) dX4_gather_71 (by decide) (fun c_18 => ?_) (fun c_18 => ?_)
    · have hf := ite_t hf c_18
      cases hf
      exact G.vret' dX4_gather_80 rfl hK
    · have hf := ite_f hf c_18
      refine G.iload dX4_gather_74 rfl ?_
      refine G.iconst (v := -1) dX4_gather_76 (by decide) ?_
      refine G.icmp_ne (tgt := 81) dX4_gather_77 (by decide) (fun c_17 => ?_) (fun c_17 => ?_)
      · have hf := ite_f hf c_17
        refine G.iload dX4_gather_81 rfl ?_
        refine G.iload dX4_gather_83 rfl ?_
        refine G.icmp_ne (tgt := 93) dX4_gather_85 (by decide) (fun c_16 => ?_) (fun c_16 => ?_)
        · have hf := ite_f hf c_16
          refine G.iload dX4_gather_93 rfl ?_
          obtain ⟨z_14, hz_14, rfl⟩ := inrO_at hf
          have hf := hz_14
          refine G.forget (L' := [some (.ref b0), some (.int x1), none, some (.ref o3), some (.int x4), none, none, none, none]) [2, 5, 6, 7] rfl ?_
          exact tX4_gather_95 E d rr b0 o3 x1 x4 x5 I hb0 ho3 _ hf hK
        · have hf := ite_t hf c_16
          refine G.iload dX4_gather_88 rfl ?_
          refine G.goto (tgt := 95) dX4_gather_90 (by decide) ?_
          obtain ⟨z_15, hz_15, rfl⟩ := inrO_at hf
          have hf := hz_15
          refine G.forget (L' := [some (.ref b0), some (.int x1), none, some (.ref o3), some (.int x4), none, none, none, none]) [2, 5, 6, 7] rfl ?_
          exact tX4_gather_95 E d rr b0 o3 x1 x4 x6 I hb0 ho3 _ hf hK
      · have hf := ite_t hf c_17
        cases hf
        exact G.vret' dX4_gather_80 rfl hK
  · have hf := ite_f hf c_25
    refine G.aload_n dX4_gather_22 rfl rfl ?_
    refine G.getI dX4_gather_23 flX4_49 (isH_lt hb0) (isH_lk hb0) ?_
    refine G.iload dX4_gather_26 rfl ?_
    obtain ⟨v_20, hc_19, hf⟩ := bnd_at hf
    refine G.callNi (av := [.int (I b0 3), .int x7]) (rest := []) dX4_gather_28 mnX4_76 (gX11_roomOf E d (I b0 3) x7 I hc_19) rfl rfl (Nat.le_of_ble_eq_true rfl) ?_
    refine G.iload_n dX4_gather_31 rfl rfl ?_
    refine G.icmp_ne (tgt := 62) dX4_gather_32 (by decide) (fun c_24 => ?_) (fun c_24 => ?_)
    · have hf := ite_f hf c_24
      refine G.inc (w := -1) (L' := [some (.ref b0), some (.int x1), some (.int x2), some (.ref o3), some (.int x4), some (.int x5), some (.int x6), some (.int (x7 + (-1 : Int32))), none]) dX4_gather_62 (by decide) rfl (Nat.le_of_ble_eq_true rfl) rfl rfl ?_
      refine G.goto (tgt := 17) dX4_gather_65 (by decide) ?_
      cases hf
      exact hK
    · have hf := ite_t hf c_24
      refine G.iload dX4_gather_35 rfl ?_
      refine G.istore (L' := [some (.ref b0), some (.int x1), some (.int x2), some (.ref o3), some (.int x4), some (.int x5), some (.int x5), some (.int x7), none]) dX4_gather_37 (Nat.le_of_ble_eq_true rfl) (Nat.le_of_ble_eq_true rfl) rfl rfl ?_
      refine G.iload dX4_gather_39 rfl ?_
      refine G.istore (L' := [some (.ref b0), some (.int x1), some (.int x2), some (.ref o3), some (.int x4), some (.int x7), some (.int x5), some (.int x7), none]) dX4_gather_41 (Nat.le_of_ble_eq_true rfl) (Nat.le_of_ble_eq_true rfl) rfl rfl ?_
      refine G.iload_n dX4_gather_43 rfl rfl ?_
      refine G.iload dX4_gather_44 rfl ?_
      obtain ⟨v_22, hc_21, hf⟩ := bnd_at hf
      refine G.callNi (av := [.int x2, .int x7]) (rest := []) dX4_gather_46 mnX4_76 (gX11_roomOf E d x2 x7 I hc_21) rfl rfl (Nat.le_of_ble_eq_true rfl) ?_
      refine G.iload_n dX4_gather_49 rfl rfl ?_
      refine G.icmp_ne (tgt := 58) dX4_gather_50 (by decide) (fun c_23 => ?_) (fun c_23 => ?_)
      · have hf := ite_f hf c_23
        refine G.iload dX4_gather_58 rfl ?_
        refine G.istore (L' := [some (.ref b0), some (.int x1), some (.int x2), some (.ref o3), some (.int x7), some (.int x7), some (.int x5), some (.int x7), none]) dX4_gather_60 (Nat.le_of_ble_eq_true rfl) (Nat.le_of_ble_eq_true rfl) rfl rfl ?_
        refine G.inc (w := -1) (L' := [some (.ref b0), some (.int x1), some (.int x2), some (.ref o3), some (.int x7), some (.int x7), some (.int x5), some (.int (x7 + (-1 : Int32))), none]) dX4_gather_62 (by decide) rfl (Nat.le_of_ble_eq_true rfl) rfl rfl ?_
        refine G.goto (tgt := 17) dX4_gather_65 (by decide) ?_
        cases hf
        exact hK
      · have hf := ite_t hf c_23
        refine G.iload dX4_gather_53 rfl ?_
        refine G.goto (tgt := 60) dX4_gather_55 (by decide) ?_
        refine G.istore (L' := [some (.ref b0), some (.int x1), some (.int x2), some (.ref o3), some (.int x4), some (.int x7), some (.int x5), some (.int x7), none]) dX4_gather_60 (Nat.le_of_ble_eq_true rfl) (Nat.le_of_ble_eq_true rfl) rfl rfl ?_
        refine G.inc (w := -1) (L' := [some (.ref b0), some (.int x1), some (.int x2), some (.ref o3), some (.int x4), some (.int x7), some (.int x5), some (.int (x7 + (-1 : Int32))), none]) dX4_gather_62 (by decide) rfl (Nat.le_of_ble_eq_true rfl) rfl rfl ?_
        refine G.goto (tgt := 17) dX4_gather_65 (by decide) ?_
        cases hf
        exact hK
theorem lX4_gather_17 (E : EV) (d : Nat) (rr : Option Value × Mem) (b0 : Nat) (o3 : Nat) (x1 : Int32) (x2 : Int32) (I : Mem) (hb0 : isH b0) (ho3 : isL o3) (z : Mem) (hK : (fun (z : Mem) => ((none : Option Value), z) = rr) z) : ∀ (n : Nat) (q : (Int32 × Int32 × Int32 × Int32)), iter (sX4_gather_17 b0 o3 x1 x2 I) n q = some z → G E (d + 1) kX4_gather 17 [some (.ref b0), some (.int x1), some (.int x2), some (.ref o3), some (.int q.1), some (.int q.2.1), some (.int q.2.2.1), some (.int q.2.2.2), none] [] I rr := by
  intro n
  induction n with
  | zero => intro q h; cases h
  | succ n ih =>
    intro q h
    rcases iter_at h with ⟨q2, hs, h2⟩ | hs
    · exact wX4_gather_17 E d rr b0 o3 x1 x2 I q.1 q.2.1 q.2.2.1 q.2.2.2 hb0 ho3 _ hs (ih q2 h2)
    · exact wX4_gather_17 E d rr b0 o3 x1 x2 I q.1 q.2.1 q.2.2.1 q.2.2.2 hb0 ho3 _ hs hK
def fX4_gather (b0 : Nat) (x1 : Int32) (x2 : Int32) (o3 : Nat) (I : Mem) : Option Mem :=
  letb ((I b0 2) - (1 : Int32)) fun x7_1 =>
  iter (sX4_gather_17 b0 o3 x1 x2 I) FU ((-1 : Int32), (-1 : Int32), (-1 : Int32), x7_1)
set_option maxRecDepth 20000 in
theorem gX4_gather (E : EV) (d : Nat) (b0 : Nat) (x1 : Int32) (x2 : Int32) (o3 : Nat) (I : Mem) (hb0 : isH b0) (ho3 : isL o3) {J : Mem} (hf : fX4_gather b0 x1 x2 o3 I = some J) : Gm E (d + 1) kX4_gather [.ref b0, .int x1, .int x2, .ref o3] I (none, J) := by
  refine Gm.of (by decide) rfl (Nat.le_of_ble_eq_true rfl) ?_
  generalize hrr : ((none, J) : Option Value × Mem) = rr
  show G E (d + 1) kX4_gather 0 [some (.ref b0), some (.int x1), some (.int x2), some (.ref o3), none, none, none, none, none] [] I rr
  have hK : (fun (z : Mem) => ((none : Option Value), z) = rr) J := hrr
  clear hrr
  unfold fX4_gather at hf
  refine G.iconst (v := -1) dX4_gather_0 (by decide) ?_
  refine G.istore (L' := [some (.ref b0), some (.int x1), some (.int x2), some (.ref o3), some (.int (-1 : Int32)), none, none, none, none]) dX4_gather_1 (Nat.le_of_ble_eq_true rfl) (Nat.le_of_ble_eq_true rfl) rfl rfl ?_
  refine G.iconst (v := -1) dX4_gather_3 (by decide) ?_
  refine G.istore (L' := [some (.ref b0), some (.int x1), some (.int x2), some (.ref o3), some (.int (-1 : Int32)), some (.int (-1 : Int32)), none, none, none]) dX4_gather_4 (Nat.le_of_ble_eq_true rfl) (Nat.le_of_ble_eq_true rfl) rfl rfl ?_
  refine G.iconst (v := -1) dX4_gather_6 (by decide) ?_
  refine G.istore (L' := [some (.ref b0), some (.int x1), some (.int x2), some (.ref o3), some (.int (-1 : Int32)), some (.int (-1 : Int32)), some (.int (-1 : Int32)), none, none]) dX4_gather_7 (Nat.le_of_ble_eq_true rfl) (Nat.le_of_ble_eq_true rfl) rfl rfl ?_
  refine G.aload_n dX4_gather_9 rfl rfl ?_
  refine G.getI dX4_gather_10 flX4_46 (isH_lt hb0) (isH_lk hb0) ?_
  refine G.iconst (v := 1) dX4_gather_13 (by decide) ?_
  refine G.isub dX4_gather_14 ?_
  refine G.nmi (fun x7_1 e_x7_1 => ?_)
  have hf := letb_at hf e_x7_1
  clear e_x7_1
  refine G.istore (L' := [some (.ref b0), some (.int x1), some (.int x2), some (.ref o3), some (.int (-1 : Int32)), some (.int (-1 : Int32)), some (.int (-1 : Int32)), some (.int x7_1), none]) dX4_gather_15 (Nat.le_of_ble_eq_true rfl) (Nat.le_of_ble_eq_true rfl) rfl rfl ?_
  exact lX4_gather_17 E d rr b0 o3 x1 x2 I hb0 ho3 _ hK FU _ hf
theorem dX4_go_0 : decode cX4_go 0 = .ok (.aload_n 0, 1) := by decide +kernel
theorem dX4_go_1 : decode cX4_go 1 = .ok (.getfield 49, 3) := by decide +kernel
theorem dX4_go_4 : decode cX4_go 4 = .ok (.istore_n 3, 1) := by decide +kernel
theorem dX4_go_5 : decode cX4_go 5 = .ok (.aload_n 0, 1) := by decide +kernel
theorem dX4_go_6 : decode cX4_go 6 = .ok (.dup, 1) := by decide +kernel
theorem dX4_go_7 : decode cX4_go 7 = .ok (.getfield 55, 3) := by decide +kernel
theorem dX4_go_10 : decode cX4_go 10 = .ok (.iconst 1, 1) := by decide +kernel
theorem dX4_go_11 : decode cX4_go 11 = .ok (.iadd, 1) := by decide +kernel
theorem dX4_go_12 : decode cX4_go 12 = .ok (.putfield 55, 3) := by decide +kernel
theorem dX4_go_15 : decode cX4_go 15 = .ok (.aload_n 0, 1) := by decide +kernel
theorem dX4_go_16 : decode cX4_go 16 = .ok (.iload_n 3, 1) := by decide +kernel
theorem dX4_go_17 : decode cX4_go 17 = .ok (.iload_n 1, 1) := by decide +kernel
theorem dX4_go_18 : decode cX4_go 18 = .ok (.aload_n 0, 1) := by decide +kernel
theorem dX4_go_19 : decode cX4_go 19 = .ok (.iload_n 3, 1) := by decide +kernel
theorem dX4_go_20 : decode cX4_go 20 = .ok (.invokevirtual 87, 3) := by decide +kernel
theorem dX4_go_23 : decode cX4_go 23 = .ok (.aload_n 0, 1) := by decide +kernel
theorem dX4_go_24 : decode cX4_go 24 = .ok (.iload_n 1, 1) := by decide +kernel
theorem dX4_go_25 : decode cX4_go 25 = .ok (.invokevirtual 87, 3) := by decide +kernel
theorem dX4_go_28 : decode cX4_go 28 = .ok (.aload_n 0, 1) := by decide +kernel
theorem dX4_go_29 : decode cX4_go 29 = .ok (.getfield 55, 3) := by decide +kernel
theorem dX4_go_32 : decode cX4_go 32 = .ok (.aload_n 2, 1) := by decide +kernel
theorem dX4_go_33 : decode cX4_go 33 = .ok (.invokevirtual 108, 3) := by decide +kernel
theorem dX4_go_36 : decode cX4_go 36 = .ok (.istore 4, 2) := by decide +kernel
theorem dX4_go_38 : decode cX4_go 38 = .ok (.aload_n 0, 1) := by decide +kernel
theorem dX4_go_39 : decode cX4_go 39 = .ok (.iload_n 1, 1) := by decide +kernel
theorem dX4_go_40 : decode cX4_go 40 = .ok (.putfield 49, 3) := by decide +kernel
theorem dX4_go_43 : decode cX4_go 43 = .ok (.iconst 0, 1) := by decide +kernel
theorem dX4_go_44 : decode cX4_go 44 = .ok (.istore 5, 2) := by decide +kernel
theorem dX4_go_46 : decode cX4_go 46 = .ok (.iload 5, 2) := by decide +kernel
theorem dX4_go_48 : decode cX4_go 48 = .ok (.aload_n 0, 1) := by decide +kernel
theorem dX4_go_49 : decode cX4_go 49 = .ok (.getfield 46, 3) := by decide +kernel
theorem dX4_go_52 : decode cX4_go 52 = .ok (.if_icmp .ge 45, 3) := by decide +kernel
theorem dX4_go_55 : decode cX4_go 55 = .ok (.iload 4, 2) := by decide +kernel
theorem dX4_go_57 : decode cX4_go 57 = .ok (.iload 5, 2) := by decide +kernel
theorem dX4_go_59 : decode cX4_go 59 = .ok (.invokestatic 83, 3) := by decide +kernel
theorem dX4_go_62 : decode cX4_go 62 = .ok (.ifCond .eq 29, 3) := by decide +kernel
theorem dX4_go_65 : decode cX4_go 65 = .ok (.aload_n 0, 1) := by decide +kernel
theorem dX4_go_66 : decode cX4_go 66 = .ok (.getfield 25, 3) := by decide +kernel
theorem dX4_go_69 : decode cX4_go 69 = .ok (.iload 5, 2) := by decide +kernel
theorem dX4_go_71 : decode cX4_go 71 = .ok (.dup2, 1) := by decide +kernel
theorem dX4_go_72 : decode cX4_go 72 = .ok (.iaload, 1) := by decide +kernel
theorem dX4_go_73 : decode cX4_go 73 = .ok (.iconst 1, 1) := by decide +kernel
theorem dX4_go_74 : decode cX4_go 74 = .ok (.isub, 1) := by decide +kernel
theorem dX4_go_75 : decode cX4_go 75 = .ok (.iastore, 1) := by decide +kernel
theorem dX4_go_76 : decode cX4_go 76 = .ok (.aload_n 0, 1) := by decide +kernel
theorem dX4_go_77 : decode cX4_go 77 = .ok (.getfield 19, 3) := by decide +kernel
theorem dX4_go_80 : decode cX4_go 80 = .ok (.iload_n 1, 1) := by decide +kernel
theorem dX4_go_81 : decode cX4_go 81 = .ok (.iload 5, 2) := by decide +kernel
theorem dX4_go_83 : decode cX4_go 83 = .ok (.invokestatic 76, 3) := by decide +kernel
theorem dX4_go_86 : decode cX4_go 86 = .ok (.dup2, 1) := by decide +kernel
theorem dX4_go_87 : decode cX4_go 87 = .ok (.iaload, 1) := by decide +kernel
theorem dX4_go_88 : decode cX4_go 88 = .ok (.iconst 1, 1) := by decide +kernel
theorem dX4_go_89 : decode cX4_go 89 = .ok (.iadd, 1) := by decide +kernel
theorem dX4_go_90 : decode cX4_go 90 = .ok (.iastore, 1) := by decide +kernel
theorem dX4_go_91 : decode cX4_go 91 = .ok (.iinc 5 1, 3) := by decide +kernel
theorem dX4_go_94 : decode cX4_go 94 = .ok (.goto (-48), 3) := by decide +kernel
theorem dX4_go_97 : decode cX4_go 97 = .ok (.iconst 0, 1) := by decide +kernel
theorem dX4_go_98 : decode cX4_go 98 = .ok (.istore 5, 2) := by decide +kernel
theorem dX4_go_100 : decode cX4_go 100 = .ok (.iload 5, 2) := by decide +kernel
theorem dX4_go_102 : decode cX4_go 102 = .ok (.aload_n 0, 1) := by decide +kernel
theorem dX4_go_103 : decode cX4_go 103 = .ok (.getfield 9, 3) := by decide +kernel
theorem dX4_go_106 : decode cX4_go 106 = .ok (.if_icmp .ge 17, 3) := by decide +kernel
theorem dX4_go_109 : decode cX4_go 109 = .ok (.aload_n 0, 1) := by decide +kernel
theorem dX4_go_110 : decode cX4_go 110 = .ok (.iload 5, 2) := by decide +kernel
theorem dX4_go_112 : decode cX4_go 112 = .ok (.iload_n 3, 1) := by decide +kernel
theorem dX4_go_113 : decode cX4_go 113 = .ok (.aload_n 2, 1) := by decide +kernel
theorem dX4_go_114 : decode cX4_go 114 = .ok (.invokevirtual 112, 3) := by decide +kernel
theorem dX4_go_117 : decode cX4_go 117 = .ok (.iinc 5 1, 3) := by decide +kernel
theorem dX4_go_120 : decode cX4_go 120 = .ok (.goto (-20), 3) := by decide +kernel
theorem dX4_go_123 : decode cX4_go 123 = .ok (.iload 4, 2) := by decide +kernel
theorem dX4_go_125 : decode cX4_go 125 = .ok (.invokestatic 70, 3) := by decide +kernel
theorem dX4_go_128 : decode cX4_go 128 = .ok (.ireturn, 1) := by decide +kernel
def KX4_go_46 (E : EV) (d : Nat) (rr : Option Value × Mem) (b0 : Nat) (o2 : Nat) (x1 : Int32) (x3 : Int32) (x4 : Int32) (Kp : (Int32 × Mem) → Prop) : ((Int32 × Mem) ⊕ (Int32 × Mem)) → Prop
  | .inl q => G E (d + 3) kX4_go 46 [some (.ref b0), some (.int x1), some (.ref o2), some (.int x3), some (.int x4), some (.int q.1)] [] q.2 rr
  | .inr z => Kp z
def KX4_go_100 (E : EV) (d : Nat) (rr : Option Value × Mem) (b0 : Nat) (o2 : Nat) (x3 : Int32) (x4 : Int32) (Kp : (Int32 × Mem) → Prop) : ((Int32 × Mem) ⊕ (Int32 × Mem)) → Prop
  | .inl q => G E (d + 3) kX4_go 100 [some (.ref b0), none, some (.ref o2), some (.int x3), some (.int x4), some (.int q.1)] [] q.2 rr
  | .inr z => Kp z
def bX4_go_100 (b0 : Nat) (o2 : Nat) (x3 : Int32) (x4 : Int32) (x5 : Int32) (I : Mem) : Option ((Int32 × Mem) ⊕ (Int32 × Mem)) :=
  if (I b0 0) ≤ x5 then
  (bnd (fJ6_bitCount_0f7a4 x4 I) fun v_11 =>
  some (.inr (v_11, I)))
  else
  (bnd (fX4_gather b0 x5 x3 o2 I) fun I_13 =>
  some (.inl ((x5 + (1 : Int32)), I_13)))
def sX4_go_100 (b0 : Nat) (o2 : Nat) (x3 : Int32) (x4 : Int32) (q : (Int32 × Mem)) : Option ((Int32 × Mem) ⊕ (Int32 × Mem)) := bX4_go_100 b0 o2 x3 x4 q.1 q.2
set_option maxRecDepth 20000 in
theorem wX4_go_100 (E : EV) (d : Nat) (rr : Option Value × Mem) (b0 : Nat) (o2 : Nat) (x3 : Int32) (x4 : Int32) (x5 : Int32) (I : Mem) (hb0 : isH b0) (ho2 : isL o2) (y : ((Int32 × Mem) ⊕ (Int32 × Mem))) (hf : bX4_go_100 b0 o2 x3 x4 x5 I = some y) (hK : (KX4_go_100 E d rr b0 o2 x3 x4 (fun (z : Int32 × Mem) => (some (.int z.1), z.2) = rr)) y) : G E (d + 3) kX4_go 100 [some (.ref b0), none, some (.ref o2), some (.int x3), some (.int x4), some (.int x5)] [] I rr := by
  unfold bX4_go_100 at hf
  refine G.iload dX4_go_100 rfl ?_
  refine G.aload_n dX4_go_102 rfl rfl ?_
  refine G.getI dX4_go_103 flX4_9 (isH_lt hb0) (isH_lk hb0) ?_
  refine G.icmp_ge (tgt := 123) dX4_go_106 (by decide) (fun c_14 => ?_) (fun c_14 => ?_)
  · have hf := ite_t hf c_14
    refine G.iload dX4_go_123 rfl ?_
    obtain ⟨v_11, hc_10, hf⟩ := bnd_at hf
    refine G.callSi (av := [.int x4]) (rest := []) dX4_go_125 msX4_70 (gJ6_bitCount_0f7a4 E (d + 2) x4 I hc_10) rfl rfl (Nat.le_of_ble_eq_true rfl) ?_
    cases hf
    exact G.iret' dX4_go_128 rfl hK
  · have hf := ite_f hf c_14
    refine G.aload_n dX4_go_109 rfl rfl ?_
    refine G.iload dX4_go_110 rfl ?_
    refine G.iload_n dX4_go_112 rfl rfl ?_
    refine G.aload_n dX4_go_113 rfl rfl ?_
    obtain ⟨I_13, hc_12, hf⟩ := bnd_at hf
    refine G.callVv (av := [.int x5, .int x3, .ref o2]) (rest := []) dX4_go_114 mvX4_112 (gX4_gather E (d + 1) b0 x5 x3 o2 I hb0 ho2 hc_12) (isH_lt hb0) (isH_lk hb0) rfl rfl (Nat.le_of_ble_eq_true rfl) ?_
    refine G.inc (w := 1) (L' := [some (.ref b0), none, some (.ref o2), some (.int x3), some (.int x4), some (.int (x5 + (1 : Int32)))]) dX4_go_117 (by decide) rfl (Nat.le_of_ble_eq_true rfl) rfl rfl ?_
    refine G.goto (tgt := 100) dX4_go_120 (by decide) ?_
    cases hf
    exact hK
theorem lX4_go_100 (E : EV) (d : Nat) (rr : Option Value × Mem) (b0 : Nat) (o2 : Nat) (x3 : Int32) (x4 : Int32) (hb0 : isH b0) (ho2 : isL o2) (z : (Int32 × Mem)) (hK : (fun (z : Int32 × Mem) => (some (.int z.1), z.2) = rr) z) : ∀ (n : Nat) (q : (Int32 × Mem)), iter (sX4_go_100 b0 o2 x3 x4) n q = some z → G E (d + 3) kX4_go 100 [some (.ref b0), none, some (.ref o2), some (.int x3), some (.int x4), some (.int q.1)] [] q.2 rr := by
  intro n
  induction n with
  | zero => intro q h; cases h
  | succ n ih =>
    intro q h
    rcases iter_at h with ⟨q2, hs, h2⟩ | hs
    · exact wX4_go_100 E d rr b0 o2 x3 x4 q.1 q.2 hb0 ho2 _ hs (ih q2 h2)
    · exact wX4_go_100 E d rr b0 o2 x3 x4 q.1 q.2 hb0 ho2 _ hs hK
def bX4_go_46 (b0 : Nat) (o2 : Nat) (x1 : Int32) (x3 : Int32) (x4 : Int32) (x5 : Int32) (I : Mem) : Option ((Int32 × Mem) ⊕ (Int32 × Mem)) :=
  if (I b0 2) ≤ x5 then
  (inrO (iter (sX4_go_100 b0 o2 x3 x4) FU ((0 : Int32), I)))
  else
  (bnd (fX11_has x4 x5 I) fun v_17 =>
  if v_17 = 0 then
  (some (.inl ((x5 + (1 : Int32)), I)))
  else
  (chk (inb x5 4) <|
  chk (inb x5 4) <|
  letb (up2 I (b0 + 4) (ix x5) ((I (b0 + 4) (ix x5)) - (1 : Int32))) fun I_20 =>
  bnd (fX11_roomOf x1 x5 I_20) fun v_22 =>
  chk (inb v_22 5) <|
  chk (inb v_22 5) <|
  letb (up2 I_20 (b0 + 2) (ix v_22) ((I_20 (b0 + 2) (ix v_22)) + (1 : Int32))) fun I_25 =>
  some (.inl ((x5 + (1 : Int32)), I_25))))
def sX4_go_46 (b0 : Nat) (o2 : Nat) (x1 : Int32) (x3 : Int32) (x4 : Int32) (q : (Int32 × Mem)) : Option ((Int32 × Mem) ⊕ (Int32 × Mem)) := bX4_go_46 b0 o2 x1 x3 x4 q.1 q.2
set_option maxRecDepth 20000 in
theorem wX4_go_46 (E : EV) (d : Nat) (rr : Option Value × Mem) (b0 : Nat) (o2 : Nat) (x1 : Int32) (x3 : Int32) (x4 : Int32) (x5 : Int32) (I : Mem) (hb0 : isH b0) (ho2 : isL o2) (y : ((Int32 × Mem) ⊕ (Int32 × Mem))) (hf : bX4_go_46 b0 o2 x1 x3 x4 x5 I = some y) (hK : (KX4_go_46 E d rr b0 o2 x1 x3 x4 (fun (z : Int32 × Mem) => (some (.int z.1), z.2) = rr)) y) : G E (d + 3) kX4_go 46 [some (.ref b0), some (.int x1), some (.ref o2), some (.int x3), some (.int x4), some (.int x5)] [] I rr := by
  unfold bX4_go_46 at hf
  refine G.iload dX4_go_46 rfl ?_
  refine G.aload_n dX4_go_48 rfl rfl ?_
  refine G.getI dX4_go_49 flX4_46 (isH_lt hb0) (isH_lk hb0) ?_
  refine G.icmp_ge (tgt := 97) dX4_go_52 (by decide) (fun c_27 => ?_) (fun c_27 => ?_)
  · have hf := ite_t hf c_27
    refine G.iconst (v := 0) dX4_go_97 (by decide) ?_
    refine G.istore (L' := [some (.ref b0), some (.int x1), some (.ref o2), some (.int x3), some (.int x4), some (.int (0 : Int32))]) dX4_go_98 (Nat.le_of_ble_eq_true rfl) (Nat.le_of_ble_eq_true rfl) rfl rfl ?_
    obtain ⟨z_15, hz_15, rfl⟩ := inrO_at hf
    have hf := hz_15
    refine G.forget (L' := [some (.ref b0), none, some (.ref o2), some (.int x3), some (.int x4), some (.int (0 : Int32))]) [1] rfl ?_
    exact lX4_go_100 E d rr b0 o2 x3 x4 hb0 ho2 _ hK FU _ hf
  · have hf := ite_f hf c_27
    refine G.iload dX4_go_55 rfl ?_
    refine G.iload dX4_go_57 rfl ?_
    obtain ⟨v_17, hc_16, hf⟩ := bnd_at hf
    refine G.callNi (av := [.int x4, .int x5]) (rest := []) dX4_go_59 mnX4_83 (gX11_has E (d + 2) x4 x5 I hc_16) rfl rfl (Nat.le_of_ble_eq_true rfl) ?_
    refine G.if_eq (tgt := 91) dX4_go_62 (by decide) (fun c_26 => ?_) (fun c_26 => ?_)
    · have hf := ite_t hf c_26
      refine G.inc (w := 1) (L' := [some (.ref b0), some (.int x1), some (.ref o2), some (.int x3), some (.int x4), some (.int (x5 + (1 : Int32)))]) dX4_go_91 (by decide) rfl (Nat.le_of_ble_eq_true rfl) rfl rfl ?_
      refine G.goto (tgt := 46) dX4_go_94 (by decide) ?_
      cases hf
      exact hK
    · have hf := ite_f hf c_26
      refine G.aload_n dX4_go_65 rfl rfl ?_
      refine G.getR (q := (b0 + 4)) dX4_go_66 flX4_25 (isH_lt hb0) (isH_lk hb0) (isH_r4 hb0) ?_
      refine G.iload dX4_go_69 rfl ?_
      refine G.dup2 dX4_go_71 rfl rfl ?_
      obtain ⟨hi_18, hf⟩ := chk_at hf
      refine G.iald' dX4_go_72 (isH_l4 hb0) (isH_k4 hb0) (isH_n4 hb0) hi_18 ?_
      refine G.iconst (v := 1) dX4_go_73 (by decide) ?_
      refine G.isub dX4_go_74 ?_
      obtain ⟨hi_19, hf⟩ := chk_at hf
      refine G.iast' dX4_go_75 (isH_l4 hb0) (isH_k4 hb0) (isH_n4 hb0) hi_19 ?_
      refine G.nmI (fun I_20 e_I_20 => ?_)
      have hf := letb_at hf e_I_20
      clear e_I_20
      refine G.aload_n dX4_go_76 rfl rfl ?_
      refine G.getR (q := (b0 + 2)) dX4_go_77 flX4_19 (isH_lt hb0) (isH_lk hb0) (isH_r2 hb0) ?_
      refine G.iload_n dX4_go_80 rfl rfl ?_
      refine G.iload dX4_go_81 rfl ?_
      obtain ⟨v_22, hc_21, hf⟩ := bnd_at hf
      refine G.callNi (av := [.int x1, .int x5]) (rest := [.ref (b0 + 2)]) dX4_go_83 mnX4_76 (gX11_roomOf E (d + 2) x1 x5 I_20 hc_21) rfl rfl (Nat.le_of_ble_eq_true rfl) ?_
      refine G.dup2 dX4_go_86 rfl rfl ?_
      obtain ⟨hi_23, hf⟩ := chk_at hf
      refine G.iald' dX4_go_87 (isH_l2 hb0) (isH_k2 hb0) (isH_n2 hb0) hi_23 ?_
      refine G.iconst (v := 1) dX4_go_88 (by decide) ?_
      refine G.iadd dX4_go_89 ?_
      obtain ⟨hi_24, hf⟩ := chk_at hf
      refine G.iast' dX4_go_90 (isH_l2 hb0) (isH_k2 hb0) (isH_n2 hb0) hi_24 ?_
      refine G.nmI (fun I_25 e_I_25 => ?_)
      have hf := letb_at hf e_I_25
      clear e_I_25
      refine G.inc (w := 1) (L' := [some (.ref b0), some (.int x1), some (.ref o2), some (.int x3), some (.int x4), some (.int (x5 + (1 : Int32)))]) dX4_go_91 (by decide) rfl (Nat.le_of_ble_eq_true rfl) rfl rfl ?_
      refine G.goto (tgt := 46) dX4_go_94 (by decide) ?_
      cases hf
      exact hK
theorem lX4_go_46 (E : EV) (d : Nat) (rr : Option Value × Mem) (b0 : Nat) (o2 : Nat) (x1 : Int32) (x3 : Int32) (x4 : Int32) (hb0 : isH b0) (ho2 : isL o2) (z : (Int32 × Mem)) (hK : (fun (z : Int32 × Mem) => (some (.int z.1), z.2) = rr) z) : ∀ (n : Nat) (q : (Int32 × Mem)), iter (sX4_go_46 b0 o2 x1 x3 x4) n q = some z → G E (d + 3) kX4_go 46 [some (.ref b0), some (.int x1), some (.ref o2), some (.int x3), some (.int x4), some (.int q.1)] [] q.2 rr := by
  intro n
  induction n with
  | zero => intro q h; cases h
  | succ n ih =>
    intro q h
    rcases iter_at h with ⟨q2, hs, h2⟩ | hs
    · exact wX4_go_46 E d rr b0 o2 x1 x3 x4 q.1 q.2 hb0 ho2 _ hs (ih q2 h2)
    · exact wX4_go_46 E d rr b0 o2 x1 x3 x4 q.1 q.2 hb0 ho2 _ hs hK
def fX4_go (b0 : Nat) (x1 : Int32) (o2 : Nat) (I : Mem) : Option (Int32 × Mem) :=
  letb (I b0 3) fun x3_1 =>
  letb (up2 I b0 5 ((I b0 5) + (1 : Int32))) fun I_2 =>
  bnd (fX4_lone b0 x3_1 I_2) fun v_4 =>
  bnd (fX4_lone b0 x1 I_2) fun v_6 =>
  bnd (fX4_payers b0 x3_1 x1 v_4 v_6 (I_2 b0 5) o2 I_2) fun v_8 =>
  letb (up2 I_2 b0 3 x1) fun I_9 =>
  iter (sX4_go_46 b0 o2 x1 x3_1 v_8) FU ((0 : Int32), I_9)
set_option maxRecDepth 20000 in
theorem gX4_go (E : EV) (d : Nat) (b0 : Nat) (x1 : Int32) (o2 : Nat) (I : Mem) (hb0 : isH b0) (ho2 : isL o2) {v : Int32} {J : Mem} (hf : fX4_go b0 x1 o2 I = some (v, J)) : Gm E (d + 3) kX4_go [.ref b0, .int x1, .ref o2] I (some (.int v), J) := by
  refine Gm.of (by decide) rfl (Nat.le_of_ble_eq_true rfl) ?_
  generalize hrr : ((some (.int v), J) : Option Value × Mem) = rr
  show G E (d + 3) kX4_go 0 [some (.ref b0), some (.int x1), some (.ref o2), none, none, none] [] I rr
  have hK : (fun (z : Int32 × Mem) => (some (.int z.1), z.2) = rr) (v, J) := hrr
  clear hrr
  unfold fX4_go at hf
  refine G.aload_n dX4_go_0 rfl rfl ?_
  refine G.getI dX4_go_1 flX4_49 (isH_lt hb0) (isH_lk hb0) ?_
  refine G.nmi (fun x3_1 e_x3_1 => ?_)
  have hf := letb_at hf e_x3_1
  clear e_x3_1
  refine G.istore_n (L' := [some (.ref b0), some (.int x1), some (.ref o2), some (.int x3_1), none, none]) dX4_go_4 rfl (Nat.le_of_ble_eq_true rfl) (Nat.le_of_ble_eq_true rfl) rfl rfl ?_
  refine G.aload_n dX4_go_5 rfl rfl ?_
  refine G.dup dX4_go_6 rfl ?_
  refine G.getI dX4_go_7 flX4_55 (isH_lt hb0) (isH_lk hb0) ?_
  refine G.iconst (v := 1) dX4_go_10 (by decide) ?_
  refine G.iadd dX4_go_11 ?_
  refine G.putI dX4_go_12 flX4_55 (isH_lt hb0) (isH_lk hb0) ?_
  refine G.nmI (fun I_2 e_I_2 => ?_)
  have hf := letb_at hf e_I_2
  clear e_I_2
  refine G.aload_n dX4_go_15 rfl rfl ?_
  refine G.iload_n dX4_go_16 rfl rfl ?_
  refine G.iload_n dX4_go_17 rfl rfl ?_
  refine G.aload_n dX4_go_18 rfl rfl ?_
  refine G.iload_n dX4_go_19 rfl rfl ?_
  obtain ⟨v_4, hc_3, hf⟩ := bnd_at hf
  refine G.callVi (av := [.int x3_1]) (rest := [.int x1, .int x3_1, .ref b0]) dX4_go_20 mvX4_87 (gX4_lone E (d + 1) b0 x3_1 I_2 hb0 hc_3) (isH_lt hb0) (isH_lk hb0) rfl rfl (Nat.le_of_ble_eq_true rfl) ?_
  refine G.aload_n dX4_go_23 rfl rfl ?_
  refine G.iload_n dX4_go_24 rfl rfl ?_
  obtain ⟨v_6, hc_5, hf⟩ := bnd_at hf
  refine G.callVi (av := [.int x1]) (rest := [.int v_4, .int x1, .int x3_1, .ref b0]) dX4_go_25 mvX4_87 (gX4_lone E (d + 1) b0 x1 I_2 hb0 hc_5) (isH_lt hb0) (isH_lk hb0) rfl rfl (Nat.le_of_ble_eq_true rfl) ?_
  refine G.aload_n dX4_go_28 rfl rfl ?_
  refine G.getI dX4_go_29 flX4_55 (isH_lt hb0) (isH_lk hb0) ?_
  refine G.aload_n dX4_go_32 rfl rfl ?_
  obtain ⟨v_8, hc_7, hf⟩ := bnd_at hf
  refine G.callVi (av := [.int x3_1, .int x1, .int v_4, .int v_6, .int (I_2 b0 5), .ref o2]) (rest := []) dX4_go_33 mvX4_108 (gX4_payers E d b0 x3_1 x1 v_4 v_6 (I_2 b0 5) o2 I_2 hb0 ho2 hc_7) (isH_lt hb0) (isH_lk hb0) rfl rfl (Nat.le_of_ble_eq_true rfl) ?_
  refine G.istore (L' := [some (.ref b0), some (.int x1), some (.ref o2), some (.int x3_1), some (.int v_8), none]) dX4_go_36 (Nat.le_of_ble_eq_true rfl) (Nat.le_of_ble_eq_true rfl) rfl rfl ?_
  refine G.aload_n dX4_go_38 rfl rfl ?_
  refine G.iload_n dX4_go_39 rfl rfl ?_
  refine G.putI dX4_go_40 flX4_49 (isH_lt hb0) (isH_lk hb0) ?_
  refine G.nmI (fun I_9 e_I_9 => ?_)
  have hf := letb_at hf e_I_9
  clear e_I_9
  refine G.iconst (v := 0) dX4_go_43 (by decide) ?_
  refine G.istore (L' := [some (.ref b0), some (.int x1), some (.ref o2), some (.int x3_1), some (.int v_8), some (.int (0 : Int32))]) dX4_go_44 (Nat.le_of_ble_eq_true rfl) (Nat.le_of_ble_eq_true rfl) rfl rfl ?_
  exact lX4_go_46 E d rr b0 o2 x1 x3_1 v_8 hb0 ho2 _ hK FU _ hf
theorem dX4_isAsTold_0 : decode cX4_isAsTold 0 = .ok (.iconst 0, 1) := by decide +kernel
theorem dX4_isAsTold_1 : decode cX4_isAsTold 1 = .ok (.istore_n 1, 1) := by decide +kernel
theorem dX4_isAsTold_2 : decode cX4_isAsTold 2 = .ok (.iload_n 1, 1) := by decide +kernel
theorem dX4_isAsTold_3 : decode cX4_isAsTold 3 = .ok (.aload_n 0, 1) := by decide +kernel
theorem dX4_isAsTold_4 : decode cX4_isAsTold 4 = .ok (.getfield 9, 3) := by decide +kernel
theorem dX4_isAsTold_7 : decode cX4_isAsTold 7 = .ok (.if_icmp .ge 26, 3) := by decide +kernel
theorem dX4_isAsTold_10 : decode cX4_isAsTold 10 = .ok (.aload_n 0, 1) := by decide +kernel
theorem dX4_isAsTold_11 : decode cX4_isAsTold 11 = .ok (.getfield 19, 3) := by decide +kernel
theorem dX4_isAsTold_14 : decode cX4_isAsTold 14 = .ok (.iload_n 1, 1) := by decide +kernel
theorem dX4_isAsTold_15 : decode cX4_isAsTold 15 = .ok (.iaload, 1) := by decide +kernel
theorem dX4_isAsTold_16 : decode cX4_isAsTold 16 = .ok (.aload_n 0, 1) := by decide +kernel
theorem dX4_isAsTold_17 : decode cX4_isAsTold 17 = .ok (.getfield 22, 3) := by decide +kernel
theorem dX4_isAsTold_20 : decode cX4_isAsTold 20 = .ok (.iload_n 1, 1) := by decide +kernel
theorem dX4_isAsTold_21 : decode cX4_isAsTold 21 = .ok (.iaload, 1) := by decide +kernel
theorem dX4_isAsTold_22 : decode cX4_isAsTold 22 = .ok (.if_icmp .eq 5, 3) := by decide +kernel
theorem dX4_isAsTold_25 : decode cX4_isAsTold 25 = .ok (.iconst 0, 1) := by decide +kernel
theorem dX4_isAsTold_26 : decode cX4_isAsTold 26 = .ok (.ireturn, 1) := by decide +kernel
theorem dX4_isAsTold_27 : decode cX4_isAsTold 27 = .ok (.iinc 1 1, 3) := by decide +kernel
theorem dX4_isAsTold_30 : decode cX4_isAsTold 30 = .ok (.goto (-28), 3) := by decide +kernel
theorem dX4_isAsTold_33 : decode cX4_isAsTold 33 = .ok (.iconst 1, 1) := by decide +kernel
theorem dX4_isAsTold_34 : decode cX4_isAsTold 34 = .ok (.ireturn, 1) := by decide +kernel
def KX4_isAsTold_2 (E : EV) (d : Nat) (rr : Option Value × Mem) (b0 : Nat) (I : Mem) (Kp : Int32 → Prop) : (Int32 ⊕ Int32) → Prop
  | .inl q => G E (d + 0) kX4_isAsTold 2 [some (.ref b0), some (.int q)] [] I rr
  | .inr z => Kp z
def bX4_isAsTold_2 (b0 : Nat) (I : Mem) (x1 : Int32) : Option (Int32 ⊕ Int32) :=
  if (I b0 0) ≤ x1 then
  (some (.inr (1 : Int32)))
  else
  (chk (inb x1 5) <|
  chk (inb x1 5) <|
  if (I (b0 + 2) (ix x1)) = (I (b0 + 3) (ix x1)) then
  (some (.inl (x1 + (1 : Int32))))
  else
  (some (.inr (0 : Int32))))
def sX4_isAsTold_2 (b0 : Nat) (I : Mem) (q : Int32) : Option (Int32 ⊕ Int32) := bX4_isAsTold_2 b0 I q
set_option maxRecDepth 20000 in
theorem wX4_isAsTold_2 (E : EV) (d : Nat) (rr : Option Value × Mem) (b0 : Nat) (I : Mem) (x1 : Int32) (hb0 : isH b0) (y : (Int32 ⊕ Int32)) (hf : bX4_isAsTold_2 b0 I x1 = some y) (hK : (KX4_isAsTold_2 E d rr b0 I (fun (z : Int32) => (some (.int z), I) = rr)) y) : G E (d + 0) kX4_isAsTold 2 [some (.ref b0), some (.int x1)] [] I rr := by
  unfold bX4_isAsTold_2 at hf
  refine G.iload_n dX4_isAsTold_2 rfl rfl ?_
  refine G.aload_n dX4_isAsTold_3 rfl rfl ?_
  refine G.getI dX4_isAsTold_4 flX4_9 (isH_lt hb0) (isH_lk hb0) ?_
  refine G.icmp_ge (tgt := 33) dX4_isAsTold_7 (by decide) (fun c_4 => ?_) (fun c_4 => ?_)
  · have hf := ite_t hf c_4
    refine G.iconst (v := 1) dX4_isAsTold_33 (by decide) ?_
    cases hf
    exact G.zret' dX4_isAsTold_34 rfl (by decide) hK
  · have hf := ite_f hf c_4
    refine G.aload_n dX4_isAsTold_10 rfl rfl ?_
    refine G.getR (q := (b0 + 2)) dX4_isAsTold_11 flX4_19 (isH_lt hb0) (isH_lk hb0) (isH_r2 hb0) ?_
    refine G.iload_n dX4_isAsTold_14 rfl rfl ?_
    obtain ⟨hi_1, hf⟩ := chk_at hf
    refine G.iald' dX4_isAsTold_15 (isH_l2 hb0) (isH_k2 hb0) (isH_n2 hb0) hi_1 ?_
    refine G.aload_n dX4_isAsTold_16 rfl rfl ?_
    refine G.getR (q := (b0 + 3)) dX4_isAsTold_17 flX4_22 (isH_lt hb0) (isH_lk hb0) (isH_r3 hb0) ?_
    refine G.iload_n dX4_isAsTold_20 rfl rfl ?_
    obtain ⟨hi_2, hf⟩ := chk_at hf
    refine G.iald' dX4_isAsTold_21 (isH_l3 hb0) (isH_k3 hb0) (isH_n3 hb0) hi_2 ?_
    refine G.icmp_eq (tgt := 27) dX4_isAsTold_22 (by decide) (fun c_3 => ?_) (fun c_3 => ?_)
    · have hf := ite_t hf c_3
      refine G.inc (w := 1) (L' := [some (.ref b0), some (.int (x1 + (1 : Int32)))]) dX4_isAsTold_27 (by decide) rfl (Nat.le_of_ble_eq_true rfl) rfl rfl ?_
      refine G.goto (tgt := 2) dX4_isAsTold_30 (by decide) ?_
      cases hf
      exact hK
    · have hf := ite_f hf c_3
      refine G.iconst (v := 0) dX4_isAsTold_25 (by decide) ?_
      cases hf
      exact G.zret' dX4_isAsTold_26 rfl (by decide) hK
theorem lX4_isAsTold_2 (E : EV) (d : Nat) (rr : Option Value × Mem) (b0 : Nat) (I : Mem) (hb0 : isH b0) (z : Int32) (hK : (fun (z : Int32) => (some (.int z), I) = rr) z) : ∀ (n : Nat) (q : Int32), iter (sX4_isAsTold_2 b0 I) n q = some z → G E (d + 0) kX4_isAsTold 2 [some (.ref b0), some (.int q)] [] I rr := by
  intro n
  induction n with
  | zero => intro q h; cases h
  | succ n ih =>
    intro q h
    rcases iter_at h with ⟨q2, hs, h2⟩ | hs
    · exact wX4_isAsTold_2 E d rr b0 I q hb0 _ hs (ih q2 h2)
    · exact wX4_isAsTold_2 E d rr b0 I q hb0 _ hs hK
def fX4_isAsTold (b0 : Nat) (I : Mem) : Option Int32 :=
  iter (sX4_isAsTold_2 b0 I) FU (0 : Int32)
set_option maxRecDepth 20000 in
theorem gX4_isAsTold (E : EV) (d : Nat) (b0 : Nat) (I : Mem) (hb0 : isH b0) {v : Int32} (hf : fX4_isAsTold b0 I = some v) : Gm E (d + 0) kX4_isAsTold [.ref b0] I (some (.int v), I) := by
  refine Gm.of (by decide) rfl (Nat.le_of_ble_eq_true rfl) ?_
  generalize hrr : ((some (.int v), I) : Option Value × Mem) = rr
  show G E (d + 0) kX4_isAsTold 0 [some (.ref b0), none] [] I rr
  have hK : (fun (z : Int32) => (some (.int z), I) = rr) v := hrr
  clear hrr
  unfold fX4_isAsTold at hf
  refine G.iconst (v := 0) dX4_isAsTold_0 (by decide) ?_
  refine G.istore_n (L' := [some (.ref b0), some (.int (0 : Int32))]) dX4_isAsTold_1 rfl (Nat.le_of_ble_eq_true rfl) (Nat.le_of_ble_eq_true rfl) rfl rfl ?_
  exact lX4_isAsTold_2 E d rr b0 I hb0 _ hK FU _ hf
theorem dX4_remember_0 : decode cX4_remember 0 = .ok (.aload_n 0, 1) := by decide +kernel
theorem dX4_remember_1 : decode cX4_remember 1 = .ok (.getfield 61, 3) := by decide +kernel
theorem dX4_remember_4 : decode cX4_remember 4 = .ok (.bipush 8, 2) := by decide +kernel
theorem dX4_remember_6 : decode cX4_remember 6 = .ok (.if_icmp .ne 29, 3) := by decide +kernel
theorem dX4_remember_9 : decode cX4_remember 9 = .ok (.aload_n 0, 1) := by decide +kernel
theorem dX4_remember_10 : decode cX4_remember 10 = .ok (.getfield 34, 3) := by decide +kernel
theorem dX4_remember_13 : decode cX4_remember 13 = .ok (.bipush 10, 2) := by decide +kernel
theorem dX4_remember_15 : decode cX4_remember 15 = .ok (.aload_n 0, 1) := by decide +kernel
theorem dX4_remember_16 : decode cX4_remember 16 = .ok (.getfield 34, 3) := by decide +kernel
theorem dX4_remember_19 : decode cX4_remember 19 = .ok (.iconst 0, 1) := by decide +kernel
theorem dX4_remember_20 : decode cX4_remember 20 = .ok (.bipush 70, 2) := by decide +kernel
theorem dX4_remember_22 : decode cX4_remember 22 = .ok (.invokestatic 64, 3) := by decide +kernel
theorem dX4_remember_25 : decode cX4_remember 25 = .ok (.aload_n 0, 1) := by decide +kernel
theorem dX4_remember_26 : decode cX4_remember 26 = .ok (.dup, 1) := by decide +kernel
theorem dX4_remember_27 : decode cX4_remember 27 = .ok (.getfield 61, 3) := by decide +kernel
theorem dX4_remember_30 : decode cX4_remember 30 = .ok (.iconst 1, 1) := by decide +kernel
theorem dX4_remember_31 : decode cX4_remember 31 = .ok (.isub, 1) := by decide +kernel
theorem dX4_remember_32 : decode cX4_remember 32 = .ok (.putfield 61, 3) := by decide +kernel
theorem dX4_remember_35 : decode cX4_remember 35 = .ok (.aload_n 0, 1) := by decide +kernel
theorem dX4_remember_36 : decode cX4_remember 36 = .ok (.getfield 61, 3) := by decide +kernel
theorem dX4_remember_39 : decode cX4_remember 39 = .ok (.bipush 10, 2) := by decide +kernel
theorem dX4_remember_41 : decode cX4_remember 41 = .ok (.imul, 1) := by decide +kernel
theorem dX4_remember_42 : decode cX4_remember 42 = .ok (.istore_n 1, 1) := by decide +kernel
theorem dX4_remember_43 : decode cX4_remember 43 = .ok (.aload_n 0, 1) := by decide +kernel
theorem dX4_remember_44 : decode cX4_remember 44 = .ok (.getfield 34, 3) := by decide +kernel
theorem dX4_remember_47 : decode cX4_remember 47 = .ok (.iload_n 1, 1) := by decide +kernel
theorem dX4_remember_48 : decode cX4_remember 48 = .ok (.aload_n 0, 1) := by decide +kernel
theorem dX4_remember_49 : decode cX4_remember 49 = .ok (.getfield 49, 3) := by decide +kernel
theorem dX4_remember_52 : decode cX4_remember 52 = .ok (.iastore, 1) := by decide +kernel
theorem dX4_remember_53 : decode cX4_remember 53 = .ok (.aload_n 0, 1) := by decide +kernel
theorem dX4_remember_54 : decode cX4_remember 54 = .ok (.getfield 19, 3) := by decide +kernel
theorem dX4_remember_57 : decode cX4_remember 57 = .ok (.iconst 0, 1) := by decide +kernel
theorem dX4_remember_58 : decode cX4_remember 58 = .ok (.aload_n 0, 1) := by decide +kernel
theorem dX4_remember_59 : decode cX4_remember 59 = .ok (.getfield 34, 3) := by decide +kernel
theorem dX4_remember_62 : decode cX4_remember 62 = .ok (.iload_n 1, 1) := by decide +kernel
theorem dX4_remember_63 : decode cX4_remember 63 = .ok (.iconst 1, 1) := by decide +kernel
theorem dX4_remember_64 : decode cX4_remember 64 = .ok (.iadd, 1) := by decide +kernel
theorem dX4_remember_65 : decode cX4_remember 65 = .ok (.iconst 5, 1) := by decide +kernel
theorem dX4_remember_66 : decode cX4_remember 66 = .ok (.invokestatic 64, 3) := by decide +kernel
theorem dX4_remember_69 : decode cX4_remember 69 = .ok (.aload_n 0, 1) := by decide +kernel
theorem dX4_remember_70 : decode cX4_remember 70 = .ok (.getfield 25, 3) := by decide +kernel
theorem dX4_remember_73 : decode cX4_remember 73 = .ok (.iconst 0, 1) := by decide +kernel
theorem dX4_remember_74 : decode cX4_remember 74 = .ok (.aload_n 0, 1) := by decide +kernel
theorem dX4_remember_75 : decode cX4_remember 75 = .ok (.getfield 34, 3) := by decide +kernel
theorem dX4_remember_78 : decode cX4_remember 78 = .ok (.iload_n 1, 1) := by decide +kernel
theorem dX4_remember_79 : decode cX4_remember 79 = .ok (.iconst 1, 1) := by decide +kernel
theorem dX4_remember_80 : decode cX4_remember 80 = .ok (.iadd, 1) := by decide +kernel
theorem dX4_remember_81 : decode cX4_remember 81 = .ok (.iconst 5, 1) := by decide +kernel
theorem dX4_remember_82 : decode cX4_remember 82 = .ok (.iadd, 1) := by decide +kernel
theorem dX4_remember_83 : decode cX4_remember 83 = .ok (.iconst 4, 1) := by decide +kernel
theorem dX4_remember_84 : decode cX4_remember 84 = .ok (.invokestatic 64, 3) := by decide +kernel
theorem dX4_remember_87 : decode cX4_remember 87 = .ok (.aload_n 0, 1) := by decide +kernel
theorem dX4_remember_88 : decode cX4_remember 88 = .ok (.dup, 1) := by decide +kernel
theorem dX4_remember_89 : decode cX4_remember 89 = .ok (.getfield 61, 3) := by decide +kernel
theorem dX4_remember_92 : decode cX4_remember 92 = .ok (.iconst 1, 1) := by decide +kernel
theorem dX4_remember_93 : decode cX4_remember 93 = .ok (.iadd, 1) := by decide +kernel
theorem dX4_remember_94 : decode cX4_remember 94 = .ok (.putfield 61, 3) := by decide +kernel
theorem dX4_remember_97 : decode cX4_remember 97 = .ok (.return_, 1) := by decide +kernel
def jX4_remember_35 (b0 : Nat) (I : Mem) : Option Mem :=
  letb ((I b0 7) * (10 : Int32)) fun x1_1 =>
  chk (inb x1_1 80) <|
  letb (up2 I (b0 + 7) (ix x1_1) (I b0 3)) fun I_3 =>
  chk (cpok (0 : Int32) (x1_1 + (1 : Int32)) (5 : Int32) 5 80) <|
  letb (upA I_3 (b0 + 7) (cpA (I_3 (b0 + 2)) (I_3 (b0 + 7)) (ix (0 : Int32)) (ix (x1_1 + (1 : Int32))) (ix (5 : Int32)))) fun I_5 =>
  chk (cpok (0 : Int32) ((x1_1 + (1 : Int32)) + (5 : Int32)) (4 : Int32) 4 80) <|
  letb (upA I_5 (b0 + 7) (cpA (I_5 (b0 + 4)) (I_5 (b0 + 7)) (ix (0 : Int32)) (ix ((x1_1 + (1 : Int32)) + (5 : Int32))) (ix (4 : Int32)))) fun I_7 =>
  letb (up2 I_7 b0 7 ((I_7 b0 7) + (1 : Int32))) fun I_8 =>
  some I_8
set_option maxRecDepth 20000 in
theorem tX4_remember_35 (E : EV) (d : Nat) (rr : Option Value × Mem) (b0 : Nat) (I : Mem) (hb0 : isH b0) (y : Mem) (hf : jX4_remember_35 b0 I = some y) (hK : (fun (z : Mem) => ((none : Option Value), z) = rr) y) : G E (d + 1) kX4_remember 35 [some (.ref b0), none] [] I rr := by
  unfold jX4_remember_35 at hf
  refine G.aload_n dX4_remember_35 rfl rfl ?_
  refine G.getI dX4_remember_36 flX4_61 (isH_lt hb0) (isH_lk hb0) ?_
  refine G.bipush (v := 10) dX4_remember_39 (by decide) ?_
  refine G.imul dX4_remember_41 ?_
  refine G.nmi (fun x1_1 e_x1_1 => ?_)
  have hf := letb_at hf e_x1_1
  clear e_x1_1
  refine G.istore_n (L' := [some (.ref b0), some (.int x1_1)]) dX4_remember_42 rfl (Nat.le_of_ble_eq_true rfl) (Nat.le_of_ble_eq_true rfl) rfl rfl ?_
  refine G.aload_n dX4_remember_43 rfl rfl ?_
  refine G.getR (q := (b0 + 7)) dX4_remember_44 flX4_34 (isH_lt hb0) (isH_lk hb0) (isH_r7 hb0) ?_
  refine G.iload_n dX4_remember_47 rfl rfl ?_
  refine G.aload_n dX4_remember_48 rfl rfl ?_
  refine G.getI dX4_remember_49 flX4_49 (isH_lt hb0) (isH_lk hb0) ?_
  obtain ⟨hi_2, hf⟩ := chk_at hf
  refine G.iast' dX4_remember_52 (isH_l7 hb0) (isH_k7 hb0) (isH_n7 hb0) hi_2 ?_
  refine G.nmI (fun I_3 e_I_3 => ?_)
  have hf := letb_at hf e_I_3
  clear e_I_3
  refine G.aload_n dX4_remember_53 rfl rfl ?_
  refine G.getR (q := (b0 + 2)) dX4_remember_54 flX4_19 (isH_lt hb0) (isH_lk hb0) (isH_r2 hb0) ?_
  refine G.iconst (v := 0) dX4_remember_57 (by decide) ?_
  refine G.aload_n dX4_remember_58 rfl rfl ?_
  refine G.getR (q := (b0 + 7)) dX4_remember_59 flX4_34 (isH_lt hb0) (isH_lk hb0) (isH_r7 hb0) ?_
  refine G.iload_n dX4_remember_62 rfl rfl ?_
  refine G.iconst (v := 1) dX4_remember_63 (by decide) ?_
  refine G.iadd dX4_remember_64 ?_
  refine G.iconst (v := 5) dX4_remember_65 (by decide) ?_
  obtain ⟨hi_4, hf⟩ := chk_at hf
  refine G.acopy' (rest := []) dX4_remember_66 maX4_64 (isH_l2 hb0) (isH_k2 hb0) (isH_n2 hb0) (isH_l7 hb0) (isH_k7 hb0) (isH_n7 hb0) hi_4 (Nat.le_of_ble_eq_true rfl) ?_
  refine G.nmI (fun I_5 e_I_5 => ?_)
  have hf := letb_at hf e_I_5
  clear e_I_5
  refine G.aload_n dX4_remember_69 rfl rfl ?_
  refine G.getR (q := (b0 + 4)) dX4_remember_70 flX4_25 (isH_lt hb0) (isH_lk hb0) (isH_r4 hb0) ?_
  refine G.iconst (v := 0) dX4_remember_73 (by decide) ?_
  refine G.aload_n dX4_remember_74 rfl rfl ?_
  refine G.getR (q := (b0 + 7)) dX4_remember_75 flX4_34 (isH_lt hb0) (isH_lk hb0) (isH_r7 hb0) ?_
  refine G.iload_n dX4_remember_78 rfl rfl ?_
  refine G.iconst (v := 1) dX4_remember_79 (by decide) ?_
  refine G.iadd dX4_remember_80 ?_
  refine G.iconst (v := 5) dX4_remember_81 (by decide) ?_
  refine G.iadd dX4_remember_82 ?_
  refine G.iconst (v := 4) dX4_remember_83 (by decide) ?_
  obtain ⟨hi_6, hf⟩ := chk_at hf
  refine G.acopy' (rest := []) dX4_remember_84 maX4_64 (isH_l4 hb0) (isH_k4 hb0) (isH_n4 hb0) (isH_l7 hb0) (isH_k7 hb0) (isH_n7 hb0) hi_6 (Nat.le_of_ble_eq_true rfl) ?_
  refine G.nmI (fun I_7 e_I_7 => ?_)
  have hf := letb_at hf e_I_7
  clear e_I_7
  refine G.aload_n dX4_remember_87 rfl rfl ?_
  refine G.dup dX4_remember_88 rfl ?_
  refine G.getI dX4_remember_89 flX4_61 (isH_lt hb0) (isH_lk hb0) ?_
  refine G.iconst (v := 1) dX4_remember_92 (by decide) ?_
  refine G.iadd dX4_remember_93 ?_
  refine G.putI dX4_remember_94 flX4_61 (isH_lt hb0) (isH_lk hb0) ?_
  refine G.nmI (fun I_8 e_I_8 => ?_)
  have hf := letb_at hf e_I_8
  clear e_I_8
  cases hf
  exact G.vret' dX4_remember_97 rfl hK
def fX4_remember (b0 : Nat) (I : Mem) : Option Mem :=
  if (I b0 7) = (8 : Int32) then
  (chk (cpok (10 : Int32) (0 : Int32) (70 : Int32) 80 80) <|
  letb (upA I (b0 + 7) (cpA (I (b0 + 7)) (I (b0 + 7)) (ix (10 : Int32)) (ix (0 : Int32)) (ix (70 : Int32)))) fun I_10 =>
  letb (up2 I_10 b0 7 ((I_10 b0 7) - (1 : Int32))) fun I_11 =>
  jX4_remember_35 b0 I_11)
  else
  (jX4_remember_35 b0 I)
set_option maxRecDepth 20000 in
theorem gX4_remember (E : EV) (d : Nat) (b0 : Nat) (I : Mem) (hb0 : isH b0) {J : Mem} (hf : fX4_remember b0 I = some J) : Gm E (d + 1) kX4_remember [.ref b0] I (none, J) := by
  refine Gm.of (by decide) rfl (Nat.le_of_ble_eq_true rfl) ?_
  generalize hrr : ((none, J) : Option Value × Mem) = rr
  show G E (d + 1) kX4_remember 0 [some (.ref b0), none] [] I rr
  have hK : (fun (z : Mem) => ((none : Option Value), z) = rr) J := hrr
  clear hrr
  unfold fX4_remember at hf
  refine G.aload_n dX4_remember_0 rfl rfl ?_
  refine G.getI dX4_remember_1 flX4_61 (isH_lt hb0) (isH_lk hb0) ?_
  refine G.bipush (v := 8) dX4_remember_4 (by decide) ?_
  refine G.icmp_ne (tgt := 35) dX4_remember_6 (by decide) (fun c_12 => ?_) (fun c_12 => ?_)
  · have hf := ite_f hf c_12
    exact tX4_remember_35 E d rr b0 I hb0 _ hf hK
  · have hf := ite_t hf c_12
    refine G.aload_n dX4_remember_9 rfl rfl ?_
    refine G.getR (q := (b0 + 7)) dX4_remember_10 flX4_34 (isH_lt hb0) (isH_lk hb0) (isH_r7 hb0) ?_
    refine G.bipush (v := 10) dX4_remember_13 (by decide) ?_
    refine G.aload_n dX4_remember_15 rfl rfl ?_
    refine G.getR (q := (b0 + 7)) dX4_remember_16 flX4_34 (isH_lt hb0) (isH_lk hb0) (isH_r7 hb0) ?_
    refine G.iconst (v := 0) dX4_remember_19 (by decide) ?_
    refine G.bipush (v := 70) dX4_remember_20 (by decide) ?_
    obtain ⟨hi_9, hf⟩ := chk_at hf
    refine G.acopy' (rest := []) dX4_remember_22 maX4_64 (isH_l7 hb0) (isH_k7 hb0) (isH_n7 hb0) (isH_l7 hb0) (isH_k7 hb0) (isH_n7 hb0) hi_9 (Nat.le_of_ble_eq_true rfl) ?_
    refine G.nmI (fun I_10 e_I_10 => ?_)
    have hf := letb_at hf e_I_10
    clear e_I_10
    refine G.aload_n dX4_remember_25 rfl rfl ?_
    refine G.dup dX4_remember_26 rfl ?_
    refine G.getI dX4_remember_27 flX4_61 (isH_lt hb0) (isH_lk hb0) ?_
    refine G.iconst (v := 1) dX4_remember_30 (by decide) ?_
    refine G.isub dX4_remember_31 ?_
    refine G.putI dX4_remember_32 flX4_61 (isH_lt hb0) (isH_lk hb0) ?_
    refine G.nmI (fun I_11 e_I_11 => ?_)
    have hf := letb_at hf e_I_11
    clear e_I_11
    exact tX4_remember_35 E d rr b0 I_11 hb0 _ hf hK
theorem dX4_goBack_0 : decode cX4_goBack 0 = .ok (.aload_n 0, 1) := by decide +kernel
theorem dX4_goBack_1 : decode cX4_goBack 1 = .ok (.getfield 61, 3) := by decide +kernel
theorem dX4_goBack_4 : decode cX4_goBack 4 = .ok (.ifCond .ne 4, 3) := by decide +kernel
theorem dX4_goBack_7 : decode cX4_goBack 7 = .ok (.return_, 1) := by decide +kernel
theorem dX4_goBack_8 : decode cX4_goBack 8 = .ok (.aload_n 0, 1) := by decide +kernel
theorem dX4_goBack_9 : decode cX4_goBack 9 = .ok (.dup, 1) := by decide +kernel
theorem dX4_goBack_10 : decode cX4_goBack 10 = .ok (.getfield 61, 3) := by decide +kernel
theorem dX4_goBack_13 : decode cX4_goBack 13 = .ok (.iconst 1, 1) := by decide +kernel
theorem dX4_goBack_14 : decode cX4_goBack 14 = .ok (.isub, 1) := by decide +kernel
theorem dX4_goBack_15 : decode cX4_goBack 15 = .ok (.putfield 61, 3) := by decide +kernel
theorem dX4_goBack_18 : decode cX4_goBack 18 = .ok (.aload_n 0, 1) := by decide +kernel
theorem dX4_goBack_19 : decode cX4_goBack 19 = .ok (.dup, 1) := by decide +kernel
theorem dX4_goBack_20 : decode cX4_goBack 20 = .ok (.getfield 55, 3) := by decide +kernel
theorem dX4_goBack_23 : decode cX4_goBack 23 = .ok (.iconst 1, 1) := by decide +kernel
theorem dX4_goBack_24 : decode cX4_goBack 24 = .ok (.isub, 1) := by decide +kernel
theorem dX4_goBack_25 : decode cX4_goBack 25 = .ok (.putfield 55, 3) := by decide +kernel
theorem dX4_goBack_28 : decode cX4_goBack 28 = .ok (.aload_n 0, 1) := by decide +kernel
theorem dX4_goBack_29 : decode cX4_goBack 29 = .ok (.getfield 61, 3) := by decide +kernel
theorem dX4_goBack_32 : decode cX4_goBack 32 = .ok (.bipush 10, 2) := by decide +kernel
theorem dX4_goBack_34 : decode cX4_goBack 34 = .ok (.imul, 1) := by decide +kernel
theorem dX4_goBack_35 : decode cX4_goBack 35 = .ok (.istore_n 1, 1) := by decide +kernel
theorem dX4_goBack_36 : decode cX4_goBack 36 = .ok (.aload_n 0, 1) := by decide +kernel
theorem dX4_goBack_37 : decode cX4_goBack 37 = .ok (.aload_n 0, 1) := by decide +kernel
theorem dX4_goBack_38 : decode cX4_goBack 38 = .ok (.getfield 34, 3) := by decide +kernel
theorem dX4_goBack_41 : decode cX4_goBack 41 = .ok (.iload_n 1, 1) := by decide +kernel
theorem dX4_goBack_42 : decode cX4_goBack 42 = .ok (.iaload, 1) := by decide +kernel
theorem dX4_goBack_43 : decode cX4_goBack 43 = .ok (.putfield 49, 3) := by decide +kernel
theorem dX4_goBack_46 : decode cX4_goBack 46 = .ok (.aload_n 0, 1) := by decide +kernel
theorem dX4_goBack_47 : decode cX4_goBack 47 = .ok (.getfield 34, 3) := by decide +kernel
theorem dX4_goBack_50 : decode cX4_goBack 50 = .ok (.iload_n 1, 1) := by decide +kernel
theorem dX4_goBack_51 : decode cX4_goBack 51 = .ok (.iconst 1, 1) := by decide +kernel
theorem dX4_goBack_52 : decode cX4_goBack 52 = .ok (.iadd, 1) := by decide +kernel
theorem dX4_goBack_53 : decode cX4_goBack 53 = .ok (.aload_n 0, 1) := by decide +kernel
theorem dX4_goBack_54 : decode cX4_goBack 54 = .ok (.getfield 19, 3) := by decide +kernel
theorem dX4_goBack_57 : decode cX4_goBack 57 = .ok (.iconst 0, 1) := by decide +kernel
theorem dX4_goBack_58 : decode cX4_goBack 58 = .ok (.iconst 5, 1) := by decide +kernel
theorem dX4_goBack_59 : decode cX4_goBack 59 = .ok (.invokestatic 64, 3) := by decide +kernel
theorem dX4_goBack_62 : decode cX4_goBack 62 = .ok (.aload_n 0, 1) := by decide +kernel
theorem dX4_goBack_63 : decode cX4_goBack 63 = .ok (.getfield 34, 3) := by decide +kernel
theorem dX4_goBack_66 : decode cX4_goBack 66 = .ok (.iload_n 1, 1) := by decide +kernel
theorem dX4_goBack_67 : decode cX4_goBack 67 = .ok (.iconst 1, 1) := by decide +kernel
theorem dX4_goBack_68 : decode cX4_goBack 68 = .ok (.iadd, 1) := by decide +kernel
theorem dX4_goBack_69 : decode cX4_goBack 69 = .ok (.iconst 5, 1) := by decide +kernel
theorem dX4_goBack_70 : decode cX4_goBack 70 = .ok (.iadd, 1) := by decide +kernel
theorem dX4_goBack_71 : decode cX4_goBack 71 = .ok (.aload_n 0, 1) := by decide +kernel
theorem dX4_goBack_72 : decode cX4_goBack 72 = .ok (.getfield 25, 3) := by decide +kernel
theorem dX4_goBack_75 : decode cX4_goBack 75 = .ok (.iconst 0, 1) := by decide +kernel
theorem dX4_goBack_76 : decode cX4_goBack 76 = .ok (.iconst 4, 1) := by decide +kernel
theorem dX4_goBack_77 : decode cX4_goBack 77 = .ok (.invokestatic 64, 3) := by decide +kernel
theorem dX4_goBack_80 : decode cX4_goBack 80 = .ok (.return_, 1) := by decide +kernel
def fX4_goBack (b0 : Nat) (I : Mem) : Option Mem :=
  if (I b0 7) = 0 then
  (some I)
  else
  (letb (up2 I b0 7 ((I b0 7) - (1 : Int32))) fun I_1 =>
  letb (up2 I_1 b0 5 ((I_1 b0 5) - (1 : Int32))) fun I_2 =>
  letb ((I_2 b0 7) * (10 : Int32)) fun x1_3 =>
  chk (inb x1_3 80) <|
  letb (up2 I_2 b0 3 (I_2 (b0 + 7) (ix x1_3))) fun I_5 =>
  chk (cpok (x1_3 + (1 : Int32)) (0 : Int32) (5 : Int32) 80 5) <|
  letb (upA I_5 (b0 + 2) (cpA (I_5 (b0 + 7)) (I_5 (b0 + 2)) (ix (x1_3 + (1 : Int32))) (ix (0 : Int32)) (ix (5 : Int32)))) fun I_7 =>
  chk (cpok ((x1_3 + (1 : Int32)) + (5 : Int32)) (0 : Int32) (4 : Int32) 80 4) <|
  letb (upA I_7 (b0 + 4) (cpA (I_7 (b0 + 7)) (I_7 (b0 + 4)) (ix ((x1_3 + (1 : Int32)) + (5 : Int32))) (ix (0 : Int32)) (ix (4 : Int32)))) fun I_9 =>
  some I_9)
set_option maxRecDepth 20000 in
theorem gX4_goBack (E : EV) (d : Nat) (b0 : Nat) (I : Mem) (hb0 : isH b0) {J : Mem} (hf : fX4_goBack b0 I = some J) : Gm E (d + 1) kX4_goBack [.ref b0] I (none, J) := by
  refine Gm.of (by decide) rfl (Nat.le_of_ble_eq_true rfl) ?_
  generalize hrr : ((none, J) : Option Value × Mem) = rr
  show G E (d + 1) kX4_goBack 0 [some (.ref b0), none] [] I rr
  have hK : (fun (z : Mem) => ((none : Option Value), z) = rr) J := hrr
  clear hrr
  unfold fX4_goBack at hf
  refine G.aload_n dX4_goBack_0 rfl rfl ?_
  refine G.getI dX4_goBack_1 flX4_61 (isH_lt hb0) (isH_lk hb0) ?_
  refine G.if_ne (tgt := 8) dX4_goBack_4 (by decide) (fun c_10 => ?_) (fun c_10 => ?_)
  · have hf := ite_f hf c_10
    refine G.aload_n dX4_goBack_8 rfl rfl ?_
    refine G.dup dX4_goBack_9 rfl ?_
    refine G.getI dX4_goBack_10 flX4_61 (isH_lt hb0) (isH_lk hb0) ?_
    refine G.iconst (v := 1) dX4_goBack_13 (by decide) ?_
    refine G.isub dX4_goBack_14 ?_
    refine G.putI dX4_goBack_15 flX4_61 (isH_lt hb0) (isH_lk hb0) ?_
    refine G.nmI (fun I_1 e_I_1 => ?_)
    have hf := letb_at hf e_I_1
    clear e_I_1
    refine G.aload_n dX4_goBack_18 rfl rfl ?_
    refine G.dup dX4_goBack_19 rfl ?_
    refine G.getI dX4_goBack_20 flX4_55 (isH_lt hb0) (isH_lk hb0) ?_
    refine G.iconst (v := 1) dX4_goBack_23 (by decide) ?_
    refine G.isub dX4_goBack_24 ?_
    refine G.putI dX4_goBack_25 flX4_55 (isH_lt hb0) (isH_lk hb0) ?_
    refine G.nmI (fun I_2 e_I_2 => ?_)
    have hf := letb_at hf e_I_2
    clear e_I_2
    refine G.aload_n dX4_goBack_28 rfl rfl ?_
    refine G.getI dX4_goBack_29 flX4_61 (isH_lt hb0) (isH_lk hb0) ?_
    refine G.bipush (v := 10) dX4_goBack_32 (by decide) ?_
    refine G.imul dX4_goBack_34 ?_
    refine G.nmi (fun x1_3 e_x1_3 => ?_)
    have hf := letb_at hf e_x1_3
    clear e_x1_3
    refine G.istore_n (L' := [some (.ref b0), some (.int x1_3)]) dX4_goBack_35 rfl (Nat.le_of_ble_eq_true rfl) (Nat.le_of_ble_eq_true rfl) rfl rfl ?_
    refine G.aload_n dX4_goBack_36 rfl rfl ?_
    refine G.aload_n dX4_goBack_37 rfl rfl ?_
    refine G.getR (q := (b0 + 7)) dX4_goBack_38 flX4_34 (isH_lt hb0) (isH_lk hb0) (isH_r7 hb0) ?_
    refine G.iload_n dX4_goBack_41 rfl rfl ?_
    obtain ⟨hi_4, hf⟩ := chk_at hf
    refine G.iald' dX4_goBack_42 (isH_l7 hb0) (isH_k7 hb0) (isH_n7 hb0) hi_4 ?_
    refine G.putI dX4_goBack_43 flX4_49 (isH_lt hb0) (isH_lk hb0) ?_
    refine G.nmI (fun I_5 e_I_5 => ?_)
    have hf := letb_at hf e_I_5
    clear e_I_5
    refine G.aload_n dX4_goBack_46 rfl rfl ?_
    refine G.getR (q := (b0 + 7)) dX4_goBack_47 flX4_34 (isH_lt hb0) (isH_lk hb0) (isH_r7 hb0) ?_
    refine G.iload_n dX4_goBack_50 rfl rfl ?_
    refine G.iconst (v := 1) dX4_goBack_51 (by decide) ?_
    refine G.iadd dX4_goBack_52 ?_
    refine G.aload_n dX4_goBack_53 rfl rfl ?_
    refine G.getR (q := (b0 + 2)) dX4_goBack_54 flX4_19 (isH_lt hb0) (isH_lk hb0) (isH_r2 hb0) ?_
    refine G.iconst (v := 0) dX4_goBack_57 (by decide) ?_
    refine G.iconst (v := 5) dX4_goBack_58 (by decide) ?_
    obtain ⟨hi_6, hf⟩ := chk_at hf
    refine G.acopy' (rest := []) dX4_goBack_59 maX4_64 (isH_l7 hb0) (isH_k7 hb0) (isH_n7 hb0) (isH_l2 hb0) (isH_k2 hb0) (isH_n2 hb0) hi_6 (Nat.le_of_ble_eq_true rfl) ?_
    refine G.nmI (fun I_7 e_I_7 => ?_)
    have hf := letb_at hf e_I_7
    clear e_I_7
    refine G.aload_n dX4_goBack_62 rfl rfl ?_
    refine G.getR (q := (b0 + 7)) dX4_goBack_63 flX4_34 (isH_lt hb0) (isH_lk hb0) (isH_r7 hb0) ?_
    refine G.iload_n dX4_goBack_66 rfl rfl ?_
    refine G.iconst (v := 1) dX4_goBack_67 (by decide) ?_
    refine G.iadd dX4_goBack_68 ?_
    refine G.iconst (v := 5) dX4_goBack_69 (by decide) ?_
    refine G.iadd dX4_goBack_70 ?_
    refine G.aload_n dX4_goBack_71 rfl rfl ?_
    refine G.getR (q := (b0 + 4)) dX4_goBack_72 flX4_25 (isH_lt hb0) (isH_lk hb0) (isH_r4 hb0) ?_
    refine G.iconst (v := 0) dX4_goBack_75 (by decide) ?_
    refine G.iconst (v := 4) dX4_goBack_76 (by decide) ?_
    obtain ⟨hi_8, hf⟩ := chk_at hf
    refine G.acopy' (rest := []) dX4_goBack_77 maX4_64 (isH_l7 hb0) (isH_k7 hb0) (isH_n7 hb0) (isH_l4 hb0) (isH_k4 hb0) (isH_n4 hb0) hi_8 (Nat.le_of_ble_eq_true rfl) ?_
    refine G.nmI (fun I_9 e_I_9 => ?_)
    have hf := letb_at hf e_I_9
    clear e_I_9
    cases hf
    exact G.vret' dX4_goBack_80 rfl hK
  · have hf := ite_t hf c_10
    cases hf
    exact G.vret' dX4_goBack_7 rfl hK
theorem dX4_toFirst_0 : decode cX4_toFirst 0 = .ok (.iload_n 0, 1) := by decide +kernel
theorem dX4_toFirst_1 : decode cX4_toFirst 1 = .ok (.iload_n 2, 1) := by decide +kernel
theorem dX4_toFirst_2 : decode cX4_toFirst 2 = .ok (.iand, 1) := by decide +kernel
theorem dX4_toFirst_3 : decode cX4_toFirst 3 = .ok (.ifCond .ne 7, 3) := by decide +kernel
theorem dX4_toFirst_6 : decode cX4_toFirst 6 = .ok (.iload_n 0, 1) := by decide +kernel
theorem dX4_toFirst_7 : decode cX4_toFirst 7 = .ok (.goto 12, 3) := by decide +kernel
theorem dX4_toFirst_10 : decode cX4_toFirst 10 = .ok (.iload_n 0, 1) := by decide +kernel
theorem dX4_toFirst_11 : decode cX4_toFirst 11 = .ok (.iload_n 2, 1) := by decide +kernel
theorem dX4_toFirst_12 : decode cX4_toFirst 12 = .ok (.iconst (-1), 1) := by decide +kernel
theorem dX4_toFirst_13 : decode cX4_toFirst 13 = .ok (.ixor, 1) := by decide +kernel
theorem dX4_toFirst_14 : decode cX4_toFirst 14 = .ok (.iand, 1) := by decide +kernel
theorem dX4_toFirst_15 : decode cX4_toFirst 15 = .ok (.iconst 1, 1) := by decide +kernel
theorem dX4_toFirst_16 : decode cX4_toFirst 16 = .ok (.iload_n 1, 1) := by decide +kernel
theorem dX4_toFirst_17 : decode cX4_toFirst 17 = .ok (.ishl, 1) := by decide +kernel
theorem dX4_toFirst_18 : decode cX4_toFirst 18 = .ok (.ior, 1) := by decide +kernel
theorem dX4_toFirst_19 : decode cX4_toFirst 19 = .ok (.ireturn, 1) := by decide +kernel
def fX4_toFirst (x0 : Int32) (x1 : Int32) (x2 : Int32) (I : Mem) : Option Int32 :=
  if (x0 &&& x2) = 0 then
  (some x0)
  else
  (some ((x0 &&& (x2 ^^^ (-1 : Int32))) ||| ((1 : Int32) <<< (x1 &&& 31))))
set_option maxRecDepth 20000 in
theorem gX4_toFirst (E : EV) (d : Nat) (x0 : Int32) (x1 : Int32) (x2 : Int32) (I : Mem) {v : Int32} (hf : fX4_toFirst x0 x1 x2 I = some v) : Gm E (d + 0) kX4_toFirst [.int x0, .int x1, .int x2] I (some (.int v), I) := by
  refine Gm.of (by decide) rfl (Nat.le_of_ble_eq_true rfl) ?_
  generalize hrr : ((some (.int v), I) : Option Value × Mem) = rr
  show G E (d + 0) kX4_toFirst 0 [some (.int x0), some (.int x1), some (.int x2)] [] I rr
  have hK : (fun (z : Int32) => (some (.int z), I) = rr) v := hrr
  clear hrr
  unfold fX4_toFirst at hf
  refine G.iload_n dX4_toFirst_0 rfl rfl ?_
  refine G.iload_n dX4_toFirst_1 rfl rfl ?_
  refine G.iand dX4_toFirst_2 ?_
  refine G.if_ne (tgt := 10) dX4_toFirst_3 (by decide) (fun c_1 => ?_) (fun c_1 => ?_)
  · have hf := ite_f hf c_1
    refine G.iload_n dX4_toFirst_10 rfl rfl ?_
    refine G.iload_n dX4_toFirst_11 rfl rfl ?_
    refine G.iconst (v := -1) dX4_toFirst_12 (by decide) ?_
    refine G.ixor dX4_toFirst_13 ?_
    refine G.iand dX4_toFirst_14 ?_
    refine G.iconst (v := 1) dX4_toFirst_15 (by decide) ?_
    refine G.iload_n dX4_toFirst_16 rfl rfl ?_
    refine G.ishl dX4_toFirst_17 ?_
    refine G.ior dX4_toFirst_18 ?_
    cases hf
    exact G.iret' dX4_toFirst_19 rfl hK
  · have hf := ite_t hf c_1
    refine G.iload_n dX4_toFirst_6 rfl rfl ?_
    refine G.goto (tgt := 19) dX4_toFirst_7 (by decide) ?_
    cases hf
    exact G.iret' dX4_toFirst_19 rfl hK
theorem dX4_merge_0 : decode cX4_merge 0 = .ok (.iconst 1, 1) := by decide +kernel
theorem dX4_merge_1 : decode cX4_merge 1 = .ok (.iload_n 1, 1) := by decide +kernel
theorem dX4_merge_2 : decode cX4_merge 2 = .ok (.ishl, 1) := by decide +kernel
theorem dX4_merge_3 : decode cX4_merge 3 = .ok (.iconst 1, 1) := by decide +kernel
theorem dX4_merge_4 : decode cX4_merge 4 = .ok (.iload_n 2, 1) := by decide +kernel
theorem dX4_merge_5 : decode cX4_merge 5 = .ok (.ishl, 1) := by decide +kernel
theorem dX4_merge_6 : decode cX4_merge 6 = .ok (.ior, 1) := by decide +kernel
theorem dX4_merge_7 : decode cX4_merge 7 = .ok (.istore_n 3, 1) := by decide +kernel
theorem dX4_merge_8 : decode cX4_merge 8 = .ok (.aload_n 0, 1) := by decide +kernel
theorem dX4_merge_9 : decode cX4_merge 9 = .ok (.getfield 15, 3) := by decide +kernel
theorem dX4_merge_12 : decode cX4_merge 12 = .ok (.iload_n 1, 1) := by decide +kernel
theorem dX4_merge_13 : decode cX4_merge 13 = .ok (.iaload, 1) := by decide +kernel
theorem dX4_merge_14 : decode cX4_merge 14 = .ok (.aload_n 0, 1) := by decide +kernel
theorem dX4_merge_15 : decode cX4_merge 15 = .ok (.getfield 15, 3) := by decide +kernel
theorem dX4_merge_18 : decode cX4_merge 18 = .ok (.iload_n 2, 1) := by decide +kernel
theorem dX4_merge_19 : decode cX4_merge 19 = .ok (.iaload, 1) := by decide +kernel
theorem dX4_merge_20 : decode cX4_merge 20 = .ok (.ior, 1) := by decide +kernel
theorem dX4_merge_21 : decode cX4_merge 21 = .ok (.iload_n 3, 1) := by decide +kernel
theorem dX4_merge_22 : decode cX4_merge 22 = .ok (.iconst (-1), 1) := by decide +kernel
theorem dX4_merge_23 : decode cX4_merge 23 = .ok (.ixor, 1) := by decide +kernel
theorem dX4_merge_24 : decode cX4_merge 24 = .ok (.iand, 1) := by decide +kernel
theorem dX4_merge_25 : decode cX4_merge 25 = .ok (.istore 4, 2) := by decide +kernel
theorem dX4_merge_27 : decode cX4_merge 27 = .ok (.iconst 0, 1) := by decide +kernel
theorem dX4_merge_28 : decode cX4_merge 28 = .ok (.istore 5, 2) := by decide +kernel
theorem dX4_merge_30 : decode cX4_merge 30 = .ok (.iload 5, 2) := by decide +kernel
theorem dX4_merge_32 : decode cX4_merge 32 = .ok (.aload_n 0, 1) := by decide +kernel
theorem dX4_merge_33 : decode cX4_merge 33 = .ok (.getfield 9, 3) := by decide +kernel
theorem dX4_merge_36 : decode cX4_merge 36 = .ok (.if_icmp .ge 28, 3) := by decide +kernel
theorem dX4_merge_39 : decode cX4_merge 39 = .ok (.aload_n 0, 1) := by decide +kernel
theorem dX4_merge_40 : decode cX4_merge 40 = .ok (.getfield 15, 3) := by decide +kernel
theorem dX4_merge_43 : decode cX4_merge 43 = .ok (.iload 5, 2) := by decide +kernel
theorem dX4_merge_45 : decode cX4_merge 45 = .ok (.aload_n 0, 1) := by decide +kernel
theorem dX4_merge_46 : decode cX4_merge 46 = .ok (.getfield 15, 3) := by decide +kernel
theorem dX4_merge_49 : decode cX4_merge 49 = .ok (.iload 5, 2) := by decide +kernel
theorem dX4_merge_51 : decode cX4_merge 51 = .ok (.iaload, 1) := by decide +kernel
theorem dX4_merge_52 : decode cX4_merge 52 = .ok (.iload_n 1, 1) := by decide +kernel
theorem dX4_merge_53 : decode cX4_merge 53 = .ok (.iload_n 3, 1) := by decide +kernel
theorem dX4_merge_54 : decode cX4_merge 54 = .ok (.invokestatic 119, 3) := by decide +kernel
theorem dX4_merge_57 : decode cX4_merge 57 = .ok (.iastore, 1) := by decide +kernel
theorem dX4_merge_58 : decode cX4_merge 58 = .ok (.iinc 5 1, 3) := by decide +kernel
theorem dX4_merge_61 : decode cX4_merge 61 = .ok (.goto (-31), 3) := by decide +kernel
theorem dX4_merge_64 : decode cX4_merge 64 = .ok (.aload_n 0, 1) := by decide +kernel
theorem dX4_merge_65 : decode cX4_merge 65 = .ok (.getfield 15, 3) := by decide +kernel
theorem dX4_merge_68 : decode cX4_merge 68 = .ok (.iload_n 1, 1) := by decide +kernel
theorem dX4_merge_69 : decode cX4_merge 69 = .ok (.iload 4, 2) := by decide +kernel
theorem dX4_merge_71 : decode cX4_merge 71 = .ok (.iastore, 1) := by decide +kernel
theorem dX4_merge_72 : decode cX4_merge 72 = .ok (.aload_n 0, 1) := by decide +kernel
theorem dX4_merge_73 : decode cX4_merge 73 = .ok (.getfield 15, 3) := by decide +kernel
theorem dX4_merge_76 : decode cX4_merge 76 = .ok (.iload_n 2, 1) := by decide +kernel
theorem dX4_merge_77 : decode cX4_merge 77 = .ok (.iconst 0, 1) := by decide +kernel
theorem dX4_merge_78 : decode cX4_merge 78 = .ok (.iastore, 1) := by decide +kernel
theorem dX4_merge_79 : decode cX4_merge 79 = .ok (.aload_n 0, 1) := by decide +kernel
theorem dX4_merge_80 : decode cX4_merge 80 = .ok (.aload_n 0, 1) := by decide +kernel
theorem dX4_merge_81 : decode cX4_merge 81 = .ok (.getfield 43, 3) := by decide +kernel
theorem dX4_merge_84 : decode cX4_merge 84 = .ok (.iload_n 1, 1) := by decide +kernel
theorem dX4_merge_85 : decode cX4_merge 85 = .ok (.iload_n 3, 1) := by decide +kernel
theorem dX4_merge_86 : decode cX4_merge 86 = .ok (.invokestatic 119, 3) := by decide +kernel
theorem dX4_merge_89 : decode cX4_merge 89 = .ok (.putfield 43, 3) := by decide +kernel
theorem dX4_merge_92 : decode cX4_merge 92 = .ok (.iconst 0, 1) := by decide +kernel
theorem dX4_merge_93 : decode cX4_merge 93 = .ok (.istore 5, 2) := by decide +kernel
theorem dX4_merge_95 : decode cX4_merge 95 = .ok (.iload 5, 2) := by decide +kernel
theorem dX4_merge_97 : decode cX4_merge 97 = .ok (.bipush 16, 2) := by decide +kernel
theorem dX4_merge_99 : decode cX4_merge 99 = .ok (.if_icmp .ge 38, 3) := by decide +kernel
theorem dX4_merge_102 : decode cX4_merge 102 = .ok (.aload_n 0, 1) := by decide +kernel
theorem dX4_merge_103 : decode cX4_merge 103 = .ok (.getfield 28, 3) := by decide +kernel
theorem dX4_merge_106 : decode cX4_merge 106 = .ok (.iload 5, 2) := by decide +kernel
theorem dX4_merge_108 : decode cX4_merge 108 = .ok (.aload_n 0, 1) := by decide +kernel
theorem dX4_merge_109 : decode cX4_merge 109 = .ok (.getfield 28, 3) := by decide +kernel
theorem dX4_merge_112 : decode cX4_merge 112 = .ok (.iload 5, 2) := by decide +kernel
theorem dX4_merge_114 : decode cX4_merge 114 = .ok (.iaload, 1) := by decide +kernel
theorem dX4_merge_115 : decode cX4_merge 115 = .ok (.iload_n 2, 1) := by decide +kernel
theorem dX4_merge_116 : decode cX4_merge 116 = .ok (.if_icmp .ne 7, 3) := by decide +kernel
theorem dX4_merge_119 : decode cX4_merge 119 = .ok (.iload_n 1, 1) := by decide +kernel
theorem dX4_merge_120 : decode cX4_merge 120 = .ok (.goto 10, 3) := by decide +kernel
theorem dX4_merge_123 : decode cX4_merge 123 = .ok (.aload_n 0, 1) := by decide +kernel
theorem dX4_merge_124 : decode cX4_merge 124 = .ok (.getfield 28, 3) := by decide +kernel
theorem dX4_merge_127 : decode cX4_merge 127 = .ok (.iload 5, 2) := by decide +kernel
theorem dX4_merge_129 : decode cX4_merge 129 = .ok (.iaload, 1) := by decide +kernel
theorem dX4_merge_130 : decode cX4_merge 130 = .ok (.iastore, 1) := by decide +kernel
theorem dX4_merge_131 : decode cX4_merge 131 = .ok (.iinc 5 1, 3) := by decide +kernel
theorem dX4_merge_134 : decode cX4_merge 134 = .ok (.goto (-39), 3) := by decide +kernel
theorem dX4_merge_137 : decode cX4_merge 137 = .ok (.iconst 0, 1) := by decide +kernel
theorem dX4_merge_138 : decode cX4_merge 138 = .ok (.istore 5, 2) := by decide +kernel
theorem dX4_merge_140 : decode cX4_merge 140 = .ok (.iload 5, 2) := by decide +kernel
theorem dX4_merge_142 : decode cX4_merge 142 = .ok (.aload_n 0, 1) := by decide +kernel
theorem dX4_merge_143 : decode cX4_merge 143 = .ok (.getfield 46, 3) := by decide +kernel
theorem dX4_merge_146 : decode cX4_merge 146 = .ok (.if_icmp .ge 39, 3) := by decide +kernel
theorem dX4_merge_149 : decode cX4_merge 149 = .ok (.aload_n 0, 1) := by decide +kernel
theorem dX4_merge_150 : decode cX4_merge 150 = .ok (.getfield 49, 3) := by decide +kernel
theorem dX4_merge_153 : decode cX4_merge 153 = .ok (.iload 5, 2) := by decide +kernel
theorem dX4_merge_155 : decode cX4_merge 155 = .ok (.invokestatic 76, 3) := by decide +kernel
theorem dX4_merge_158 : decode cX4_merge 158 = .ok (.iload_n 2, 1) := by decide +kernel
theorem dX4_merge_159 : decode cX4_merge 159 = .ok (.if_icmp .ne 20, 3) := by decide +kernel
theorem dX4_merge_162 : decode cX4_merge 162 = .ok (.aload_n 0, 1) := by decide +kernel
theorem dX4_merge_163 : decode cX4_merge 163 = .ok (.dup, 1) := by decide +kernel
theorem dX4_merge_164 : decode cX4_merge 164 = .ok (.getfield 49, 3) := by decide +kernel
theorem dX4_merge_167 : decode cX4_merge 167 = .ok (.iload_n 1, 1) := by decide +kernel
theorem dX4_merge_168 : decode cX4_merge 168 = .ok (.iload_n 2, 1) := by decide +kernel
theorem dX4_merge_169 : decode cX4_merge 169 = .ok (.ixor, 1) := by decide +kernel
theorem dX4_merge_170 : decode cX4_merge 170 = .ok (.iconst 3, 1) := by decide +kernel
theorem dX4_merge_171 : decode cX4_merge 171 = .ok (.iload 5, 2) := by decide +kernel
theorem dX4_merge_173 : decode cX4_merge 173 = .ok (.imul, 1) := by decide +kernel
theorem dX4_merge_174 : decode cX4_merge 174 = .ok (.ishl, 1) := by decide +kernel
theorem dX4_merge_175 : decode cX4_merge 175 = .ok (.ixor, 1) := by decide +kernel
theorem dX4_merge_176 : decode cX4_merge 176 = .ok (.putfield 49, 3) := by decide +kernel
theorem dX4_merge_179 : decode cX4_merge 179 = .ok (.iinc 5 1, 3) := by decide +kernel
theorem dX4_merge_182 : decode cX4_merge 182 = .ok (.goto (-42), 3) := by decide +kernel
theorem dX4_merge_185 : decode cX4_merge 185 = .ok (.return_, 1) := by decide +kernel
def KX4_merge_30 (E : EV) (d : Nat) (rr : Option Value × Mem) (b0 : Nat) (x1 : Int32) (x2 : Int32) (x3 : Int32) (x4 : Int32) (Kp : Mem → Prop) : ((Int32 × Mem) ⊕ Mem) → Prop
  | .inl q => G E (d + 1) kX4_merge 30 [some (.ref b0), some (.int x1), some (.int x2), some (.int x3), some (.int x4), some (.int q.1)] [] q.2 rr
  | .inr z => Kp z
def KX4_merge_95 (E : EV) (d : Nat) (rr : Option Value × Mem) (b0 : Nat) (x1 : Int32) (x2 : Int32) (Kp : Mem → Prop) : ((Int32 × Mem) ⊕ Mem) → Prop
  | .inl q => G E (d + 1) kX4_merge 95 [some (.ref b0), some (.int x1), some (.int x2), none, none, some (.int q.1)] [] q.2 rr
  | .inr z => Kp z
def KX4_merge_140 (E : EV) (d : Nat) (rr : Option Value × Mem) (b0 : Nat) (x1 : Int32) (x2 : Int32) (Kp : Mem → Prop) : ((Int32 × Mem) ⊕ Mem) → Prop
  | .inl q => G E (d + 1) kX4_merge 140 [some (.ref b0), some (.int x1), some (.int x2), none, none, some (.int q.1)] [] q.2 rr
  | .inr z => Kp z
def bX4_merge_140 (b0 : Nat) (x1 : Int32) (x2 : Int32) (x5 : Int32) (I : Mem) : Option ((Int32 × Mem) ⊕ Mem) :=
  if (I b0 2) ≤ x5 then
  (some (.inr I))
  else
  (bnd (fX11_roomOf (I b0 3) x5 I) fun v_13 =>
  if v_13 = x2 then
  (letb (up2 I b0 3 ((I b0 3) ^^^ ((x1 ^^^ x2) <<< (((3 : Int32) * x5) &&& 31)))) fun I_14 =>
  some (.inl ((x5 + (1 : Int32)), I_14)))
  else
  (some (.inl ((x5 + (1 : Int32)), I))))
def sX4_merge_140 (b0 : Nat) (x1 : Int32) (x2 : Int32) (q : (Int32 × Mem)) : Option ((Int32 × Mem) ⊕ Mem) := bX4_merge_140 b0 x1 x2 q.1 q.2
set_option maxRecDepth 20000 in
theorem wX4_merge_140 (E : EV) (d : Nat) (rr : Option Value × Mem) (b0 : Nat) (x1 : Int32) (x2 : Int32) (x5 : Int32) (I : Mem) (hb0 : isH b0) (y : ((Int32 × Mem) ⊕ Mem)) (hf : bX4_merge_140 b0 x1 x2 x5 I = some y) (hK : (KX4_merge_140 E d rr b0 x1 x2 (fun (z : Mem) => ((none : Option Value), z) = rr)) y) : G E (d + 1) kX4_merge 140 [some (.ref b0), some (.int x1), some (.int x2), none, none, some (.int x5)] [] I rr := by
  unfold bX4_merge_140 at hf
  refine G.iload dX4_merge_140 rfl ?_
  refine G.aload_n dX4_merge_142 rfl rfl ?_
  refine G.getI dX4_merge_143 flX4_46 (isH_lt hb0) (isH_lk hb0) ?_
  refine G.icmp_ge (tgt := 185) dX4_merge_146 (by decide) (fun c_16 => ?_) (fun c_16 => ?_)
  · have hf := ite_t hf c_16
    cases hf
    exact G.vret' dX4_merge_185 rfl hK
  · have hf := ite_f hf c_16
    refine G.aload_n dX4_merge_149 rfl rfl ?_
    refine G.getI dX4_merge_150 flX4_49 (isH_lt hb0) (isH_lk hb0) ?_
    refine G.iload dX4_merge_153 rfl ?_
    obtain ⟨v_13, hc_12, hf⟩ := bnd_at hf
    refine G.callNi (av := [.int (I b0 3), .int x5]) (rest := []) dX4_merge_155 mnX4_76 (gX11_roomOf E d (I b0 3) x5 I hc_12) rfl rfl (Nat.le_of_ble_eq_true rfl) ?_
    refine G.iload_n dX4_merge_158 rfl rfl ?_
    refine G.icmp_ne (tgt := 179) dX4_merge_159 (by decide) (fun c_15 => ?_) (fun c_15 => ?_)
    · have hf := ite_f hf c_15
      refine G.inc (w := 1) (L' := [some (.ref b0), some (.int x1), some (.int x2), none, none, some (.int (x5 + (1 : Int32)))]) dX4_merge_179 (by decide) rfl (Nat.le_of_ble_eq_true rfl) rfl rfl ?_
      refine G.goto (tgt := 140) dX4_merge_182 (by decide) ?_
      cases hf
      exact hK
    · have hf := ite_t hf c_15
      refine G.aload_n dX4_merge_162 rfl rfl ?_
      refine G.dup dX4_merge_163 rfl ?_
      refine G.getI dX4_merge_164 flX4_49 (isH_lt hb0) (isH_lk hb0) ?_
      refine G.iload_n dX4_merge_167 rfl rfl ?_
      refine G.iload_n dX4_merge_168 rfl rfl ?_
      refine G.ixor dX4_merge_169 ?_
      refine G.iconst (v := 3) dX4_merge_170 (by decide) ?_
      refine G.iload dX4_merge_171 rfl ?_
      refine G.imul dX4_merge_173 ?_
      refine G.ishl dX4_merge_174 ?_
      refine G.ixor dX4_merge_175 ?_
      refine G.putI dX4_merge_176 flX4_49 (isH_lt hb0) (isH_lk hb0) ?_
      refine G.nmI (fun I_14 e_I_14 => ?_)
      have hf := letb_at hf e_I_14
      clear e_I_14
      refine G.inc (w := 1) (L' := [some (.ref b0), some (.int x1), some (.int x2), none, none, some (.int (x5 + (1 : Int32)))]) dX4_merge_179 (by decide) rfl (Nat.le_of_ble_eq_true rfl) rfl rfl ?_
      refine G.goto (tgt := 140) dX4_merge_182 (by decide) ?_
      cases hf
      exact hK
theorem lX4_merge_140 (E : EV) (d : Nat) (rr : Option Value × Mem) (b0 : Nat) (x1 : Int32) (x2 : Int32) (hb0 : isH b0) (z : Mem) (hK : (fun (z : Mem) => ((none : Option Value), z) = rr) z) : ∀ (n : Nat) (q : (Int32 × Mem)), iter (sX4_merge_140 b0 x1 x2) n q = some z → G E (d + 1) kX4_merge 140 [some (.ref b0), some (.int x1), some (.int x2), none, none, some (.int q.1)] [] q.2 rr := by
  intro n
  induction n with
  | zero => intro q h; cases h
  | succ n ih =>
    intro q h
    rcases iter_at h with ⟨q2, hs, h2⟩ | hs
    · exact wX4_merge_140 E d rr b0 x1 x2 q.1 q.2 hb0 _ hs (ih q2 h2)
    · exact wX4_merge_140 E d rr b0 x1 x2 q.1 q.2 hb0 _ hs hK
def bX4_merge_95 (b0 : Nat) (x1 : Int32) (x2 : Int32) (x5 : Int32) (I : Mem) : Option ((Int32 × Mem) ⊕ Mem) :=
  if (16 : Int32) ≤ x5 then
  (inrO (iter (sX4_merge_140 b0 x1 x2) FU ((0 : Int32), I)))
  else
  (chk (inb x5 16) <|
  if (I (b0 + 5) (ix x5)) = x2 then
  (chk (inb x5 16) <|
  letb (up2 I (b0 + 5) (ix x5) x1) fun I_23 =>
  some (.inl ((x5 + (1 : Int32)), I_23)))
  else
  (chk (inb x5 16) <|
  chk (inb x5 16) <|
  letb (up2 I (b0 + 5) (ix x5) (I (b0 + 5) (ix x5))) fun I_21 =>
  some (.inl ((x5 + (1 : Int32)), I_21))))
def sX4_merge_95 (b0 : Nat) (x1 : Int32) (x2 : Int32) (q : (Int32 × Mem)) : Option ((Int32 × Mem) ⊕ Mem) := bX4_merge_95 b0 x1 x2 q.1 q.2
set_option maxRecDepth 20000 in
theorem wX4_merge_95 (E : EV) (d : Nat) (rr : Option Value × Mem) (b0 : Nat) (x1 : Int32) (x2 : Int32) (x5 : Int32) (I : Mem) (hb0 : isH b0) (y : ((Int32 × Mem) ⊕ Mem)) (hf : bX4_merge_95 b0 x1 x2 x5 I = some y) (hK : (KX4_merge_95 E d rr b0 x1 x2 (fun (z : Mem) => ((none : Option Value), z) = rr)) y) : G E (d + 1) kX4_merge 95 [some (.ref b0), some (.int x1), some (.int x2), none, none, some (.int x5)] [] I rr := by
  unfold bX4_merge_95 at hf
  refine G.iload dX4_merge_95 rfl ?_
  refine G.bipush (v := 16) dX4_merge_97 (by decide) ?_
  refine G.icmp_ge (tgt := 137) dX4_merge_99 (by decide) (fun c_25 => ?_) (fun c_25 => ?_)
  · have hf := ite_t hf c_25
    refine G.iconst (v := 0) dX4_merge_137 (by decide) ?_
    refine G.istore (L' := [some (.ref b0), some (.int x1), some (.int x2), none, none, some (.int (0 : Int32))]) dX4_merge_138 (Nat.le_of_ble_eq_true rfl) (Nat.le_of_ble_eq_true rfl) rfl rfl ?_
    obtain ⟨z_17, hz_17, rfl⟩ := inrO_at hf
    have hf := hz_17
    exact lX4_merge_140 E d rr b0 x1 x2 hb0 _ hK FU _ hf
  · have hf := ite_f hf c_25
    refine G.aload_n dX4_merge_102 rfl rfl ?_
    refine G.getR (q := (b0 + 5)) dX4_merge_103 flX4_28 (isH_lt hb0) (isH_lk hb0) (isH_r5 hb0) ?_
    refine G.iload dX4_merge_106 rfl ?_
    refine G.aload_n dX4_merge_108 rfl rfl ?_
    refine G.getR (q := (b0 + 5)) dX4_merge_109 flX4_28 (isH_lt hb0) (isH_lk hb0) (isH_r5 hb0) ?_
    refine G.iload dX4_merge_112 rfl ?_
    obtain ⟨hi_18, hf⟩ := chk_at hf
    refine G.iald' dX4_merge_114 (isH_l5 hb0) (isH_k5 hb0) (isH_n5 hb0) hi_18 ?_
    refine G.iload_n dX4_merge_115 rfl rfl ?_
    refine G.icmp_ne (tgt := 123) dX4_merge_116 (by decide) (fun c_24 => ?_) (fun c_24 => ?_)
    · have hf := ite_f hf c_24
      refine G.aload_n dX4_merge_123 rfl rfl ?_
      refine G.getR (q := (b0 + 5)) dX4_merge_124 flX4_28 (isH_lt hb0) (isH_lk hb0) (isH_r5 hb0) ?_
      refine G.iload dX4_merge_127 rfl ?_
      obtain ⟨hi_19, hf⟩ := chk_at hf
      refine G.iald' dX4_merge_129 (isH_l5 hb0) (isH_k5 hb0) (isH_n5 hb0) hi_19 ?_
      obtain ⟨hi_20, hf⟩ := chk_at hf
      refine G.iast' dX4_merge_130 (isH_l5 hb0) (isH_k5 hb0) (isH_n5 hb0) hi_20 ?_
      refine G.nmI (fun I_21 e_I_21 => ?_)
      have hf := letb_at hf e_I_21
      clear e_I_21
      refine G.inc (w := 1) (L' := [some (.ref b0), some (.int x1), some (.int x2), none, none, some (.int (x5 + (1 : Int32)))]) dX4_merge_131 (by decide) rfl (Nat.le_of_ble_eq_true rfl) rfl rfl ?_
      refine G.goto (tgt := 95) dX4_merge_134 (by decide) ?_
      cases hf
      exact hK
    · have hf := ite_t hf c_24
      refine G.iload_n dX4_merge_119 rfl rfl ?_
      refine G.goto (tgt := 130) dX4_merge_120 (by decide) ?_
      obtain ⟨hi_22, hf⟩ := chk_at hf
      refine G.iast' dX4_merge_130 (isH_l5 hb0) (isH_k5 hb0) (isH_n5 hb0) hi_22 ?_
      refine G.nmI (fun I_23 e_I_23 => ?_)
      have hf := letb_at hf e_I_23
      clear e_I_23
      refine G.inc (w := 1) (L' := [some (.ref b0), some (.int x1), some (.int x2), none, none, some (.int (x5 + (1 : Int32)))]) dX4_merge_131 (by decide) rfl (Nat.le_of_ble_eq_true rfl) rfl rfl ?_
      refine G.goto (tgt := 95) dX4_merge_134 (by decide) ?_
      cases hf
      exact hK
theorem lX4_merge_95 (E : EV) (d : Nat) (rr : Option Value × Mem) (b0 : Nat) (x1 : Int32) (x2 : Int32) (hb0 : isH b0) (z : Mem) (hK : (fun (z : Mem) => ((none : Option Value), z) = rr) z) : ∀ (n : Nat) (q : (Int32 × Mem)), iter (sX4_merge_95 b0 x1 x2) n q = some z → G E (d + 1) kX4_merge 95 [some (.ref b0), some (.int x1), some (.int x2), none, none, some (.int q.1)] [] q.2 rr := by
  intro n
  induction n with
  | zero => intro q h; cases h
  | succ n ih =>
    intro q h
    rcases iter_at h with ⟨q2, hs, h2⟩ | hs
    · exact wX4_merge_95 E d rr b0 x1 x2 q.1 q.2 hb0 _ hs (ih q2 h2)
    · exact wX4_merge_95 E d rr b0 x1 x2 q.1 q.2 hb0 _ hs hK
def bX4_merge_30 (b0 : Nat) (x1 : Int32) (x2 : Int32) (x3 : Int32) (x4 : Int32) (x5 : Int32) (I : Mem) : Option ((Int32 × Mem) ⊕ Mem) :=
  if (I b0 0) ≤ x5 then
  (chk (inb x1 5) <|
  letb (up2 I (b0 + 1) (ix x1) x4) fun I_6 =>
  chk (inb x2 5) <|
  letb (up2 I_6 (b0 + 1) (ix x2) (0 : Int32)) fun I_8 =>
  bnd (fX4_toFirst (I_8 b0 1) x1 x3 I_8) fun v_10 =>
  letb (up2 I_8 b0 1 v_10) fun I_11 =>
  inrO (iter (sX4_merge_95 b0 x1 x2) FU ((0 : Int32), I_11)))
  else
  (chk (inb x5 5) <|
  bnd (fX4_toFirst (I (b0 + 1) (ix x5)) x1 x3 I) fun v_29 =>
  chk (inb x5 5) <|
  letb (up2 I (b0 + 1) (ix x5) v_29) fun I_31 =>
  some (.inl ((x5 + (1 : Int32)), I_31)))
def sX4_merge_30 (b0 : Nat) (x1 : Int32) (x2 : Int32) (x3 : Int32) (x4 : Int32) (q : (Int32 × Mem)) : Option ((Int32 × Mem) ⊕ Mem) := bX4_merge_30 b0 x1 x2 x3 x4 q.1 q.2
set_option maxRecDepth 20000 in
theorem wX4_merge_30 (E : EV) (d : Nat) (rr : Option Value × Mem) (b0 : Nat) (x1 : Int32) (x2 : Int32) (x3 : Int32) (x4 : Int32) (x5 : Int32) (I : Mem) (hb0 : isH b0) (y : ((Int32 × Mem) ⊕ Mem)) (hf : bX4_merge_30 b0 x1 x2 x3 x4 x5 I = some y) (hK : (KX4_merge_30 E d rr b0 x1 x2 x3 x4 (fun (z : Mem) => ((none : Option Value), z) = rr)) y) : G E (d + 1) kX4_merge 30 [some (.ref b0), some (.int x1), some (.int x2), some (.int x3), some (.int x4), some (.int x5)] [] I rr := by
  unfold bX4_merge_30 at hf
  refine G.iload dX4_merge_30 rfl ?_
  refine G.aload_n dX4_merge_32 rfl rfl ?_
  refine G.getI dX4_merge_33 flX4_9 (isH_lt hb0) (isH_lk hb0) ?_
  refine G.icmp_ge (tgt := 64) dX4_merge_36 (by decide) (fun c_32 => ?_) (fun c_32 => ?_)
  · have hf := ite_t hf c_32
    refine G.aload_n dX4_merge_64 rfl rfl ?_
    refine G.getR (q := (b0 + 1)) dX4_merge_65 flX4_15 (isH_lt hb0) (isH_lk hb0) (isH_r1 hb0) ?_
    refine G.iload_n dX4_merge_68 rfl rfl ?_
    refine G.iload dX4_merge_69 rfl ?_
    obtain ⟨hi_5, hf⟩ := chk_at hf
    refine G.iast' dX4_merge_71 (isH_l1 hb0) (isH_k1 hb0) (isH_n1 hb0) hi_5 ?_
    refine G.nmI (fun I_6 e_I_6 => ?_)
    have hf := letb_at hf e_I_6
    clear e_I_6
    refine G.aload_n dX4_merge_72 rfl rfl ?_
    refine G.getR (q := (b0 + 1)) dX4_merge_73 flX4_15 (isH_lt hb0) (isH_lk hb0) (isH_r1 hb0) ?_
    refine G.iload_n dX4_merge_76 rfl rfl ?_
    refine G.iconst (v := 0) dX4_merge_77 (by decide) ?_
    obtain ⟨hi_7, hf⟩ := chk_at hf
    refine G.iast' dX4_merge_78 (isH_l1 hb0) (isH_k1 hb0) (isH_n1 hb0) hi_7 ?_
    refine G.nmI (fun I_8 e_I_8 => ?_)
    have hf := letb_at hf e_I_8
    clear e_I_8
    refine G.aload_n dX4_merge_79 rfl rfl ?_
    refine G.aload_n dX4_merge_80 rfl rfl ?_
    refine G.getI dX4_merge_81 flX4_43 (isH_lt hb0) (isH_lk hb0) ?_
    refine G.iload_n dX4_merge_84 rfl rfl ?_
    refine G.iload_n dX4_merge_85 rfl rfl ?_
    obtain ⟨v_10, hc_9, hf⟩ := bnd_at hf
    refine G.callSi (av := [.int (I_8 b0 1), .int x1, .int x3]) (rest := [.ref b0]) dX4_merge_86 msX4_119 (gX4_toFirst E d (I_8 b0 1) x1 x3 I_8 hc_9) rfl rfl (Nat.le_of_ble_eq_true rfl) ?_
    refine G.putI dX4_merge_89 flX4_43 (isH_lt hb0) (isH_lk hb0) ?_
    refine G.nmI (fun I_11 e_I_11 => ?_)
    have hf := letb_at hf e_I_11
    clear e_I_11
    refine G.iconst (v := 0) dX4_merge_92 (by decide) ?_
    refine G.istore (L' := [some (.ref b0), some (.int x1), some (.int x2), some (.int x3), some (.int x4), some (.int (0 : Int32))]) dX4_merge_93 (Nat.le_of_ble_eq_true rfl) (Nat.le_of_ble_eq_true rfl) rfl rfl ?_
    obtain ⟨z_26, hz_26, rfl⟩ := inrO_at hf
    have hf := hz_26
    refine G.forget (L' := [some (.ref b0), some (.int x1), some (.int x2), none, none, some (.int (0 : Int32))]) [3, 4] rfl ?_
    exact lX4_merge_95 E d rr b0 x1 x2 hb0 _ hK FU _ hf
  · have hf := ite_f hf c_32
    refine G.aload_n dX4_merge_39 rfl rfl ?_
    refine G.getR (q := (b0 + 1)) dX4_merge_40 flX4_15 (isH_lt hb0) (isH_lk hb0) (isH_r1 hb0) ?_
    refine G.iload dX4_merge_43 rfl ?_
    refine G.aload_n dX4_merge_45 rfl rfl ?_
    refine G.getR (q := (b0 + 1)) dX4_merge_46 flX4_15 (isH_lt hb0) (isH_lk hb0) (isH_r1 hb0) ?_
    refine G.iload dX4_merge_49 rfl ?_
    obtain ⟨hi_27, hf⟩ := chk_at hf
    refine G.iald' dX4_merge_51 (isH_l1 hb0) (isH_k1 hb0) (isH_n1 hb0) hi_27 ?_
    refine G.iload_n dX4_merge_52 rfl rfl ?_
    refine G.iload_n dX4_merge_53 rfl rfl ?_
    obtain ⟨v_29, hc_28, hf⟩ := bnd_at hf
    refine G.callSi (av := [.int (I (b0 + 1) (ix x5)), .int x1, .int x3]) (rest := [.int x5, .ref (b0 + 1)]) dX4_merge_54 msX4_119 (gX4_toFirst E d (I (b0 + 1) (ix x5)) x1 x3 I hc_28) rfl rfl (Nat.le_of_ble_eq_true rfl) ?_
    obtain ⟨hi_30, hf⟩ := chk_at hf
    refine G.iast' dX4_merge_57 (isH_l1 hb0) (isH_k1 hb0) (isH_n1 hb0) hi_30 ?_
    refine G.nmI (fun I_31 e_I_31 => ?_)
    have hf := letb_at hf e_I_31
    clear e_I_31
    refine G.inc (w := 1) (L' := [some (.ref b0), some (.int x1), some (.int x2), some (.int x3), some (.int x4), some (.int (x5 + (1 : Int32)))]) dX4_merge_58 (by decide) rfl (Nat.le_of_ble_eq_true rfl) rfl rfl ?_
    refine G.goto (tgt := 30) dX4_merge_61 (by decide) ?_
    cases hf
    exact hK
theorem lX4_merge_30 (E : EV) (d : Nat) (rr : Option Value × Mem) (b0 : Nat) (x1 : Int32) (x2 : Int32) (x3 : Int32) (x4 : Int32) (hb0 : isH b0) (z : Mem) (hK : (fun (z : Mem) => ((none : Option Value), z) = rr) z) : ∀ (n : Nat) (q : (Int32 × Mem)), iter (sX4_merge_30 b0 x1 x2 x3 x4) n q = some z → G E (d + 1) kX4_merge 30 [some (.ref b0), some (.int x1), some (.int x2), some (.int x3), some (.int x4), some (.int q.1)] [] q.2 rr := by
  intro n
  induction n with
  | zero => intro q h; cases h
  | succ n ih =>
    intro q h
    rcases iter_at h with ⟨q2, hs, h2⟩ | hs
    · exact wX4_merge_30 E d rr b0 x1 x2 x3 x4 q.1 q.2 hb0 _ hs (ih q2 h2)
    · exact wX4_merge_30 E d rr b0 x1 x2 x3 x4 q.1 q.2 hb0 _ hs hK
def fX4_merge (b0 : Nat) (x1 : Int32) (x2 : Int32) (I : Mem) : Option Mem :=
  letb (((1 : Int32) <<< (x1 &&& 31)) ||| ((1 : Int32) <<< (x2 &&& 31))) fun x3_1 =>
  chk (inb x1 5) <|
  chk (inb x2 5) <|
  letb (((I (b0 + 1) (ix x1)) ||| (I (b0 + 1) (ix x2))) &&& (x3_1 ^^^ (-1 : Int32))) fun x4_4 =>
  iter (sX4_merge_30 b0 x1 x2 x3_1 x4_4) FU ((0 : Int32), I)
set_option maxRecDepth 20000 in
theorem gX4_merge (E : EV) (d : Nat) (b0 : Nat) (x1 : Int32) (x2 : Int32) (I : Mem) (hb0 : isH b0) {J : Mem} (hf : fX4_merge b0 x1 x2 I = some J) : Gm E (d + 1) kX4_merge [.ref b0, .int x1, .int x2] I (none, J) := by
  refine Gm.of (by decide) rfl (Nat.le_of_ble_eq_true rfl) ?_
  generalize hrr : ((none, J) : Option Value × Mem) = rr
  show G E (d + 1) kX4_merge 0 [some (.ref b0), some (.int x1), some (.int x2), none, none, none] [] I rr
  have hK : (fun (z : Mem) => ((none : Option Value), z) = rr) J := hrr
  clear hrr
  unfold fX4_merge at hf
  refine G.iconst (v := 1) dX4_merge_0 (by decide) ?_
  refine G.iload_n dX4_merge_1 rfl rfl ?_
  refine G.ishl dX4_merge_2 ?_
  refine G.iconst (v := 1) dX4_merge_3 (by decide) ?_
  refine G.iload_n dX4_merge_4 rfl rfl ?_
  refine G.ishl dX4_merge_5 ?_
  refine G.ior dX4_merge_6 ?_
  refine G.nmi (fun x3_1 e_x3_1 => ?_)
  have hf := letb_at hf e_x3_1
  clear e_x3_1
  refine G.istore_n (L' := [some (.ref b0), some (.int x1), some (.int x2), some (.int x3_1), none, none]) dX4_merge_7 rfl (Nat.le_of_ble_eq_true rfl) (Nat.le_of_ble_eq_true rfl) rfl rfl ?_
  refine G.aload_n dX4_merge_8 rfl rfl ?_
  refine G.getR (q := (b0 + 1)) dX4_merge_9 flX4_15 (isH_lt hb0) (isH_lk hb0) (isH_r1 hb0) ?_
  refine G.iload_n dX4_merge_12 rfl rfl ?_
  obtain ⟨hi_2, hf⟩ := chk_at hf
  refine G.iald' dX4_merge_13 (isH_l1 hb0) (isH_k1 hb0) (isH_n1 hb0) hi_2 ?_
  refine G.aload_n dX4_merge_14 rfl rfl ?_
  refine G.getR (q := (b0 + 1)) dX4_merge_15 flX4_15 (isH_lt hb0) (isH_lk hb0) (isH_r1 hb0) ?_
  refine G.iload_n dX4_merge_18 rfl rfl ?_
  obtain ⟨hi_3, hf⟩ := chk_at hf
  refine G.iald' dX4_merge_19 (isH_l1 hb0) (isH_k1 hb0) (isH_n1 hb0) hi_3 ?_
  refine G.ior dX4_merge_20 ?_
  refine G.iload_n dX4_merge_21 rfl rfl ?_
  refine G.iconst (v := -1) dX4_merge_22 (by decide) ?_
  refine G.ixor dX4_merge_23 ?_
  refine G.iand dX4_merge_24 ?_
  refine G.nmi (fun x4_4 e_x4_4 => ?_)
  have hf := letb_at hf e_x4_4
  clear e_x4_4
  refine G.istore (L' := [some (.ref b0), some (.int x1), some (.int x2), some (.int x3_1), some (.int x4_4), none]) dX4_merge_25 (Nat.le_of_ble_eq_true rfl) (Nat.le_of_ble_eq_true rfl) rfl rfl ?_
  refine G.iconst (v := 0) dX4_merge_27 (by decide) ?_
  refine G.istore (L' := [some (.ref b0), some (.int x1), some (.int x2), some (.int x3_1), some (.int x4_4), some (.int (0 : Int32))]) dX4_merge_28 (Nat.le_of_ble_eq_true rfl) (Nat.le_of_ble_eq_true rfl) rfl rfl ?_
  exact lX4_merge_30 E d rr b0 x1 x2 x3_1 x4_4 hb0 _ hK FU _ hf
theorem dX10_onward_0 : decode cX10_onward 0 = .ok (.aload_n 0, 1) := by decide +kernel
theorem dX10_onward_1 : decode cX10_onward 1 = .ok (.aload_n 1, 1) := by decide +kernel
theorem dX10_onward_2 : decode cX10_onward 2 = .ok (.getfield 15, 3) := by decide +kernel
theorem dX10_onward_5 : decode cX10_onward 5 = .ok (.putfield 21, 3) := by decide +kernel
theorem dX10_onward_8 : decode cX10_onward 8 = .ok (.iconst 0, 1) := by decide +kernel
theorem dX10_onward_9 : decode cX10_onward 9 = .ok (.istore_n 3, 1) := by decide +kernel
theorem dX10_onward_10 : decode cX10_onward 10 = .ok (.iload_n 3, 1) := by decide +kernel
theorem dX10_onward_11 : decode cX10_onward 11 = .ok (.aload_n 0, 1) := by decide +kernel
theorem dX10_onward_12 : decode cX10_onward 12 = .ok (.getfield 21, 3) := by decide +kernel
theorem dX10_onward_15 : decode cX10_onward 15 = .ok (.if_icmp .ge 24, 3) := by decide +kernel
theorem dX10_onward_18 : decode cX10_onward 18 = .ok (.aload_n 0, 1) := by decide +kernel
theorem dX10_onward_19 : decode cX10_onward 19 = .ok (.getfield 9, 3) := by decide +kernel
theorem dX10_onward_22 : decode cX10_onward 22 = .ok (.iload_n 3, 1) := by decide +kernel
theorem dX10_onward_23 : decode cX10_onward 23 = .ok (.aload_n 1, 1) := by decide +kernel
theorem dX10_onward_24 : decode cX10_onward 24 = .ok (.iload_n 2, 1) := by decide +kernel
theorem dX10_onward_25 : decode cX10_onward 25 = .ok (.iload_n 3, 1) := by decide +kernel
theorem dX10_onward_26 : decode cX10_onward 26 = .ok (.invokestatic 41, 3) := by decide +kernel
theorem dX10_onward_29 : decode cX10_onward 29 = .ok (.invokevirtual 45, 3) := by decide +kernel
theorem dX10_onward_32 : decode cX10_onward 32 = .ok (.iastore, 1) := by decide +kernel
theorem dX10_onward_33 : decode cX10_onward 33 = .ok (.iinc 3 1, 3) := by decide +kernel
theorem dX10_onward_36 : decode cX10_onward 36 = .ok (.goto (-26), 3) := by decide +kernel
theorem dX10_onward_39 : decode cX10_onward 39 = .ok (.aload_n 0, 1) := by decide +kernel
theorem dX10_onward_40 : decode cX10_onward 40 = .ok (.invokevirtual 32, 3) := by decide +kernel
theorem dX10_onward_43 : decode cX10_onward 43 = .ok (.ireturn, 1) := by decide +kernel
def KX10_onward_10 (E : EV) (d : Nat) (rr : Option Value × Mem) (w0 : Nat) (b1 : Nat) (x2 : Int32) (Kp : (Int32 × Mem) → Prop) : ((Int32 × Mem) ⊕ (Int32 × Mem)) → Prop
  | .inl q => G E (d + 2) kX10_onward 10 [some (.ref w0), some (.ref b1), some (.int x2), some (.int q.1)] [] q.2 rr
  | .inr z => Kp z
def bX10_onward_10 (w0 : Nat) (b1 : Nat) (x2 : Int32) (x3 : Int32) (I : Mem) : Option ((Int32 × Mem) ⊕ (Int32 × Mem)) :=
  if (I w0 1) ≤ x3 then
  (bnd2 (fX10_begin w0 I) fun v_3 I_4 =>
  some (.inr (v_3, I_4)))
  else
  (bnd (fX11_roomOf x2 x3 I) fun v_6 =>
  bnd (fX4_reach b1 v_6 I) fun v_8 =>
  chk (inb x3 4) <|
  letb (up2 I (w0 + 1) (ix x3) v_8) fun I_10 =>
  some (.inl ((x3 + (1 : Int32)), I_10)))
def sX10_onward_10 (w0 : Nat) (b1 : Nat) (x2 : Int32) (q : (Int32 × Mem)) : Option ((Int32 × Mem) ⊕ (Int32 × Mem)) := bX10_onward_10 w0 b1 x2 q.1 q.2
set_option maxRecDepth 20000 in
theorem wX10_onward_10 (E : EV) (d : Nat) (rr : Option Value × Mem) (w0 : Nat) (b1 : Nat) (x2 : Int32) (x3 : Int32) (I : Mem) (hw0 : isW w0) (hb1 : isH b1) (y : ((Int32 × Mem) ⊕ (Int32 × Mem))) (hf : bX10_onward_10 w0 b1 x2 x3 I = some y) (hK : (KX10_onward_10 E d rr w0 b1 x2 (fun (z : Int32 × Mem) => (some (.int z.1), z.2) = rr)) y) : G E (d + 2) kX10_onward 10 [some (.ref w0), some (.ref b1), some (.int x2), some (.int x3)] [] I rr := by
  unfold bX10_onward_10 at hf
  refine G.iload_n dX10_onward_10 rfl rfl ?_
  refine G.aload_n dX10_onward_11 rfl rfl ?_
  refine G.getI dX10_onward_12 flX10_21 (isW_lt hw0) (isW_lk hw0) ?_
  refine G.icmp_ge (tgt := 39) dX10_onward_15 (by decide) (fun c_11 => ?_) (fun c_11 => ?_)
  · have hf := ite_t hf c_11
    refine G.aload_n dX10_onward_39 rfl rfl ?_
    obtain ⟨v_3, I_4, hc_2, hf⟩ := bnd2_at hf
    refine G.callVi (av := []) (rest := []) dX10_onward_40 mvX10_32 (gX10_begin E d w0 I hw0 hc_2) (isW_lt hw0) (isW_lk hw0) rfl rfl (Nat.le_of_ble_eq_true rfl) ?_
    cases hf
    exact G.iret' dX10_onward_43 rfl hK
  · have hf := ite_f hf c_11
    refine G.aload_n dX10_onward_18 rfl rfl ?_
    refine G.getR (q := (w0 + 1)) dX10_onward_19 flX10_9 (isW_lt hw0) (isW_lk hw0) (isW_r1 hw0) ?_
    refine G.iload_n dX10_onward_22 rfl rfl ?_
    refine G.aload_n dX10_onward_23 rfl rfl ?_
    refine G.iload_n dX10_onward_24 rfl rfl ?_
    refine G.iload_n dX10_onward_25 rfl rfl ?_
    obtain ⟨v_6, hc_5, hf⟩ := bnd_at hf
    refine G.callNi (av := [.int x2, .int x3]) (rest := [.ref b1, .int x3, .ref (w0 + 1)]) dX10_onward_26 mnX10_41 (gX11_roomOf E (d + 1) x2 x3 I hc_5) rfl rfl (Nat.le_of_ble_eq_true rfl) ?_
    obtain ⟨v_8, hc_7, hf⟩ := bnd_at hf
    refine G.callVi (av := [.int v_6]) (rest := [.int x3, .ref (w0 + 1)]) dX10_onward_29 mvX10_45 (gX4_reach E (d + 1) b1 v_6 I hb1 hc_7) (isH_lt hb1) (isH_lk hb1) rfl rfl (Nat.le_of_ble_eq_true rfl) ?_
    obtain ⟨hi_9, hf⟩ := chk_at hf
    refine G.iast' dX10_onward_32 (isW_l1 hw0) (isW_k1 hw0) (isW_n1 hw0) hi_9 ?_
    refine G.nmI (fun I_10 e_I_10 => ?_)
    have hf := letb_at hf e_I_10
    clear e_I_10
    refine G.inc (w := 1) (L' := [some (.ref w0), some (.ref b1), some (.int x2), some (.int (x3 + (1 : Int32)))]) dX10_onward_33 (by decide) rfl (Nat.le_of_ble_eq_true rfl) rfl rfl ?_
    refine G.goto (tgt := 10) dX10_onward_36 (by decide) ?_
    cases hf
    exact hK
theorem lX10_onward_10 (E : EV) (d : Nat) (rr : Option Value × Mem) (w0 : Nat) (b1 : Nat) (x2 : Int32) (hw0 : isW w0) (hb1 : isH b1) (z : (Int32 × Mem)) (hK : (fun (z : Int32 × Mem) => (some (.int z.1), z.2) = rr) z) : ∀ (n : Nat) (q : (Int32 × Mem)), iter (sX10_onward_10 w0 b1 x2) n q = some z → G E (d + 2) kX10_onward 10 [some (.ref w0), some (.ref b1), some (.int x2), some (.int q.1)] [] q.2 rr := by
  intro n
  induction n with
  | zero => intro q h; cases h
  | succ n ih =>
    intro q h
    rcases iter_at h with ⟨q2, hs, h2⟩ | hs
    · exact wX10_onward_10 E d rr w0 b1 x2 q.1 q.2 hw0 hb1 _ hs (ih q2 h2)
    · exact wX10_onward_10 E d rr w0 b1 x2 q.1 q.2 hw0 hb1 _ hs hK
def fX10_onward (w0 : Nat) (b1 : Nat) (x2 : Int32) (I : Mem) : Option (Int32 × Mem) :=
  letb (up2 I w0 1 (I b1 2)) fun I_1 =>
  iter (sX10_onward_10 w0 b1 x2) FU ((0 : Int32), I_1)
set_option maxRecDepth 20000 in
theorem gX10_onward (E : EV) (d : Nat) (w0 : Nat) (b1 : Nat) (x2 : Int32) (I : Mem) (hw0 : isW w0) (hb1 : isH b1) {v : Int32} {J : Mem} (hf : fX10_onward w0 b1 x2 I = some (v, J)) : Gm E (d + 2) kX10_onward [.ref w0, .ref b1, .int x2] I (some (.int v), J) := by
  refine Gm.of (by decide) rfl (Nat.le_of_ble_eq_true rfl) ?_
  generalize hrr : ((some (.int v), J) : Option Value × Mem) = rr
  show G E (d + 2) kX10_onward 0 [some (.ref w0), some (.ref b1), some (.int x2), none] [] I rr
  have hK : (fun (z : Int32 × Mem) => (some (.int z.1), z.2) = rr) (v, J) := hrr
  clear hrr
  unfold fX10_onward at hf
  refine G.aload_n dX10_onward_0 rfl rfl ?_
  refine G.aload_n dX10_onward_1 rfl rfl ?_
  refine G.getI dX10_onward_2 flX10_15 (isH_lt hb1) (isH_lk hb1) ?_
  refine G.putI dX10_onward_5 flX10_21 (isW_lt hw0) (isW_lk hw0) ?_
  refine G.nmI (fun I_1 e_I_1 => ?_)
  have hf := letb_at hf e_I_1
  clear e_I_1
  refine G.iconst (v := 0) dX10_onward_8 (by decide) ?_
  refine G.istore_n (L' := [some (.ref w0), some (.ref b1), some (.int x2), some (.int (0 : Int32))]) dX10_onward_9 rfl (Nat.le_of_ble_eq_true rfl) (Nat.le_of_ble_eq_true rfl) rfl rfl ?_
  exact lX10_onward_10 E d rr w0 b1 x2 hw0 hb1 _ hK FU _ hf
end
section
theorem dX8_add_0 : decode cX8_add 0 = .ok (.iload_n 3, 1) := by decide +kernel
theorem dX8_add_1 : decode cX8_add 1 = .ok (.iconst 1, 1) := by decide +kernel
theorem dX8_add_2 : decode cX8_add 2 = .ok (.isub, 1) := by decide +kernel
theorem dX8_add_3 : decode cX8_add 3 = .ok (.istore 4, 2) := by decide +kernel
theorem dX8_add_5 : decode cX8_add 5 = .ok (.iload 4, 2) := by decide +kernel
theorem dX8_add_7 : decode cX8_add 7 = .ok (.ifCond .lt 50, 3) := by decide +kernel
theorem dX8_add_10 : decode cX8_add 10 = .ok (.aload_n 0, 1) := by decide +kernel
theorem dX8_add_11 : decode cX8_add 11 = .ok (.getfield 15, 3) := by decide +kernel
theorem dX8_add_14 : decode cX8_add 14 = .ok (.sipush 200, 3) := by decide +kernel
theorem dX8_add_17 : decode cX8_add 17 = .ok (.if_icmp .ge 40, 3) := by decide +kernel
theorem dX8_add_20 : decode cX8_add 20 = .ok (.aload_n 0, 1) := by decide +kernel
theorem dX8_add_21 : decode cX8_add 21 = .ok (.getfield 9, 3) := by decide +kernel
theorem dX8_add_24 : decode cX8_add 24 = .ok (.aload_n 0, 1) := by decide +kernel
theorem dX8_add_25 : decode cX8_add 25 = .ok (.getfield 15, 3) := by decide +kernel
theorem dX8_add_28 : decode cX8_add 28 = .ok (.lload_n 1, 1) := by decide +kernel
theorem dX8_add_29 : decode cX8_add 29 = .ok (.bipush 8, 2) := by decide +kernel
theorem dX8_add_31 : decode cX8_add 31 = .ok (.iload 4, 2) := by decide +kernel
theorem dX8_add_33 : decode cX8_add 33 = .ok (.imul, 1) := by decide +kernel
theorem dX8_add_34 : decode cX8_add 34 = .ok (.lshr, 1) := by decide +kernel
theorem dX8_add_35 : decode cX8_add 35 = .ok (.l2i, 1) := by decide +kernel
theorem dX8_add_36 : decode cX8_add 36 = .ok (.sipush 255, 3) := by decide +kernel
theorem dX8_add_39 : decode cX8_add 39 = .ok (.iand, 1) := by decide +kernel
theorem dX8_add_40 : decode cX8_add 40 = .ok (.iastore, 1) := by decide +kernel
theorem dX8_add_41 : decode cX8_add 41 = .ok (.aload_n 0, 1) := by decide +kernel
theorem dX8_add_42 : decode cX8_add 42 = .ok (.dup, 1) := by decide +kernel
theorem dX8_add_43 : decode cX8_add 43 = .ok (.getfield 15, 3) := by decide +kernel
theorem dX8_add_46 : decode cX8_add 46 = .ok (.iconst 1, 1) := by decide +kernel
theorem dX8_add_47 : decode cX8_add 47 = .ok (.iadd, 1) := by decide +kernel
theorem dX8_add_48 : decode cX8_add 48 = .ok (.putfield 15, 3) := by decide +kernel
theorem dX8_add_51 : decode cX8_add 51 = .ok (.iinc 4 (-1), 3) := by decide +kernel
theorem dX8_add_54 : decode cX8_add 54 = .ok (.goto (-49), 3) := by decide +kernel
theorem dX8_add_57 : decode cX8_add 57 = .ok (.return_, 1) := by decide +kernel
def KX8_add_5 (E : EV) (d : Nat) (rr : Option Value × Mem) (l1 : Int64) (Kp : Mem → Prop) : ((Int32 × Mem) ⊕ Mem) → Prop
  | .inl q => G E (d + 0) kX8_add 5 [some (.ref 35), some (.long l1), none, none, some (.int q.1)] [] q.2 rr
  | .inr z => Kp z
def bX8_add_5 (l1 : Int64) (x4 : Int32) (I : Mem) : Option ((Int32 × Mem) ⊕ Mem) :=
  if x4 < 0 then
  (some (.inr I))
  else
  (if (200 : Int32) ≤ (I 35 0) then
  (some (.inr I))
  else
  (chk (inb (I 35 0) 200) <|
  letb (up2 I 36 (ix (I 35 0)) ((Int64.toInt32 (l1 >>> (Int32.toInt64 ((8 : Int32) * x4) &&& 63))) &&& (255 : Int32))) fun I_3 =>
  letb (up2 I_3 35 0 ((I_3 35 0) + (1 : Int32))) fun I_4 =>
  some (.inl ((x4 + (-1 : Int32)), I_4))))
def sX8_add_5 (l1 : Int64) (q : (Int32 × Mem)) : Option ((Int32 × Mem) ⊕ Mem) := bX8_add_5 l1 q.1 q.2
set_option maxRecDepth 20000 in
theorem wX8_add_5 (E : EV) (d : Nat) (rr : Option Value × Mem) (l1 : Int64) (x4 : Int32) (I : Mem) (y : ((Int32 × Mem) ⊕ Mem)) (hf : bX8_add_5 l1 x4 I = some y) (hK : (KX8_add_5 E d rr l1 (fun (z : Mem) => ((none : Option Value), z) = rr)) y) : G E (d + 0) kX8_add 5 [some (.ref 35), some (.long l1), none, none, some (.int x4)] [] I rr := by
  unfold bX8_add_5 at hf
  refine G.iload dX8_add_5 rfl ?_
  refine G.if_lt (tgt := 57) dX8_add_7 (by decide) (fun c_6 => ?_) (fun c_6 => ?_)
  · have hf := ite_t hf c_6
    cases hf
    exact G.vret' dX8_add_57 rfl hK
  · have hf := ite_f hf c_6
    refine G.aload_n dX8_add_10 rfl rfl ?_
    refine G.getI dX8_add_11 flX8_15 (by decide) rfl ?_
    refine G.sipush (v := 200) dX8_add_14 (by decide) ?_
    refine G.icmp_ge (tgt := 57) dX8_add_17 (by decide) (fun c_5 => ?_) (fun c_5 => ?_)
    · have hf := ite_t hf c_5
      cases hf
      exact G.vret' dX8_add_57 rfl hK
    · have hf := ite_f hf c_5
      refine G.aload_n dX8_add_20 rfl rfl ?_
      refine G.getR (q := 36) dX8_add_21 flX8_9 (by decide) rfl rfl ?_
      refine G.aload_n dX8_add_24 rfl rfl ?_
      refine G.getI dX8_add_25 flX8_15 (by decide) rfl ?_
      refine G.lload_n dX8_add_28 rfl rfl ?_
      refine G.bipush (v := 8) dX8_add_29 (by decide) ?_
      refine G.iload dX8_add_31 rfl ?_
      refine G.imul dX8_add_33 ?_
      refine G.lshr dX8_add_34 ?_
      refine G.l2i dX8_add_35 ?_
      refine G.sipush (v := 255) dX8_add_36 (by decide) ?_
      refine G.iand dX8_add_39 ?_
      obtain ⟨hi_2, hf⟩ := chk_at hf
      refine G.iast' dX8_add_40 (by decide) rfl rfl hi_2 ?_
      refine G.nmI (fun I_3 e_I_3 => ?_)
      have hf := letb_at hf e_I_3
      clear e_I_3
      refine G.aload_n dX8_add_41 rfl rfl ?_
      refine G.dup dX8_add_42 rfl ?_
      refine G.getI dX8_add_43 flX8_15 (by decide) rfl ?_
      refine G.iconst (v := 1) dX8_add_46 (by decide) ?_
      refine G.iadd dX8_add_47 ?_
      refine G.putI dX8_add_48 flX8_15 (by decide) rfl ?_
      refine G.nmI (fun I_4 e_I_4 => ?_)
      have hf := letb_at hf e_I_4
      clear e_I_4
      refine G.inc (w := -1) (L' := [some (.ref 35), some (.long l1), none, none, some (.int (x4 + (-1 : Int32)))]) dX8_add_51 (by decide) rfl (Nat.le_of_ble_eq_true rfl) rfl rfl ?_
      refine G.goto (tgt := 5) dX8_add_54 (by decide) ?_
      cases hf
      exact hK
theorem lX8_add_5 (E : EV) (d : Nat) (rr : Option Value × Mem) (l1 : Int64) (z : Mem) (hK : (fun (z : Mem) => ((none : Option Value), z) = rr) z) : ∀ (n : Nat) (q : (Int32 × Mem)), iter (sX8_add_5 l1) n q = some z → G E (d + 0) kX8_add 5 [some (.ref 35), some (.long l1), none, none, some (.int q.1)] [] q.2 rr := by
  intro n
  induction n with
  | zero => intro q h; cases h
  | succ n ih =>
    intro q h
    rcases iter_at h with ⟨q2, hs, h2⟩ | hs
    · exact wX8_add_5 E d rr l1 q.1 q.2 _ hs (ih q2 h2)
    · exact wX8_add_5 E d rr l1 q.1 q.2 _ hs hK
def fX8_add (l1 : Int64) (x3 : Int32) (I : Mem) : Option Mem :=
  letb (x3 - (1 : Int32)) fun x4_1 =>
  iter (sX8_add_5 l1) FU (x4_1, I)
set_option maxRecDepth 20000 in
theorem gX8_add (E : EV) (d : Nat) (l1 : Int64) (x3 : Int32) (I : Mem) {J : Mem} (hf : fX8_add l1 x3 I = some J) : Gm E (d + 0) kX8_add [.ref 35, .long l1, .int x3] I (none, J) := by
  refine Gm.of (by decide) rfl (Nat.le_of_ble_eq_true rfl) ?_
  generalize hrr : ((none, J) : Option Value × Mem) = rr
  show G E (d + 0) kX8_add 0 [some (.ref 35), some (.long l1), none, some (.int x3), none] [] I rr
  have hK : (fun (z : Mem) => ((none : Option Value), z) = rr) J := hrr
  clear hrr
  unfold fX8_add at hf
  refine G.iload_n dX8_add_0 rfl rfl ?_
  refine G.iconst (v := 1) dX8_add_1 (by decide) ?_
  refine G.isub dX8_add_2 ?_
  refine G.nmi (fun x4_1 e_x4_1 => ?_)
  have hf := letb_at hf e_x4_1
  clear e_x4_1
  refine G.istore (L' := [some (.ref 35), some (.long l1), none, some (.int x3), some (.int x4_1)]) dX8_add_3 (Nat.le_of_ble_eq_true rfl) (Nat.le_of_ble_eq_true rfl) rfl rfl ?_
  refine G.forget (L' := [some (.ref 35), some (.long l1), none, none, some (.int x4_1)]) [3] rfl ?_
  exact lX8_add_5 E d rr l1 _ hK FU _ hf
theorem dX8_isWithin_0 : decode cX8_isWithin 0 = .ok (.aload_n 0, 1) := by decide +kernel
theorem dX8_isWithin_1 : decode cX8_isWithin 1 = .ok (.getfield 9, 3) := by decide +kernel
theorem dX8_isWithin_4 : decode cX8_isWithin 4 = .ok (.iload_n 1, 1) := by decide +kernel
theorem dX8_isWithin_5 : decode cX8_isWithin 5 = .ok (.iaload, 1) := by decide +kernel
theorem dX8_isWithin_6 : decode cX8_isWithin 6 = .ok (.iload_n 2, 1) := by decide +kernel
theorem dX8_isWithin_7 : decode cX8_isWithin 7 = .ok (.if_icmp .lt 17, 3) := by decide +kernel
theorem dX8_isWithin_10 : decode cX8_isWithin 10 = .ok (.aload_n 0, 1) := by decide +kernel
theorem dX8_isWithin_11 : decode cX8_isWithin 11 = .ok (.getfield 9, 3) := by decide +kernel
theorem dX8_isWithin_14 : decode cX8_isWithin 14 = .ok (.iload_n 1, 1) := by decide +kernel
theorem dX8_isWithin_15 : decode cX8_isWithin 15 = .ok (.iaload, 1) := by decide +kernel
theorem dX8_isWithin_16 : decode cX8_isWithin 16 = .ok (.iload_n 3, 1) := by decide +kernel
theorem dX8_isWithin_17 : decode cX8_isWithin 17 = .ok (.if_icmp .gt 7, 3) := by decide +kernel
theorem dX8_isWithin_20 : decode cX8_isWithin 20 = .ok (.iconst 1, 1) := by decide +kernel
theorem dX8_isWithin_21 : decode cX8_isWithin 21 = .ok (.goto 4, 3) := by decide +kernel
theorem dX8_isWithin_24 : decode cX8_isWithin 24 = .ok (.iconst 0, 1) := by decide +kernel
theorem dX8_isWithin_25 : decode cX8_isWithin 25 = .ok (.ireturn, 1) := by decide +kernel
def fX8_isWithin (x1 : Int32) (x2 : Int32) (x3 : Int32) (I : Mem) : Option Int32 :=
  chk (inb x1 200) <|
  if (I 36 (ix x1)) < x2 then
  (some (0 : Int32))
  else
  (chk (inb x1 200) <|
  if x3 < (I 36 (ix x1)) then
  (some (0 : Int32))
  else
  (some (1 : Int32)))
set_option maxRecDepth 20000 in
theorem gX8_isWithin (E : EV) (d : Nat) (x1 : Int32) (x2 : Int32) (x3 : Int32) (I : Mem) {v : Int32} (hf : fX8_isWithin x1 x2 x3 I = some v) : Gm E (d + 0) kX8_isWithin [.ref 35, .int x1, .int x2, .int x3] I (some (.int v), I) := by
  refine Gm.of (by decide) rfl (Nat.le_of_ble_eq_true rfl) ?_
  generalize hrr : ((some (.int v), I) : Option Value × Mem) = rr
  show G E (d + 0) kX8_isWithin 0 [some (.ref 35), some (.int x1), some (.int x2), some (.int x3)] [] I rr
  have hK : (fun (z : Int32) => (some (.int z), I) = rr) v := hrr
  clear hrr
  unfold fX8_isWithin at hf
  refine G.aload_n dX8_isWithin_0 rfl rfl ?_
  refine G.getR (q := 36) dX8_isWithin_1 flX8_9 (by decide) rfl rfl ?_
  refine G.iload_n dX8_isWithin_4 rfl rfl ?_
  obtain ⟨hi_1, hf⟩ := chk_at hf
  refine G.iald' dX8_isWithin_5 (by decide) rfl rfl hi_1 ?_
  refine G.iload_n dX8_isWithin_6 rfl rfl ?_
  refine G.icmp_lt (tgt := 24) dX8_isWithin_7 (by decide) (fun c_4 => ?_) (fun c_4 => ?_)
  · have hf := ite_t hf c_4
    refine G.iconst (v := 0) dX8_isWithin_24 (by decide) ?_
    cases hf
    exact G.zret' dX8_isWithin_25 rfl (by decide) hK
  · have hf := ite_f hf c_4
    refine G.aload_n dX8_isWithin_10 rfl rfl ?_
    refine G.getR (q := 36) dX8_isWithin_11 flX8_9 (by decide) rfl rfl ?_
    refine G.iload_n dX8_isWithin_14 rfl rfl ?_
    obtain ⟨hi_2, hf⟩ := chk_at hf
    refine G.iald' dX8_isWithin_15 (by decide) rfl rfl hi_2 ?_
    refine G.iload_n dX8_isWithin_16 rfl rfl ?_
    refine G.icmp_gt (tgt := 24) dX8_isWithin_17 (by decide) (fun c_3 => ?_) (fun c_3 => ?_)
    · have hf := ite_t hf c_3
      refine G.iconst (v := 0) dX8_isWithin_24 (by decide) ?_
      cases hf
      exact G.zret' dX8_isWithin_25 rfl (by decide) hK
    · have hf := ite_f hf c_3
      refine G.iconst (v := 1) dX8_isWithin_20 (by decide) ?_
      refine G.goto (tgt := 25) dX8_isWithin_21 (by decide) ?_
      cases hf
      exact G.zret' dX8_isWithin_25 rfl (by decide) hK
theorem dX8_endOf_0 : decode cX8_endOf 0 = .ok (.aload_n 0, 1) := by decide +kernel
theorem dX8_endOf_1 : decode cX8_endOf 1 = .ok (.getfield 31, 3) := by decide +kernel
theorem dX8_endOf_4 : decode cX8_endOf 4 = .ok (.istore_n 3, 1) := by decide +kernel
theorem dX8_endOf_5 : decode cX8_endOf 5 = .ok (.iload_n 3, 1) := by decide +kernel
theorem dX8_endOf_6 : decode cX8_endOf 6 = .ok (.aload_n 0, 1) := by decide +kernel
theorem dX8_endOf_7 : decode cX8_endOf 7 = .ok (.getfield 15, 3) := by decide +kernel
theorem dX8_endOf_10 : decode cX8_endOf 10 = .ok (.if_icmp .ge 19, 3) := by decide +kernel
theorem dX8_endOf_13 : decode cX8_endOf 13 = .ok (.aload_n 0, 1) := by decide +kernel
theorem dX8_endOf_14 : decode cX8_endOf 14 = .ok (.iload_n 3, 1) := by decide +kernel
theorem dX8_endOf_15 : decode cX8_endOf 15 = .ok (.iload_n 1, 1) := by decide +kernel
theorem dX8_endOf_16 : decode cX8_endOf 16 = .ok (.iload_n 2, 1) := by decide +kernel
theorem dX8_endOf_17 : decode cX8_endOf 17 = .ok (.invokevirtual 81, 3) := by decide +kernel
theorem dX8_endOf_20 : decode cX8_endOf 20 = .ok (.ifCond .eq 9, 3) := by decide +kernel
theorem dX8_endOf_23 : decode cX8_endOf 23 = .ok (.iinc 3 1, 3) := by decide +kernel
theorem dX8_endOf_26 : decode cX8_endOf 26 = .ok (.goto (-21), 3) := by decide +kernel
theorem dX8_endOf_29 : decode cX8_endOf 29 = .ok (.iload_n 3, 1) := by decide +kernel
theorem dX8_endOf_30 : decode cX8_endOf 30 = .ok (.ireturn, 1) := by decide +kernel
def KX8_endOf_5 (E : EV) (d : Nat) (rr : Option Value × Mem) (x1 : Int32) (x2 : Int32) (I : Mem) (Kp : Int32 → Prop) : (Int32 ⊕ Int32) → Prop
  | .inl q => G E (d + 1) kX8_endOf 5 [some (.ref 35), some (.int x1), some (.int x2), some (.int q)] [] I rr
  | .inr z => Kp z
def bX8_endOf_5 (x1 : Int32) (x2 : Int32) (I : Mem) (x3 : Int32) : Option (Int32 ⊕ Int32) :=
  if (I 35 0) ≤ x3 then
  (some (.inr x3))
  else
  (bnd (fX8_isWithin x3 x1 x2 I) fun v_3 =>
  if v_3 = 0 then
  (some (.inr x3))
  else
  (some (.inl (x3 + (1 : Int32)))))
def sX8_endOf_5 (x1 : Int32) (x2 : Int32) (I : Mem) (q : Int32) : Option (Int32 ⊕ Int32) := bX8_endOf_5 x1 x2 I q
set_option maxRecDepth 20000 in
theorem wX8_endOf_5 (E : EV) (d : Nat) (rr : Option Value × Mem) (x1 : Int32) (x2 : Int32) (I : Mem) (x3 : Int32) (y : (Int32 ⊕ Int32)) (hf : bX8_endOf_5 x1 x2 I x3 = some y) (hK : (KX8_endOf_5 E d rr x1 x2 I (fun (z : Int32) => (some (.int z), I) = rr)) y) : G E (d + 1) kX8_endOf 5 [some (.ref 35), some (.int x1), some (.int x2), some (.int x3)] [] I rr := by
  unfold bX8_endOf_5 at hf
  refine G.iload_n dX8_endOf_5 rfl rfl ?_
  refine G.aload_n dX8_endOf_6 rfl rfl ?_
  refine G.getI dX8_endOf_7 flX8_15 (by decide) rfl ?_
  refine G.icmp_ge (tgt := 29) dX8_endOf_10 (by decide) (fun c_5 => ?_) (fun c_5 => ?_)
  · have hf := ite_t hf c_5
    refine G.iload_n dX8_endOf_29 rfl rfl ?_
    cases hf
    exact G.iret' dX8_endOf_30 rfl hK
  · have hf := ite_f hf c_5
    refine G.aload_n dX8_endOf_13 rfl rfl ?_
    refine G.iload_n dX8_endOf_14 rfl rfl ?_
    refine G.iload_n dX8_endOf_15 rfl rfl ?_
    refine G.iload_n dX8_endOf_16 rfl rfl ?_
    obtain ⟨v_3, hc_2, hf⟩ := bnd_at hf
    refine G.callVi (av := [.int x3, .int x1, .int x2]) (rest := []) dX8_endOf_17 mvX8_81 (gX8_isWithin E d x3 x1 x2 I hc_2) (by decide) rfl rfl rfl (Nat.le_of_ble_eq_true rfl) ?_
    refine G.if_eq (tgt := 29) dX8_endOf_20 (by decide) (fun c_4 => ?_) (fun c_4 => ?_)
    · have hf := ite_t hf c_4
      refine G.iload_n dX8_endOf_29 rfl rfl ?_
      cases hf
      exact G.iret' dX8_endOf_30 rfl hK
    · have hf := ite_f hf c_4
      refine G.inc (w := 1) (L' := [some (.ref 35), some (.int x1), some (.int x2), some (.int (x3 + (1 : Int32)))]) dX8_endOf_23 (by decide) rfl (Nat.le_of_ble_eq_true rfl) rfl rfl ?_
      refine G.goto (tgt := 5) dX8_endOf_26 (by decide) ?_
      cases hf
      exact hK
theorem lX8_endOf_5 (E : EV) (d : Nat) (rr : Option Value × Mem) (x1 : Int32) (x2 : Int32) (I : Mem) (z : Int32) (hK : (fun (z : Int32) => (some (.int z), I) = rr) z) : ∀ (n : Nat) (q : Int32), iter (sX8_endOf_5 x1 x2 I) n q = some z → G E (d + 1) kX8_endOf 5 [some (.ref 35), some (.int x1), some (.int x2), some (.int q)] [] I rr := by
  intro n
  induction n with
  | zero => intro q h; cases h
  | succ n ih =>
    intro q h
    rcases iter_at h with ⟨q2, hs, h2⟩ | hs
    · exact wX8_endOf_5 E d rr x1 x2 I q _ hs (ih q2 h2)
    · exact wX8_endOf_5 E d rr x1 x2 I q _ hs hK
def fX8_endOf (x1 : Int32) (x2 : Int32) (I : Mem) : Option Int32 :=
  letb (I 35 3) fun x3_1 =>
  iter (sX8_endOf_5 x1 x2 I) FU x3_1
set_option maxRecDepth 20000 in
theorem gX8_endOf (E : EV) (d : Nat) (x1 : Int32) (x2 : Int32) (I : Mem) {v : Int32} (hf : fX8_endOf x1 x2 I = some v) : Gm E (d + 1) kX8_endOf [.ref 35, .int x1, .int x2] I (some (.int v), I) := by
  refine Gm.of (by decide) rfl (Nat.le_of_ble_eq_true rfl) ?_
  generalize hrr : ((some (.int v), I) : Option Value × Mem) = rr
  show G E (d + 1) kX8_endOf 0 [some (.ref 35), some (.int x1), some (.int x2), none] [] I rr
  have hK : (fun (z : Int32) => (some (.int z), I) = rr) v := hrr
  clear hrr
  unfold fX8_endOf at hf
  refine G.aload_n dX8_endOf_0 rfl rfl ?_
  refine G.getI dX8_endOf_1 flX8_31 (by decide) rfl ?_
  refine G.nmi (fun x3_1 e_x3_1 => ?_)
  have hf := letb_at hf e_x3_1
  clear e_x3_1
  refine G.istore_n (L' := [some (.ref 35), some (.int x1), some (.int x2), some (.int x3_1)]) dX8_endOf_4 rfl (Nat.le_of_ble_eq_true rfl) (Nat.le_of_ble_eq_true rfl) rfl rfl ?_
  exact lX8_endOf_5 E d rr x1 x2 I _ hK FU _ hf
theorem dX8_spells_0 : decode cX8_spells 0 = .ok (.aload_n 0, 1) := by decide +kernel
theorem dX8_spells_1 : decode cX8_spells 1 = .ok (.getfield 19, 3) := by decide +kernel
theorem dX8_spells_4 : decode cX8_spells 4 = .ok (.aload_n 0, 1) := by decide +kernel
theorem dX8_spells_5 : decode cX8_spells 5 = .ok (.getfield 31, 3) := by decide +kernel
theorem dX8_spells_8 : decode cX8_spells 8 = .ok (.isub, 1) := by decide +kernel
theorem dX8_spells_9 : decode cX8_spells 9 = .ok (.aload_n 1, 1) := by decide +kernel
theorem dX8_spells_10 : decode cX8_spells 10 = .ok (.invokevirtual 114, 3) := by decide +kernel
theorem dX8_spells_13 : decode cX8_spells 13 = .ok (.if_icmp .eq 5, 3) := by decide +kernel
theorem dX8_spells_16 : decode cX8_spells 16 = .ok (.iconst 0, 1) := by decide +kernel
theorem dX8_spells_17 : decode cX8_spells 17 = .ok (.ireturn, 1) := by decide +kernel
theorem dX8_spells_18 : decode cX8_spells 18 = .ok (.iconst 0, 1) := by decide +kernel
theorem dX8_spells_19 : decode cX8_spells 19 = .ok (.istore_n 2, 1) := by decide +kernel
theorem dX8_spells_20 : decode cX8_spells 20 = .ok (.iload_n 2, 1) := by decide +kernel
theorem dX8_spells_21 : decode cX8_spells 21 = .ok (.aload_n 1, 1) := by decide +kernel
theorem dX8_spells_22 : decode cX8_spells 22 = .ok (.invokevirtual 114, 3) := by decide +kernel
theorem dX8_spells_25 : decode cX8_spells 25 = .ok (.if_icmp .ge 30, 3) := by decide +kernel
theorem dX8_spells_28 : decode cX8_spells 28 = .ok (.aload_n 0, 1) := by decide +kernel
theorem dX8_spells_29 : decode cX8_spells 29 = .ok (.getfield 9, 3) := by decide +kernel
theorem dX8_spells_32 : decode cX8_spells 32 = .ok (.aload_n 0, 1) := by decide +kernel
theorem dX8_spells_33 : decode cX8_spells 33 = .ok (.getfield 31, 3) := by decide +kernel
theorem dX8_spells_36 : decode cX8_spells 36 = .ok (.iload_n 2, 1) := by decide +kernel
theorem dX8_spells_37 : decode cX8_spells 37 = .ok (.iadd, 1) := by decide +kernel
theorem dX8_spells_38 : decode cX8_spells 38 = .ok (.iaload, 1) := by decide +kernel
theorem dX8_spells_39 : decode cX8_spells 39 = .ok (.aload_n 1, 1) := by decide +kernel
theorem dX8_spells_40 : decode cX8_spells 40 = .ok (.iload_n 2, 1) := by decide +kernel
theorem dX8_spells_41 : decode cX8_spells 41 = .ok (.invokevirtual 118, 3) := by decide +kernel
theorem dX8_spells_44 : decode cX8_spells 44 = .ok (.if_icmp .eq 5, 3) := by decide +kernel
theorem dX8_spells_47 : decode cX8_spells 47 = .ok (.iconst 0, 1) := by decide +kernel
theorem dX8_spells_48 : decode cX8_spells 48 = .ok (.ireturn, 1) := by decide +kernel
theorem dX8_spells_49 : decode cX8_spells 49 = .ok (.iinc 2 1, 3) := by decide +kernel
theorem dX8_spells_52 : decode cX8_spells 52 = .ok (.goto (-32), 3) := by decide +kernel
theorem dX8_spells_55 : decode cX8_spells 55 = .ok (.iconst 1, 1) := by decide +kernel
theorem dX8_spells_56 : decode cX8_spells 56 = .ok (.ireturn, 1) := by decide +kernel
def KX8_spells_20 (E : EV) (d : Nat) (rr : Option Value × Mem) (s1 : Nat) (I : Mem) (Kp : Int32 → Prop) : (Int32 ⊕ Int32) → Prop
  | .inl q => G E (d + 4) kX8_spells 20 [some (.ref 35), some (.ref (1000 + s1)), some (.int q)] [] I rr
  | .inr z => Kp z
def bX8_spells_20 (s1 : Nat) (I : Mem) (x2 : Int32) : Option (Int32 ⊕ Int32) :=
  bnd (fS_length s1 I) fun v_3 =>
  if v_3 ≤ x2 then
  (some (.inr (1 : Int32)))
  else
  (chk (inb ((I 35 3) + x2) 200) <|
  bnd (fS_charAt s1 x2 I) fun v_6 =>
  if (I 36 (ix ((I 35 3) + x2))) = v_6 then
  (some (.inl (x2 + (1 : Int32))))
  else
  (some (.inr (0 : Int32))))
def sX8_spells_20 (s1 : Nat) (I : Mem) (q : Int32) : Option (Int32 ⊕ Int32) := bX8_spells_20 s1 I q
set_option maxRecDepth 20000 in
theorem wX8_spells_20 (E : EV) (d : Nat) (rr : Option Value × Mem) (s1 : Nat) (I : Mem) (x2 : Int32) (hs1 : s1 < 7) (y : (Int32 ⊕ Int32)) (hf : bX8_spells_20 s1 I x2 = some y) (hK : (KX8_spells_20 E d rr s1 I (fun (z : Int32) => (some (.int z), I) = rr)) y) : G E (d + 4) kX8_spells 20 [some (.ref 35), some (.ref (1000 + s1)), some (.int x2)] [] I rr := by
  unfold bX8_spells_20 at hf
  refine G.iload_n dX8_spells_20 rfl rfl ?_
  refine G.aload_n dX8_spells_21 rfl rfl ?_
  obtain ⟨v_3, hc_4, hf⟩ := bnd_at hf
  refine G.callJi (i := s1) (av := []) (rest := [.int x2]) dX8_spells_22 mjX8_114 (gS_length E (d + 2) s1 I hs1 hc_4) hs1 rfl rfl (Nat.le_of_ble_eq_true rfl) ?_
  refine G.icmp_ge (tgt := 55) dX8_spells_25 (by decide) (fun c_9 => ?_) (fun c_9 => ?_)
  · have hf := ite_t hf c_9
    refine G.iconst (v := 1) dX8_spells_55 (by decide) ?_
    cases hf
    exact G.zret' dX8_spells_56 rfl (by decide) hK
  · have hf := ite_f hf c_9
    refine G.aload_n dX8_spells_28 rfl rfl ?_
    refine G.getR (q := 36) dX8_spells_29 flX8_9 (by decide) rfl rfl ?_
    refine G.aload_n dX8_spells_32 rfl rfl ?_
    refine G.getI dX8_spells_33 flX8_31 (by decide) rfl ?_
    refine G.iload_n dX8_spells_36 rfl rfl ?_
    refine G.iadd dX8_spells_37 ?_
    obtain ⟨hi_5, hf⟩ := chk_at hf
    refine G.iald' dX8_spells_38 (by decide) rfl rfl hi_5 ?_
    refine G.aload_n dX8_spells_39 rfl rfl ?_
    refine G.iload_n dX8_spells_40 rfl rfl ?_
    obtain ⟨v_6, hc_7, hf⟩ := bnd_at hf
    refine G.callJi (i := s1) (av := [.int x2]) (rest := [.int (I 36 (ix ((I 35 3) + x2)))]) dX8_spells_41 mjX8_118 (gS_charAt E d s1 x2 I hs1 hc_7) hs1 rfl rfl (Nat.le_of_ble_eq_true rfl) ?_
    refine G.icmp_eq (tgt := 49) dX8_spells_44 (by decide) (fun c_8 => ?_) (fun c_8 => ?_)
    · have hf := ite_t hf c_8
      refine G.inc (w := 1) (L' := [some (.ref 35), some (.ref (1000 + s1)), some (.int (x2 + (1 : Int32)))]) dX8_spells_49 (by decide) rfl (Nat.le_of_ble_eq_true rfl) rfl rfl ?_
      refine G.goto (tgt := 20) dX8_spells_52 (by decide) ?_
      cases hf
      exact hK
    · have hf := ite_f hf c_8
      refine G.iconst (v := 0) dX8_spells_47 (by decide) ?_
      cases hf
      exact G.zret' dX8_spells_48 rfl (by decide) hK
theorem lX8_spells_20 (E : EV) (d : Nat) (rr : Option Value × Mem) (s1 : Nat) (I : Mem) (hs1 : s1 < 7) (z : Int32) (hK : (fun (z : Int32) => (some (.int z), I) = rr) z) : ∀ (n : Nat) (q : Int32), iter (sX8_spells_20 s1 I) n q = some z → G E (d + 4) kX8_spells 20 [some (.ref 35), some (.ref (1000 + s1)), some (.int q)] [] I rr := by
  intro n
  induction n with
  | zero => intro q h; cases h
  | succ n ih =>
    intro q h
    rcases iter_at h with ⟨q2, hs, h2⟩ | hs
    · exact wX8_spells_20 E d rr s1 I q hs1 _ hs (ih q2 h2)
    · exact wX8_spells_20 E d rr s1 I q hs1 _ hs hK
def fX8_spells (s1 : Nat) (I : Mem) : Option Int32 :=
  bnd (fS_length s1 I) fun v_1 =>
  if ((I 35 4) - (I 35 3)) = v_1 then
  (iter (sX8_spells_20 s1 I) FU (0 : Int32))
  else
  (some (0 : Int32))
set_option maxRecDepth 20000 in
theorem gX8_spells (E : EV) (d : Nat) (s1 : Nat) (I : Mem) (hs1 : s1 < 7) {v : Int32} (hf : fX8_spells s1 I = some v) : Gm E (d + 4) kX8_spells [.ref 35, .ref (1000 + s1)] I (some (.int v), I) := by
  refine Gm.of (by decide) rfl (Nat.le_of_ble_eq_true rfl) ?_
  generalize hrr : ((some (.int v), I) : Option Value × Mem) = rr
  show G E (d + 4) kX8_spells 0 [some (.ref 35), some (.ref (1000 + s1)), none] [] I rr
  have hK : (fun (z : Int32) => (some (.int z), I) = rr) v := hrr
  clear hrr
  unfold fX8_spells at hf
  refine G.aload_n dX8_spells_0 rfl rfl ?_
  refine G.getI dX8_spells_1 flX8_19 (by decide) rfl ?_
  refine G.aload_n dX8_spells_4 rfl rfl ?_
  refine G.getI dX8_spells_5 flX8_31 (by decide) rfl ?_
  refine G.isub dX8_spells_8 ?_
  refine G.aload_n dX8_spells_9 rfl rfl ?_
  obtain ⟨v_1, hc_2, hf⟩ := bnd_at hf
  refine G.callJi (i := s1) (av := []) (rest := [.int ((I 35 4) - (I 35 3))]) dX8_spells_10 mjX8_114 (gS_length E (d + 2) s1 I hs1 hc_2) hs1 rfl rfl (Nat.le_of_ble_eq_true rfl) ?_
  refine G.icmp_eq (tgt := 18) dX8_spells_13 (by decide) (fun c_10 => ?_) (fun c_10 => ?_)
  · have hf := ite_t hf c_10
    refine G.iconst (v := 0) dX8_spells_18 (by decide) ?_
    refine G.istore_n (L' := [some (.ref 35), some (.ref (1000 + s1)), some (.int (0 : Int32))]) dX8_spells_19 rfl (Nat.le_of_ble_eq_true rfl) (Nat.le_of_ble_eq_true rfl) rfl rfl ?_
    exact lX8_spells_20 E d rr s1 I hs1 _ hK FU _ hf
  · have hf := ite_f hf c_10
    refine G.iconst (v := 0) dX8_spells_16 (by decide) ?_
    cases hf
    exact G.zret' dX8_spells_17 rfl (by decide) hK
theorem dX8_wordToken_0 : decode cX8_wordToken 0 = .ok (.aload_n 0, 1) := by decide +kernel
theorem dX8_wordToken_1 : decode cX8_wordToken 1 = .ok (.ldc 96, 2) := by decide +kernel
theorem dX8_wordToken_3 : decode cX8_wordToken 3 = .ok (.invokevirtual 98, 3) := by decide +kernel
theorem dX8_wordToken_6 : decode cX8_wordToken 6 = .ok (.ifCond .eq 5, 3) := by decide +kernel
theorem dX8_wordToken_9 : decode cX8_wordToken 9 = .ok (.iconst 4, 1) := by decide +kernel
theorem dX8_wordToken_10 : decode cX8_wordToken 10 = .ok (.ireturn, 1) := by decide +kernel
theorem dX8_wordToken_11 : decode cX8_wordToken 11 = .ok (.aload_n 0, 1) := by decide +kernel
theorem dX8_wordToken_12 : decode cX8_wordToken 12 = .ok (.ldc 102, 2) := by decide +kernel
theorem dX8_wordToken_14 : decode cX8_wordToken 14 = .ok (.invokevirtual 98, 3) := by decide +kernel
theorem dX8_wordToken_17 : decode cX8_wordToken 17 = .ok (.ifCond .eq 5, 3) := by decide +kernel
theorem dX8_wordToken_20 : decode cX8_wordToken 20 = .ok (.iconst 5, 1) := by decide +kernel
theorem dX8_wordToken_21 : decode cX8_wordToken 21 = .ok (.ireturn, 1) := by decide +kernel
theorem dX8_wordToken_22 : decode cX8_wordToken 22 = .ok (.aload_n 0, 1) := by decide +kernel
theorem dX8_wordToken_23 : decode cX8_wordToken 23 = .ok (.ldc 104, 2) := by decide +kernel
theorem dX8_wordToken_25 : decode cX8_wordToken 25 = .ok (.invokevirtual 98, 3) := by decide +kernel
theorem dX8_wordToken_28 : decode cX8_wordToken 28 = .ok (.ifCond .eq 6, 3) := by decide +kernel
theorem dX8_wordToken_31 : decode cX8_wordToken 31 = .ok (.bipush 6, 2) := by decide +kernel
theorem dX8_wordToken_33 : decode cX8_wordToken 33 = .ok (.ireturn, 1) := by decide +kernel
theorem dX8_wordToken_34 : decode cX8_wordToken 34 = .ok (.aload_n 0, 1) := by decide +kernel
theorem dX8_wordToken_35 : decode cX8_wordToken 35 = .ok (.ldc 106, 2) := by decide +kernel
theorem dX8_wordToken_37 : decode cX8_wordToken 37 = .ok (.invokevirtual 98, 3) := by decide +kernel
theorem dX8_wordToken_40 : decode cX8_wordToken 40 = .ok (.ifCond .eq 6, 3) := by decide +kernel
theorem dX8_wordToken_43 : decode cX8_wordToken 43 = .ok (.bipush 7, 2) := by decide +kernel
theorem dX8_wordToken_45 : decode cX8_wordToken 45 = .ok (.ireturn, 1) := by decide +kernel
theorem dX8_wordToken_46 : decode cX8_wordToken 46 = .ok (.aload_n 0, 1) := by decide +kernel
theorem dX8_wordToken_47 : decode cX8_wordToken 47 = .ok (.ldc 108, 2) := by decide +kernel
theorem dX8_wordToken_49 : decode cX8_wordToken 49 = .ok (.invokevirtual 98, 3) := by decide +kernel
theorem dX8_wordToken_52 : decode cX8_wordToken 52 = .ok (.ifCond .eq 6, 3) := by decide +kernel
theorem dX8_wordToken_55 : decode cX8_wordToken 55 = .ok (.bipush 8, 2) := by decide +kernel
theorem dX8_wordToken_57 : decode cX8_wordToken 57 = .ok (.ireturn, 1) := by decide +kernel
theorem dX8_wordToken_58 : decode cX8_wordToken 58 = .ok (.aload_n 0, 1) := by decide +kernel
theorem dX8_wordToken_59 : decode cX8_wordToken 59 = .ok (.ldc 110, 2) := by decide +kernel
theorem dX8_wordToken_61 : decode cX8_wordToken 61 = .ok (.invokevirtual 98, 3) := by decide +kernel
theorem dX8_wordToken_64 : decode cX8_wordToken 64 = .ok (.ifCond .eq 6, 3) := by decide +kernel
theorem dX8_wordToken_67 : decode cX8_wordToken 67 = .ok (.bipush 9, 2) := by decide +kernel
theorem dX8_wordToken_69 : decode cX8_wordToken 69 = .ok (.ireturn, 1) := by decide +kernel
theorem dX8_wordToken_70 : decode cX8_wordToken 70 = .ok (.aload_n 0, 1) := by decide +kernel
theorem dX8_wordToken_71 : decode cX8_wordToken 71 = .ok (.ldc 112, 2) := by decide +kernel
theorem dX8_wordToken_73 : decode cX8_wordToken 73 = .ok (.invokevirtual 98, 3) := by decide +kernel
theorem dX8_wordToken_76 : decode cX8_wordToken 76 = .ok (.ifCond .eq 8, 3) := by decide +kernel
theorem dX8_wordToken_79 : decode cX8_wordToken 79 = .ok (.bipush 10, 2) := by decide +kernel
theorem dX8_wordToken_81 : decode cX8_wordToken 81 = .ok (.goto 4, 3) := by decide +kernel
theorem dX8_wordToken_84 : decode cX8_wordToken 84 = .ok (.iconst 1, 1) := by decide +kernel
theorem dX8_wordToken_85 : decode cX8_wordToken 85 = .ok (.ireturn, 1) := by decide +kernel
def fX8_wordToken (I : Mem) : Option Int32 :=
  bnd (fX8_spells 0 I) fun v_2 =>
  if v_2 = 0 then
  (bnd (fX8_spells 1 I) fun v_4 =>
  if v_4 = 0 then
  (bnd (fX8_spells 2 I) fun v_6 =>
  if v_6 = 0 then
  (bnd (fX8_spells 3 I) fun v_8 =>
  if v_8 = 0 then
  (bnd (fX8_spells 4 I) fun v_10 =>
  if v_10 = 0 then
  (bnd (fX8_spells 5 I) fun v_12 =>
  if v_12 = 0 then
  (bnd (fX8_spells 6 I) fun v_14 =>
  if v_14 = 0 then
  (some (1 : Int32))
  else
  (some (10 : Int32)))
  else
  (some (9 : Int32)))
  else
  (some (8 : Int32)))
  else
  (some (7 : Int32)))
  else
  (some (6 : Int32)))
  else
  (some (5 : Int32)))
  else
  (some (4 : Int32))
set_option maxRecDepth 20000 in
theorem gX8_wordToken (E : EV) (d : Nat) (I : Mem) {v : Int32} (hf : fX8_wordToken I = some v) : Gm E (d + 5) kX8_wordToken [.ref 35] I (some (.int v), I) := by
  refine Gm.of (by decide) rfl (Nat.le_of_ble_eq_true rfl) ?_
  generalize hrr : ((some (.int v), I) : Option Value × Mem) = rr
  show G E (d + 5) kX8_wordToken 0 [some (.ref 35)] [] I rr
  have hK : (fun (z : Int32) => (some (.int z), I) = rr) v := hrr
  clear hrr
  unfold fX8_wordToken at hf
  refine G.aload_n dX8_wordToken_0 rfl rfl ?_
  refine G.ldcS (i := 0) dX8_wordToken_1 (by decide) rfl rfl ?_
  obtain ⟨v_2, hc_1, hf⟩ := bnd_at hf
  refine G.callVi (av := [.ref (1000 + 0)]) (rest := []) dX8_wordToken_3 mvX8_98 (gX8_spells E d 0 I (by decide) hc_1) (by decide) rfl rfl rfl (Nat.le_of_ble_eq_true rfl) ?_
  refine G.if_eq (tgt := 11) dX8_wordToken_6 (by decide) (fun c_21 => ?_) (fun c_21 => ?_)
  · have hf := ite_t hf c_21
    refine G.aload_n dX8_wordToken_11 rfl rfl ?_
    refine G.ldcS (i := 1) dX8_wordToken_12 (by decide) rfl rfl ?_
    obtain ⟨v_4, hc_3, hf⟩ := bnd_at hf
    refine G.callVi (av := [.ref (1000 + 1)]) (rest := []) dX8_wordToken_14 mvX8_98 (gX8_spells E d 1 I (by decide) hc_3) (by decide) rfl rfl rfl (Nat.le_of_ble_eq_true rfl) ?_
    refine G.if_eq (tgt := 22) dX8_wordToken_17 (by decide) (fun c_20 => ?_) (fun c_20 => ?_)
    · have hf := ite_t hf c_20
      refine G.aload_n dX8_wordToken_22 rfl rfl ?_
      refine G.ldcS (i := 2) dX8_wordToken_23 (by decide) rfl rfl ?_
      obtain ⟨v_6, hc_5, hf⟩ := bnd_at hf
      refine G.callVi (av := [.ref (1000 + 2)]) (rest := []) dX8_wordToken_25 mvX8_98 (gX8_spells E d 2 I (by decide) hc_5) (by decide) rfl rfl rfl (Nat.le_of_ble_eq_true rfl) ?_
      refine G.if_eq (tgt := 34) dX8_wordToken_28 (by decide) (fun c_19 => ?_) (fun c_19 => ?_)
      · have hf := ite_t hf c_19
        refine G.aload_n dX8_wordToken_34 rfl rfl ?_
        refine G.ldcS (i := 3) dX8_wordToken_35 (by decide) rfl rfl ?_
        obtain ⟨v_8, hc_7, hf⟩ := bnd_at hf
        refine G.callVi (av := [.ref (1000 + 3)]) (rest := []) dX8_wordToken_37 mvX8_98 (gX8_spells E d 3 I (by decide) hc_7) (by decide) rfl rfl rfl (Nat.le_of_ble_eq_true rfl) ?_
        refine G.if_eq (tgt := 46) dX8_wordToken_40 (by decide) (fun c_18 => ?_) (fun c_18 => ?_)
        · have hf := ite_t hf c_18
          refine G.aload_n dX8_wordToken_46 rfl rfl ?_
          refine G.ldcS (i := 4) dX8_wordToken_47 (by decide) rfl rfl ?_
          obtain ⟨v_10, hc_9, hf⟩ := bnd_at hf
          refine G.callVi (av := [.ref (1000 + 4)]) (rest := []) dX8_wordToken_49 mvX8_98 (gX8_spells E d 4 I (by decide) hc_9) (by decide) rfl rfl rfl (Nat.le_of_ble_eq_true rfl) ?_
          refine G.if_eq (tgt := 58) dX8_wordToken_52 (by decide) (fun c_17 => ?_) (fun c_17 => ?_)
          · have hf := ite_t hf c_17
            refine G.aload_n dX8_wordToken_58 rfl rfl ?_
            refine G.ldcS (i := 5) dX8_wordToken_59 (by decide) rfl rfl ?_
            obtain ⟨v_12, hc_11, hf⟩ := bnd_at hf
            refine G.callVi (av := [.ref (1000 + 5)]) (rest := []) dX8_wordToken_61 mvX8_98 (gX8_spells E d 5 I (by decide) hc_11) (by decide) rfl rfl rfl (Nat.le_of_ble_eq_true rfl) ?_
            refine G.if_eq (tgt := 70) dX8_wordToken_64 (by decide) (fun c_16 => ?_) (fun c_16 => ?_)
            · have hf := ite_t hf c_16
              refine G.aload_n dX8_wordToken_70 rfl rfl ?_
              refine G.ldcS (i := 6) dX8_wordToken_71 (by decide) rfl rfl ?_
              obtain ⟨v_14, hc_13, hf⟩ := bnd_at hf
              refine G.callVi (av := [.ref (1000 + 6)]) (rest := []) dX8_wordToken_73 mvX8_98 (gX8_spells E d 6 I (by decide) hc_13) (by decide) rfl rfl rfl (Nat.le_of_ble_eq_true rfl) ?_
              refine G.if_eq (tgt := 84) dX8_wordToken_76 (by decide) (fun c_15 => ?_) (fun c_15 => ?_)
              · have hf := ite_t hf c_15
                refine G.iconst (v := 1) dX8_wordToken_84 (by decide) ?_
                cases hf
                exact G.iret' dX8_wordToken_85 rfl hK
              · have hf := ite_f hf c_15
                refine G.bipush (v := 10) dX8_wordToken_79 (by decide) ?_
                refine G.goto (tgt := 85) dX8_wordToken_81 (by decide) ?_
                cases hf
                exact G.iret' dX8_wordToken_85 rfl hK
            · have hf := ite_f hf c_16
              refine G.bipush (v := 9) dX8_wordToken_67 (by decide) ?_
              cases hf
              exact G.iret' dX8_wordToken_69 rfl hK
          · have hf := ite_f hf c_17
            refine G.bipush (v := 8) dX8_wordToken_55 (by decide) ?_
            cases hf
            exact G.iret' dX8_wordToken_57 rfl hK
        · have hf := ite_f hf c_18
          refine G.bipush (v := 7) dX8_wordToken_43 (by decide) ?_
          cases hf
          exact G.iret' dX8_wordToken_45 rfl hK
      · have hf := ite_f hf c_19
        refine G.bipush (v := 6) dX8_wordToken_31 (by decide) ?_
        cases hf
        exact G.iret' dX8_wordToken_33 rfl hK
    · have hf := ite_f hf c_20
      refine G.iconst (v := 5) dX8_wordToken_20 (by decide) ?_
      cases hf
      exact G.iret' dX8_wordToken_21 rfl hK
  · have hf := ite_f hf c_21
    refine G.iconst (v := 4) dX8_wordToken_9 (by decide) ?_
    cases hf
    exact G.iret' dX8_wordToken_10 rfl hK
theorem dX8_numberToken_0 : decode cX8_numberToken 0 = .ok (.aload_n 0, 1) := by decide +kernel
theorem dX8_numberToken_1 : decode cX8_numberToken 1 = .ok (.getfield 19, 3) := by decide +kernel
theorem dX8_numberToken_4 : decode cX8_numberToken 4 = .ok (.aload_n 0, 1) := by decide +kernel
theorem dX8_numberToken_5 : decode cX8_numberToken 5 = .ok (.getfield 31, 3) := by decide +kernel
theorem dX8_numberToken_8 : decode cX8_numberToken 8 = .ok (.isub, 1) := by decide +kernel
theorem dX8_numberToken_9 : decode cX8_numberToken 9 = .ok (.iconst 3, 1) := by decide +kernel
theorem dX8_numberToken_10 : decode cX8_numberToken 10 = .ok (.if_icmp .le 5, 3) := by decide +kernel
theorem dX8_numberToken_13 : decode cX8_numberToken 13 = .ok (.iconst 1, 1) := by decide +kernel
theorem dX8_numberToken_14 : decode cX8_numberToken 14 = .ok (.ireturn, 1) := by decide +kernel
theorem dX8_numberToken_15 : decode cX8_numberToken 15 = .ok (.aload_n 0, 1) := by decide +kernel
theorem dX8_numberToken_16 : decode cX8_numberToken 16 = .ok (.iconst 0, 1) := by decide +kernel
theorem dX8_numberToken_17 : decode cX8_numberToken 17 = .ok (.putfield 78, 3) := by decide +kernel
theorem dX8_numberToken_20 : decode cX8_numberToken 20 = .ok (.aload_n 0, 1) := by decide +kernel
theorem dX8_numberToken_21 : decode cX8_numberToken 21 = .ok (.getfield 31, 3) := by decide +kernel
theorem dX8_numberToken_24 : decode cX8_numberToken 24 = .ok (.istore_n 1, 1) := by decide +kernel
theorem dX8_numberToken_25 : decode cX8_numberToken 25 = .ok (.iload_n 1, 1) := by decide +kernel
theorem dX8_numberToken_26 : decode cX8_numberToken 26 = .ok (.aload_n 0, 1) := by decide +kernel
theorem dX8_numberToken_27 : decode cX8_numberToken 27 = .ok (.getfield 19, 3) := by decide +kernel
theorem dX8_numberToken_30 : decode cX8_numberToken 30 = .ok (.if_icmp .ge 30, 3) := by decide +kernel
theorem dX8_numberToken_33 : decode cX8_numberToken 33 = .ok (.aload_n 0, 1) := by decide +kernel
theorem dX8_numberToken_34 : decode cX8_numberToken 34 = .ok (.bipush 10, 2) := by decide +kernel
theorem dX8_numberToken_36 : decode cX8_numberToken 36 = .ok (.aload_n 0, 1) := by decide +kernel
theorem dX8_numberToken_37 : decode cX8_numberToken 37 = .ok (.getfield 78, 3) := by decide +kernel
theorem dX8_numberToken_40 : decode cX8_numberToken 40 = .ok (.imul, 1) := by decide +kernel
theorem dX8_numberToken_41 : decode cX8_numberToken 41 = .ok (.aload_n 0, 1) := by decide +kernel
theorem dX8_numberToken_42 : decode cX8_numberToken 42 = .ok (.getfield 9, 3) := by decide +kernel
theorem dX8_numberToken_45 : decode cX8_numberToken 45 = .ok (.iload_n 1, 1) := by decide +kernel
theorem dX8_numberToken_46 : decode cX8_numberToken 46 = .ok (.iaload, 1) := by decide +kernel
theorem dX8_numberToken_47 : decode cX8_numberToken 47 = .ok (.iadd, 1) := by decide +kernel
theorem dX8_numberToken_48 : decode cX8_numberToken 48 = .ok (.bipush 48, 2) := by decide +kernel
theorem dX8_numberToken_50 : decode cX8_numberToken 50 = .ok (.isub, 1) := by decide +kernel
theorem dX8_numberToken_51 : decode cX8_numberToken 51 = .ok (.putfield 78, 3) := by decide +kernel
theorem dX8_numberToken_54 : decode cX8_numberToken 54 = .ok (.iinc 1 1, 3) := by decide +kernel
theorem dX8_numberToken_57 : decode cX8_numberToken 57 = .ok (.goto (-32), 3) := by decide +kernel
theorem dX8_numberToken_60 : decode cX8_numberToken 60 = .ok (.iconst 2, 1) := by decide +kernel
theorem dX8_numberToken_61 : decode cX8_numberToken 61 = .ok (.ireturn, 1) := by decide +kernel
def KX8_numberToken_25 (E : EV) (d : Nat) (rr : Option Value × Mem) (Kp : (Int32 × Mem) → Prop) : ((Int32 × Mem) ⊕ (Int32 × Mem)) → Prop
  | .inl q => G E (d + 0) kX8_numberToken 25 [some (.ref 35), some (.int q.1)] [] q.2 rr
  | .inr z => Kp z
def bX8_numberToken_25 (x1 : Int32) (I : Mem) : Option ((Int32 × Mem) ⊕ (Int32 × Mem)) :=
  if (I 35 4) ≤ x1 then
  (some (.inr ((2 : Int32), I)))
  else
  (chk (inb x1 200) <|
  letb (up2 I 35 5 ((((10 : Int32) * (I 35 5)) + (I 36 (ix x1))) - (48 : Int32))) fun I_4 =>
  some (.inl ((x1 + (1 : Int32)), I_4)))
def sX8_numberToken_25 (q : (Int32 × Mem)) : Option ((Int32 × Mem) ⊕ (Int32 × Mem)) := bX8_numberToken_25 q.1 q.2
set_option maxRecDepth 20000 in
theorem wX8_numberToken_25 (E : EV) (d : Nat) (rr : Option Value × Mem) (x1 : Int32) (I : Mem) (y : ((Int32 × Mem) ⊕ (Int32 × Mem))) (hf : bX8_numberToken_25 x1 I = some y) (hK : (KX8_numberToken_25 E d rr  (fun (z : Int32 × Mem) => (some (.int z.1), z.2) = rr)) y) : G E (d + 0) kX8_numberToken 25 [some (.ref 35), some (.int x1)] [] I rr := by
  unfold bX8_numberToken_25 at hf
  refine G.iload_n dX8_numberToken_25 rfl rfl ?_
  refine G.aload_n dX8_numberToken_26 rfl rfl ?_
  refine G.getI dX8_numberToken_27 flX8_19 (by decide) rfl ?_
  refine G.icmp_ge (tgt := 60) dX8_numberToken_30 (by decide) (fun c_5 => ?_) (fun c_5 => ?_)
  · have hf := ite_t hf c_5
    refine G.iconst (v := 2) dX8_numberToken_60 (by decide) ?_
    cases hf
    exact G.iret' dX8_numberToken_61 rfl hK
  · have hf := ite_f hf c_5
    refine G.aload_n dX8_numberToken_33 rfl rfl ?_
    refine G.bipush (v := 10) dX8_numberToken_34 (by decide) ?_
    refine G.aload_n dX8_numberToken_36 rfl rfl ?_
    refine G.getI dX8_numberToken_37 flX8_78 (by decide) rfl ?_
    refine G.imul dX8_numberToken_40 ?_
    refine G.aload_n dX8_numberToken_41 rfl rfl ?_
    refine G.getR (q := 36) dX8_numberToken_42 flX8_9 (by decide) rfl rfl ?_
    refine G.iload_n dX8_numberToken_45 rfl rfl ?_
    obtain ⟨hi_3, hf⟩ := chk_at hf
    refine G.iald' dX8_numberToken_46 (by decide) rfl rfl hi_3 ?_
    refine G.iadd dX8_numberToken_47 ?_
    refine G.bipush (v := 48) dX8_numberToken_48 (by decide) ?_
    refine G.isub dX8_numberToken_50 ?_
    refine G.putI dX8_numberToken_51 flX8_78 (by decide) rfl ?_
    refine G.nmI (fun I_4 e_I_4 => ?_)
    have hf := letb_at hf e_I_4
    clear e_I_4
    refine G.inc (w := 1) (L' := [some (.ref 35), some (.int (x1 + (1 : Int32)))]) dX8_numberToken_54 (by decide) rfl (Nat.le_of_ble_eq_true rfl) rfl rfl ?_
    refine G.goto (tgt := 25) dX8_numberToken_57 (by decide) ?_
    cases hf
    exact hK
theorem lX8_numberToken_25 (E : EV) (d : Nat) (rr : Option Value × Mem) (z : (Int32 × Mem)) (hK : (fun (z : Int32 × Mem) => (some (.int z.1), z.2) = rr) z) : ∀ (n : Nat) (q : (Int32 × Mem)), iter (sX8_numberToken_25) n q = some z → G E (d + 0) kX8_numberToken 25 [some (.ref 35), some (.int q.1)] [] q.2 rr := by
  intro n
  induction n with
  | zero => intro q h; cases h
  | succ n ih =>
    intro q h
    rcases iter_at h with ⟨q2, hs, h2⟩ | hs
    · exact wX8_numberToken_25 E d rr q.1 q.2 _ hs (ih q2 h2)
    · exact wX8_numberToken_25 E d rr q.1 q.2 _ hs hK
def fX8_numberToken (I : Mem) : Option (Int32 × Mem) :=
  if ((I 35 4) - (I 35 3)) ≤ (3 : Int32) then
  (letb (up2 I 35 5 (0 : Int32)) fun I_1 =>
  letb (I_1 35 3) fun x1_2 =>
  iter (sX8_numberToken_25) FU (x1_2, I_1))
  else
  (some ((1 : Int32), I))
set_option maxRecDepth 20000 in
theorem gX8_numberToken (E : EV) (d : Nat) (I : Mem) {v : Int32} {J : Mem} (hf : fX8_numberToken I = some (v, J)) : Gm E (d + 0) kX8_numberToken [.ref 35] I (some (.int v), J) := by
  refine Gm.of (by decide) rfl (Nat.le_of_ble_eq_true rfl) ?_
  generalize hrr : ((some (.int v), J) : Option Value × Mem) = rr
  show G E (d + 0) kX8_numberToken 0 [some (.ref 35), none] [] I rr
  have hK : (fun (z : Int32 × Mem) => (some (.int z.1), z.2) = rr) (v, J) := hrr
  clear hrr
  unfold fX8_numberToken at hf
  refine G.aload_n dX8_numberToken_0 rfl rfl ?_
  refine G.getI dX8_numberToken_1 flX8_19 (by decide) rfl ?_
  refine G.aload_n dX8_numberToken_4 rfl rfl ?_
  refine G.getI dX8_numberToken_5 flX8_31 (by decide) rfl ?_
  refine G.isub dX8_numberToken_8 ?_
  refine G.iconst (v := 3) dX8_numberToken_9 (by decide) ?_
  refine G.icmp_le (tgt := 15) dX8_numberToken_10 (by decide) (fun c_6 => ?_) (fun c_6 => ?_)
  · have hf := ite_t hf c_6
    refine G.aload_n dX8_numberToken_15 rfl rfl ?_
    refine G.iconst (v := 0) dX8_numberToken_16 (by decide) ?_
    refine G.putI dX8_numberToken_17 flX8_78 (by decide) rfl ?_
    refine G.nmI (fun I_1 e_I_1 => ?_)
    have hf := letb_at hf e_I_1
    clear e_I_1
    refine G.aload_n dX8_numberToken_20 rfl rfl ?_
    refine G.getI dX8_numberToken_21 flX8_31 (by decide) rfl ?_
    refine G.nmi (fun x1_2 e_x1_2 => ?_)
    have hf := letb_at hf e_x1_2
    clear e_x1_2
    refine G.istore_n (L' := [some (.ref 35), some (.int x1_2)]) dX8_numberToken_24 rfl (Nat.le_of_ble_eq_true rfl) (Nat.le_of_ble_eq_true rfl) rfl rfl ?_
    exact lX8_numberToken_25 E d rr _ hK FU _ hf
  · have hf := ite_f hf c_6
    refine G.iconst (v := 1) dX8_numberToken_13 (by decide) ?_
    cases hf
    exact G.iret' dX8_numberToken_14 rfl hK
theorem dX8_advance_0 : decode cX8_advance 0 = .ok (.aload_n 0, 1) := by decide +kernel
theorem dX8_advance_1 : decode cX8_advance 1 = .ok (.getfield 19, 3) := by decide +kernel
theorem dX8_advance_4 : decode cX8_advance 4 = .ok (.aload_n 0, 1) := by decide +kernel
theorem dX8_advance_5 : decode cX8_advance 5 = .ok (.getfield 15, 3) := by decide +kernel
theorem dX8_advance_8 : decode cX8_advance 8 = .ok (.if_icmp .ge 30, 3) := by decide +kernel
theorem dX8_advance_11 : decode cX8_advance 11 = .ok (.aload_n 0, 1) := by decide +kernel
theorem dX8_advance_12 : decode cX8_advance 12 = .ok (.getfield 9, 3) := by decide +kernel
theorem dX8_advance_15 : decode cX8_advance 15 = .ok (.aload_n 0, 1) := by decide +kernel
theorem dX8_advance_16 : decode cX8_advance 16 = .ok (.getfield 19, 3) := by decide +kernel
theorem dX8_advance_19 : decode cX8_advance 19 = .ok (.iaload, 1) := by decide +kernel
theorem dX8_advance_20 : decode cX8_advance 20 = .ok (.bipush 32, 2) := by decide +kernel
theorem dX8_advance_22 : decode cX8_advance 22 = .ok (.if_icmp .ne 16, 3) := by decide +kernel
theorem dX8_advance_25 : decode cX8_advance 25 = .ok (.aload_n 0, 1) := by decide +kernel
theorem dX8_advance_26 : decode cX8_advance 26 = .ok (.dup, 1) := by decide +kernel
theorem dX8_advance_27 : decode cX8_advance 27 = .ok (.getfield 19, 3) := by decide +kernel
theorem dX8_advance_30 : decode cX8_advance 30 = .ok (.iconst 1, 1) := by decide +kernel
theorem dX8_advance_31 : decode cX8_advance 31 = .ok (.iadd, 1) := by decide +kernel
theorem dX8_advance_32 : decode cX8_advance 32 = .ok (.putfield 19, 3) := by decide +kernel
theorem dX8_advance_35 : decode cX8_advance 35 = .ok (.goto (-35), 3) := by decide +kernel
theorem dX8_advance_38 : decode cX8_advance 38 = .ok (.aload_n 0, 1) := by decide +kernel
theorem dX8_advance_39 : decode cX8_advance 39 = .ok (.aload_n 0, 1) := by decide +kernel
theorem dX8_advance_40 : decode cX8_advance 40 = .ok (.getfield 19, 3) := by decide +kernel
theorem dX8_advance_43 : decode cX8_advance 43 = .ok (.putfield 31, 3) := by decide +kernel
theorem dX8_advance_46 : decode cX8_advance 46 = .ok (.aload_n 0, 1) := by decide +kernel
theorem dX8_advance_47 : decode cX8_advance 47 = .ok (.getfield 19, 3) := by decide +kernel
theorem dX8_advance_50 : decode cX8_advance 50 = .ok (.aload_n 0, 1) := by decide +kernel
theorem dX8_advance_51 : decode cX8_advance 51 = .ok (.getfield 15, 3) := by decide +kernel
theorem dX8_advance_54 : decode cX8_advance 54 = .ok (.if_icmp .lt 11, 3) := by decide +kernel
theorem dX8_advance_57 : decode cX8_advance 57 = .ok (.aload_n 0, 1) := by decide +kernel
theorem dX8_advance_58 : decode cX8_advance 58 = .ok (.iconst 0, 1) := by decide +kernel
theorem dX8_advance_59 : decode cX8_advance 59 = .ok (.putfield 28, 3) := by decide +kernel
theorem dX8_advance_62 : decode cX8_advance 62 = .ok (.goto 112, 3) := by decide +kernel
theorem dX8_advance_65 : decode cX8_advance 65 = .ok (.aload_n 0, 1) := by decide +kernel
theorem dX8_advance_66 : decode cX8_advance 66 = .ok (.aload_n 0, 1) := by decide +kernel
theorem dX8_advance_67 : decode cX8_advance 67 = .ok (.getfield 19, 3) := by decide +kernel
theorem dX8_advance_70 : decode cX8_advance 70 = .ok (.bipush 97, 2) := by decide +kernel
theorem dX8_advance_72 : decode cX8_advance 72 = .ok (.bipush 122, 2) := by decide +kernel
theorem dX8_advance_74 : decode cX8_advance 74 = .ok (.invokevirtual 81, 3) := by decide +kernel
theorem dX8_advance_77 : decode cX8_advance 77 = .ok (.ifCond .eq 26, 3) := by decide +kernel
theorem dX8_advance_80 : decode cX8_advance 80 = .ok (.aload_n 0, 1) := by decide +kernel
theorem dX8_advance_81 : decode cX8_advance 81 = .ok (.aload_n 0, 1) := by decide +kernel
theorem dX8_advance_82 : decode cX8_advance 82 = .ok (.bipush 97, 2) := by decide +kernel
theorem dX8_advance_84 : decode cX8_advance 84 = .ok (.bipush 122, 2) := by decide +kernel
theorem dX8_advance_86 : decode cX8_advance 86 = .ok (.invokevirtual 85, 3) := by decide +kernel
theorem dX8_advance_89 : decode cX8_advance 89 = .ok (.putfield 19, 3) := by decide +kernel
theorem dX8_advance_92 : decode cX8_advance 92 = .ok (.aload_n 0, 1) := by decide +kernel
theorem dX8_advance_93 : decode cX8_advance 93 = .ok (.aload_n 0, 1) := by decide +kernel
theorem dX8_advance_94 : decode cX8_advance 94 = .ok (.invokevirtual 89, 3) := by decide +kernel
theorem dX8_advance_97 : decode cX8_advance 97 = .ok (.putfield 28, 3) := by decide +kernel
theorem dX8_advance_100 : decode cX8_advance 100 = .ok (.goto 74, 3) := by decide +kernel
theorem dX8_advance_103 : decode cX8_advance 103 = .ok (.aload_n 0, 1) := by decide +kernel
theorem dX8_advance_104 : decode cX8_advance 104 = .ok (.aload_n 0, 1) := by decide +kernel
theorem dX8_advance_105 : decode cX8_advance 105 = .ok (.getfield 19, 3) := by decide +kernel
theorem dX8_advance_108 : decode cX8_advance 108 = .ok (.bipush 48, 2) := by decide +kernel
theorem dX8_advance_110 : decode cX8_advance 110 = .ok (.bipush 57, 2) := by decide +kernel
theorem dX8_advance_112 : decode cX8_advance 112 = .ok (.invokevirtual 81, 3) := by decide +kernel
theorem dX8_advance_115 : decode cX8_advance 115 = .ok (.ifCond .eq 26, 3) := by decide +kernel
theorem dX8_advance_118 : decode cX8_advance 118 = .ok (.aload_n 0, 1) := by decide +kernel
theorem dX8_advance_119 : decode cX8_advance 119 = .ok (.aload_n 0, 1) := by decide +kernel
theorem dX8_advance_120 : decode cX8_advance 120 = .ok (.bipush 48, 2) := by decide +kernel
theorem dX8_advance_122 : decode cX8_advance 122 = .ok (.bipush 57, 2) := by decide +kernel
theorem dX8_advance_124 : decode cX8_advance 124 = .ok (.invokevirtual 85, 3) := by decide +kernel
theorem dX8_advance_127 : decode cX8_advance 127 = .ok (.putfield 19, 3) := by decide +kernel
theorem dX8_advance_130 : decode cX8_advance 130 = .ok (.aload_n 0, 1) := by decide +kernel
theorem dX8_advance_131 : decode cX8_advance 131 = .ok (.aload_n 0, 1) := by decide +kernel
theorem dX8_advance_132 : decode cX8_advance 132 = .ok (.invokevirtual 93, 3) := by decide +kernel
theorem dX8_advance_135 : decode cX8_advance 135 = .ok (.putfield 28, 3) := by decide +kernel
theorem dX8_advance_138 : decode cX8_advance 138 = .ok (.goto 36, 3) := by decide +kernel
theorem dX8_advance_141 : decode cX8_advance 141 = .ok (.aload_n 0, 1) := by decide +kernel
theorem dX8_advance_142 : decode cX8_advance 142 = .ok (.aload_n 0, 1) := by decide +kernel
theorem dX8_advance_143 : decode cX8_advance 143 = .ok (.getfield 9, 3) := by decide +kernel
theorem dX8_advance_146 : decode cX8_advance 146 = .ok (.aload_n 0, 1) := by decide +kernel
theorem dX8_advance_147 : decode cX8_advance 147 = .ok (.getfield 19, 3) := by decide +kernel
theorem dX8_advance_150 : decode cX8_advance 150 = .ok (.iaload, 1) := by decide +kernel
theorem dX8_advance_151 : decode cX8_advance 151 = .ok (.bipush 59, 2) := by decide +kernel
theorem dX8_advance_153 : decode cX8_advance 153 = .ok (.if_icmp .ne 7, 3) := by decide +kernel
theorem dX8_advance_156 : decode cX8_advance 156 = .ok (.iconst 3, 1) := by decide +kernel
theorem dX8_advance_157 : decode cX8_advance 157 = .ok (.goto 4, 3) := by decide +kernel
theorem dX8_advance_160 : decode cX8_advance 160 = .ok (.iconst 1, 1) := by decide +kernel
theorem dX8_advance_161 : decode cX8_advance 161 = .ok (.putfield 28, 3) := by decide +kernel
theorem dX8_advance_164 : decode cX8_advance 164 = .ok (.aload_n 0, 1) := by decide +kernel
theorem dX8_advance_165 : decode cX8_advance 165 = .ok (.dup, 1) := by decide +kernel
theorem dX8_advance_166 : decode cX8_advance 166 = .ok (.getfield 19, 3) := by decide +kernel
theorem dX8_advance_169 : decode cX8_advance 169 = .ok (.iconst 1, 1) := by decide +kernel
theorem dX8_advance_170 : decode cX8_advance 170 = .ok (.iadd, 1) := by decide +kernel
theorem dX8_advance_171 : decode cX8_advance 171 = .ok (.putfield 19, 3) := by decide +kernel
theorem dX8_advance_174 : decode cX8_advance 174 = .ok (.return_, 1) := by decide +kernel
def KX8_advance_0 (E : EV) (d : Nat) (rr : Option Value × Mem) (Kp : Mem → Prop) : (Mem ⊕ Mem) → Prop
  | .inl q => G E (d + 6) kX8_advance 0 [some (.ref 35)] [] q rr
  | .inr z => Kp z
def jX8_advance_161 (u0 : Int32) (I : Mem) : Option Mem :=
  letb (up2 I 35 2 u0) fun I_7 =>
  letb (up2 I_7 35 4 ((I_7 35 4) + (1 : Int32))) fun I_8 =>
  some I_8
set_option maxRecDepth 20000 in
theorem tX8_advance_161 (E : EV) (d : Nat) (rr : Option Value × Mem) (u0 : Int32) (I : Mem) (y : Mem) (hf : jX8_advance_161 u0 I = some y) (hK : (fun (z : Mem) => ((none : Option Value), z) = rr) y) : G E (d + 6) kX8_advance 161 [some (.ref 35)] [.int u0, .ref 35] I rr := by
  unfold jX8_advance_161 at hf
  refine G.putI dX8_advance_161 flX8_28 (by decide) rfl ?_
  refine G.nmI (fun I_7 e_I_7 => ?_)
  have hf := letb_at hf e_I_7
  clear e_I_7
  refine G.aload_n dX8_advance_164 rfl rfl ?_
  refine G.dup dX8_advance_165 rfl ?_
  refine G.getI dX8_advance_166 flX8_19 (by decide) rfl ?_
  refine G.iconst (v := 1) dX8_advance_169 (by decide) ?_
  refine G.iadd dX8_advance_170 ?_
  refine G.putI dX8_advance_171 flX8_19 (by decide) rfl ?_
  refine G.nmI (fun I_8 e_I_8 => ?_)
  have hf := letb_at hf e_I_8
  clear e_I_8
  cases hf
  exact G.vret' dX8_advance_174 rfl hK
def jX8_advance_38 (I : Mem) : Option Mem :=
  letb (up2 I 35 3 (I 35 4)) fun I_1 =>
  if (I_1 35 4) < (I_1 35 0) then
  (bnd (fX8_isWithin (I_1 35 4) (97 : Int32) (122 : Int32) I_1) fun v_3 =>
  if v_3 = 0 then
  (bnd (fX8_isWithin (I_1 35 4) (48 : Int32) (57 : Int32) I_1) fun v_5 =>
  if v_5 = 0 then
  (chk (inb (I_1 35 4) 200) <|
  if (I_1 36 (ix (I_1 35 4))) = (59 : Int32) then
  (jX8_advance_161 (3 : Int32) I_1)
  else
  (jX8_advance_161 (1 : Int32) I_1))
  else
  (bnd (fX8_endOf (48 : Int32) (57 : Int32) I_1) fun v_11 =>
  letb (up2 I_1 35 4 v_11) fun I_12 =>
  bnd2 (fX8_numberToken I_12) fun v_14 I_15 =>
  letb (up2 I_15 35 2 v_14) fun I_16 =>
  some I_16))
  else
  (bnd (fX8_endOf (97 : Int32) (122 : Int32) I_1) fun v_19 =>
  letb (up2 I_1 35 4 v_19) fun I_20 =>
  bnd (fX8_wordToken I_20) fun v_22 =>
  letb (up2 I_20 35 2 v_22) fun I_23 =>
  some I_23))
  else
  (letb (up2 I_1 35 2 (0 : Int32)) fun I_25 =>
  some I_25)
set_option maxRecDepth 20000 in
theorem tX8_advance_38 (E : EV) (d : Nat) (rr : Option Value × Mem) (I : Mem) (y : Mem) (hf : jX8_advance_38 I = some y) (hK : (fun (z : Mem) => ((none : Option Value), z) = rr) y) : G E (d + 6) kX8_advance 38 [some (.ref 35)] [] I rr := by
  unfold jX8_advance_38 at hf
  refine G.aload_n dX8_advance_38 rfl rfl ?_
  refine G.aload_n dX8_advance_39 rfl rfl ?_
  refine G.getI dX8_advance_40 flX8_19 (by decide) rfl ?_
  refine G.putI dX8_advance_43 flX8_31 (by decide) rfl ?_
  refine G.nmI (fun I_1 e_I_1 => ?_)
  have hf := letb_at hf e_I_1
  clear e_I_1
  refine G.aload_n dX8_advance_46 rfl rfl ?_
  refine G.getI dX8_advance_47 flX8_19 (by decide) rfl ?_
  refine G.aload_n dX8_advance_50 rfl rfl ?_
  refine G.getI dX8_advance_51 flX8_15 (by decide) rfl ?_
  refine G.icmp_lt (tgt := 65) dX8_advance_54 (by decide) (fun c_26 => ?_) (fun c_26 => ?_)
  · have hf := ite_t hf c_26
    refine G.aload_n dX8_advance_65 rfl rfl ?_
    refine G.aload_n dX8_advance_66 rfl rfl ?_
    refine G.getI dX8_advance_67 flX8_19 (by decide) rfl ?_
    refine G.bipush (v := 97) dX8_advance_70 (by decide) ?_
    refine G.bipush (v := 122) dX8_advance_72 (by decide) ?_
    obtain ⟨v_3, hc_2, hf⟩ := bnd_at hf
    refine G.callVi (av := [.int (I_1 35 4), .int (97 : Int32), .int (122 : Int32)]) (rest := []) dX8_advance_74 mvX8_81 (gX8_isWithin E (d + 5) (I_1 35 4) (97 : Int32) (122 : Int32) I_1 hc_2) (by decide) rfl rfl rfl (Nat.le_of_ble_eq_true rfl) ?_
    refine G.if_eq (tgt := 103) dX8_advance_77 (by decide) (fun c_24 => ?_) (fun c_24 => ?_)
    · have hf := ite_t hf c_24
      refine G.aload_n dX8_advance_103 rfl rfl ?_
      refine G.aload_n dX8_advance_104 rfl rfl ?_
      refine G.getI dX8_advance_105 flX8_19 (by decide) rfl ?_
      refine G.bipush (v := 48) dX8_advance_108 (by decide) ?_
      refine G.bipush (v := 57) dX8_advance_110 (by decide) ?_
      obtain ⟨v_5, hc_4, hf⟩ := bnd_at hf
      refine G.callVi (av := [.int (I_1 35 4), .int (48 : Int32), .int (57 : Int32)]) (rest := []) dX8_advance_112 mvX8_81 (gX8_isWithin E (d + 5) (I_1 35 4) (48 : Int32) (57 : Int32) I_1 hc_4) (by decide) rfl rfl rfl (Nat.le_of_ble_eq_true rfl) ?_
      refine G.if_eq (tgt := 141) dX8_advance_115 (by decide) (fun c_17 => ?_) (fun c_17 => ?_)
      · have hf := ite_t hf c_17
        refine G.aload_n dX8_advance_141 rfl rfl ?_
        refine G.aload_n dX8_advance_142 rfl rfl ?_
        refine G.getR (q := 36) dX8_advance_143 flX8_9 (by decide) rfl rfl ?_
        refine G.aload_n dX8_advance_146 rfl rfl ?_
        refine G.getI dX8_advance_147 flX8_19 (by decide) rfl ?_
        obtain ⟨hi_6, hf⟩ := chk_at hf
        refine G.iald' dX8_advance_150 (by decide) rfl rfl hi_6 ?_
        refine G.bipush (v := 59) dX8_advance_151 (by decide) ?_
        refine G.icmp_ne (tgt := 160) dX8_advance_153 (by decide) (fun c_9 => ?_) (fun c_9 => ?_)
        · have hf := ite_f hf c_9
          refine G.iconst (v := 1) dX8_advance_160 (by decide) ?_
          exact tX8_advance_161 E d rr (1 : Int32) I_1 _ hf hK
        · have hf := ite_t hf c_9
          refine G.iconst (v := 3) dX8_advance_156 (by decide) ?_
          refine G.goto (tgt := 161) dX8_advance_157 (by decide) ?_
          exact tX8_advance_161 E d rr (3 : Int32) I_1 _ hf hK
      · have hf := ite_f hf c_17
        refine G.aload_n dX8_advance_118 rfl rfl ?_
        refine G.aload_n dX8_advance_119 rfl rfl ?_
        refine G.bipush (v := 48) dX8_advance_120 (by decide) ?_
        refine G.bipush (v := 57) dX8_advance_122 (by decide) ?_
        obtain ⟨v_11, hc_10, hf⟩ := bnd_at hf
        refine G.callVi (av := [.int (48 : Int32), .int (57 : Int32)]) (rest := [.ref 35]) dX8_advance_124 mvX8_85 (gX8_endOf E (d + 4) (48 : Int32) (57 : Int32) I_1 hc_10) (by decide) rfl rfl rfl (Nat.le_of_ble_eq_true rfl) ?_
        refine G.putI dX8_advance_127 flX8_19 (by decide) rfl ?_
        refine G.nmI (fun I_12 e_I_12 => ?_)
        have hf := letb_at hf e_I_12
        clear e_I_12
        refine G.aload_n dX8_advance_130 rfl rfl ?_
        refine G.aload_n dX8_advance_131 rfl rfl ?_
        obtain ⟨v_14, I_15, hc_13, hf⟩ := bnd2_at hf
        refine G.callVi (av := []) (rest := [.ref 35]) dX8_advance_132 mvX8_93 (gX8_numberToken E (d + 5) I_12 hc_13) (by decide) rfl rfl rfl (Nat.le_of_ble_eq_true rfl) ?_
        refine G.putI dX8_advance_135 flX8_28 (by decide) rfl ?_
        refine G.nmI (fun I_16 e_I_16 => ?_)
        have hf := letb_at hf e_I_16
        clear e_I_16
        refine G.goto (tgt := 174) dX8_advance_138 (by decide) ?_
        cases hf
        exact G.vret' dX8_advance_174 rfl hK
    · have hf := ite_f hf c_24
      refine G.aload_n dX8_advance_80 rfl rfl ?_
      refine G.aload_n dX8_advance_81 rfl rfl ?_
      refine G.bipush (v := 97) dX8_advance_82 (by decide) ?_
      refine G.bipush (v := 122) dX8_advance_84 (by decide) ?_
      obtain ⟨v_19, hc_18, hf⟩ := bnd_at hf
      refine G.callVi (av := [.int (97 : Int32), .int (122 : Int32)]) (rest := [.ref 35]) dX8_advance_86 mvX8_85 (gX8_endOf E (d + 4) (97 : Int32) (122 : Int32) I_1 hc_18) (by decide) rfl rfl rfl (Nat.le_of_ble_eq_true rfl) ?_
      refine G.putI dX8_advance_89 flX8_19 (by decide) rfl ?_
      refine G.nmI (fun I_20 e_I_20 => ?_)
      have hf := letb_at hf e_I_20
      clear e_I_20
      refine G.aload_n dX8_advance_92 rfl rfl ?_
      refine G.aload_n dX8_advance_93 rfl rfl ?_
      obtain ⟨v_22, hc_21, hf⟩ := bnd_at hf
      refine G.callVi (av := []) (rest := [.ref 35]) dX8_advance_94 mvX8_89 (gX8_wordToken E d I_20 hc_21) (by decide) rfl rfl rfl (Nat.le_of_ble_eq_true rfl) ?_
      refine G.putI dX8_advance_97 flX8_28 (by decide) rfl ?_
      refine G.nmI (fun I_23 e_I_23 => ?_)
      have hf := letb_at hf e_I_23
      clear e_I_23
      refine G.goto (tgt := 174) dX8_advance_100 (by decide) ?_
      cases hf
      exact G.vret' dX8_advance_174 rfl hK
  · have hf := ite_f hf c_26
    refine G.aload_n dX8_advance_57 rfl rfl ?_
    refine G.iconst (v := 0) dX8_advance_58 (by decide) ?_
    refine G.putI dX8_advance_59 flX8_28 (by decide) rfl ?_
    refine G.nmI (fun I_25 e_I_25 => ?_)
    have hf := letb_at hf e_I_25
    clear e_I_25
    refine G.goto (tgt := 174) dX8_advance_62 (by decide) ?_
    cases hf
    exact G.vret' dX8_advance_174 rfl hK
def bX8_advance_0 (I : Mem) : Option (Mem ⊕ Mem) :=
  if (I 35 0) ≤ (I 35 4) then
  (inrO (jX8_advance_38 I))
  else
  (chk (inb (I 35 4) 200) <|
  if (I 36 (ix (I 35 4))) = (32 : Int32) then
  (letb (up2 I 35 4 ((I 35 4) + (1 : Int32))) fun I_30 =>
  some (.inl I_30))
  else
  (inrO (jX8_advance_38 I)))
def sX8_advance_0 (q : Mem) : Option (Mem ⊕ Mem) := bX8_advance_0 q
set_option maxRecDepth 20000 in
theorem wX8_advance_0 (E : EV) (d : Nat) (rr : Option Value × Mem) (I : Mem) (y : (Mem ⊕ Mem)) (hf : bX8_advance_0 I = some y) (hK : (KX8_advance_0 E d rr  (fun (z : Mem) => ((none : Option Value), z) = rr)) y) : G E (d + 6) kX8_advance 0 [some (.ref 35)] [] I rr := by
  unfold bX8_advance_0 at hf
  refine G.aload_n dX8_advance_0 rfl rfl ?_
  refine G.getI dX8_advance_1 flX8_19 (by decide) rfl ?_
  refine G.aload_n dX8_advance_4 rfl rfl ?_
  refine G.getI dX8_advance_5 flX8_15 (by decide) rfl ?_
  refine G.icmp_ge (tgt := 38) dX8_advance_8 (by decide) (fun c_32 => ?_) (fun c_32 => ?_)
  · have hf := ite_t hf c_32
    obtain ⟨z_27, hz_27, rfl⟩ := inrO_at hf
    have hf := hz_27
    exact tX8_advance_38 E d rr I _ hf hK
  · have hf := ite_f hf c_32
    refine G.aload_n dX8_advance_11 rfl rfl ?_
    refine G.getR (q := 36) dX8_advance_12 flX8_9 (by decide) rfl rfl ?_
    refine G.aload_n dX8_advance_15 rfl rfl ?_
    refine G.getI dX8_advance_16 flX8_19 (by decide) rfl ?_
    obtain ⟨hi_28, hf⟩ := chk_at hf
    refine G.iald' dX8_advance_19 (by decide) rfl rfl hi_28 ?_
    refine G.bipush (v := 32) dX8_advance_20 (by decide) ?_
    refine G.icmp_ne (tgt := 38) dX8_advance_22 (by decide) (fun c_31 => ?_) (fun c_31 => ?_)
    · have hf := ite_f hf c_31
      obtain ⟨z_29, hz_29, rfl⟩ := inrO_at hf
      have hf := hz_29
      exact tX8_advance_38 E d rr I _ hf hK
    · have hf := ite_t hf c_31
      refine G.aload_n dX8_advance_25 rfl rfl ?_
      refine G.dup dX8_advance_26 rfl ?_
      refine G.getI dX8_advance_27 flX8_19 (by decide) rfl ?_
      refine G.iconst (v := 1) dX8_advance_30 (by decide) ?_
      refine G.iadd dX8_advance_31 ?_
      refine G.putI dX8_advance_32 flX8_19 (by decide) rfl ?_
      refine G.nmI (fun I_30 e_I_30 => ?_)
      have hf := letb_at hf e_I_30
      clear e_I_30
      refine G.goto (tgt := 0) dX8_advance_35 (by decide) ?_
      cases hf
      exact hK
theorem lX8_advance_0 (E : EV) (d : Nat) (rr : Option Value × Mem) (z : Mem) (hK : (fun (z : Mem) => ((none : Option Value), z) = rr) z) : ∀ (n : Nat) (q : Mem), iter (sX8_advance_0) n q = some z → G E (d + 6) kX8_advance 0 [some (.ref 35)] [] q rr := by
  intro n
  induction n with
  | zero => intro q h; cases h
  | succ n ih =>
    intro q h
    rcases iter_at h with ⟨q2, hs, h2⟩ | hs
    · exact wX8_advance_0 E d rr q _ hs (ih q2 h2)
    · exact wX8_advance_0 E d rr q _ hs hK
def fX8_advance (I : Mem) : Option Mem :=
  iter (sX8_advance_0) FU I
set_option maxRecDepth 20000 in
theorem gX8_advance (E : EV) (d : Nat) (I : Mem) {J : Mem} (hf : fX8_advance I = some J) : Gm E (d + 6) kX8_advance [.ref 35] I (none, J) := by
  refine Gm.of (by decide) rfl (Nat.le_of_ble_eq_true rfl) ?_
  generalize hrr : ((none, J) : Option Value × Mem) = rr
  show G E (d + 6) kX8_advance 0 [some (.ref 35)] [] I rr
  have hK : (fun (z : Mem) => ((none : Option Value), z) = rr) J := hrr
  clear hrr
  unfold fX8_advance at hf
  exact lX8_advance_0 E d rr _ hK FU _ hf
theorem dX8_takeNumber_0 : decode cX8_takeNumber 0 = .ok (.aload_n 0, 1) := by decide +kernel
theorem dX8_takeNumber_1 : decode cX8_takeNumber 1 = .ok (.getfield 22, 3) := by decide +kernel
theorem dX8_takeNumber_4 : decode cX8_takeNumber 4 = .ok (.iconst (-1), 1) := by decide +kernel
theorem dX8_takeNumber_5 : decode cX8_takeNumber 5 = .ok (.if_icmp .eq 5, 3) := by decide +kernel
theorem dX8_takeNumber_8 : decode cX8_takeNumber 8 = .ok (.iload_n 1, 1) := by decide +kernel
theorem dX8_takeNumber_9 : decode cX8_takeNumber 9 = .ok (.ireturn, 1) := by decide +kernel
theorem dX8_takeNumber_10 : decode cX8_takeNumber 10 = .ok (.aload_n 0, 1) := by decide +kernel
theorem dX8_takeNumber_11 : decode cX8_takeNumber 11 = .ok (.invokevirtual 25, 3) := by decide +kernel
theorem dX8_takeNumber_14 : decode cX8_takeNumber 14 = .ok (.aload_n 0, 1) := by decide +kernel
theorem dX8_takeNumber_15 : decode cX8_takeNumber 15 = .ok (.getfield 28, 3) := by decide +kernel
theorem dX8_takeNumber_18 : decode cX8_takeNumber 18 = .ok (.iconst 2, 1) := by decide +kernel
theorem dX8_takeNumber_19 : decode cX8_takeNumber 19 = .ok (.if_icmp .ne 19, 3) := by decide +kernel
theorem dX8_takeNumber_22 : decode cX8_takeNumber 22 = .ok (.aload_n 0, 1) := by decide +kernel
theorem dX8_takeNumber_23 : decode cX8_takeNumber 23 = .ok (.getfield 78, 3) := by decide +kernel
theorem dX8_takeNumber_26 : decode cX8_takeNumber 26 = .ok (.iload_n 1, 1) := by decide +kernel
theorem dX8_takeNumber_27 : decode cX8_takeNumber 27 = .ok (.if_icmp .lt 11, 3) := by decide +kernel
theorem dX8_takeNumber_30 : decode cX8_takeNumber 30 = .ok (.aload_n 0, 1) := by decide +kernel
theorem dX8_takeNumber_31 : decode cX8_takeNumber 31 = .ok (.getfield 78, 3) := by decide +kernel
theorem dX8_takeNumber_34 : decode cX8_takeNumber 34 = .ok (.iload_n 2, 1) := by decide +kernel
theorem dX8_takeNumber_35 : decode cX8_takeNumber 35 = .ok (.if_icmp .le 13, 3) := by decide +kernel
theorem dX8_takeNumber_38 : decode cX8_takeNumber 38 = .ok (.aload_n 0, 1) := by decide +kernel
theorem dX8_takeNumber_39 : decode cX8_takeNumber 39 = .ok (.aload_n 0, 1) := by decide +kernel
theorem dX8_takeNumber_40 : decode cX8_takeNumber 40 = .ok (.getfield 31, 3) := by decide +kernel
theorem dX8_takeNumber_43 : decode cX8_takeNumber 43 = .ok (.putfield 22, 3) := by decide +kernel
theorem dX8_takeNumber_46 : decode cX8_takeNumber 46 = .ok (.iload_n 1, 1) := by decide +kernel
theorem dX8_takeNumber_47 : decode cX8_takeNumber 47 = .ok (.ireturn, 1) := by decide +kernel
theorem dX8_takeNumber_48 : decode cX8_takeNumber 48 = .ok (.aload_n 0, 1) := by decide +kernel
theorem dX8_takeNumber_49 : decode cX8_takeNumber 49 = .ok (.getfield 78, 3) := by decide +kernel
theorem dX8_takeNumber_52 : decode cX8_takeNumber 52 = .ok (.ireturn, 1) := by decide +kernel
def fX8_takeNumber (x1 : Int32) (x2 : Int32) (I : Mem) : Option (Int32 × Mem) :=
  if (I 35 6) = (-1 : Int32) then
  (bnd (fX8_advance I) fun I_2 =>
  if (I_2 35 2) = (2 : Int32) then
  (if (I_2 35 5) < x1 then
  (letb (up2 I_2 35 6 (I_2 35 3)) fun I_4 =>
  some (x1, I_4))
  else
  (if (I_2 35 5) ≤ x2 then
  (some ((I_2 35 5), I_2))
  else
  (letb (up2 I_2 35 6 (I_2 35 3)) fun I_5 =>
  some (x1, I_5))))
  else
  (letb (up2 I_2 35 6 (I_2 35 3)) fun I_3 =>
  some (x1, I_3)))
  else
  (some (x1, I))
set_option maxRecDepth 20000 in
theorem gX8_takeNumber (E : EV) (d : Nat) (x1 : Int32) (x2 : Int32) (I : Mem) {v : Int32} {J : Mem} (hf : fX8_takeNumber x1 x2 I = some (v, J)) : Gm E (d + 7) kX8_takeNumber [.ref 35, .int x1, .int x2] I (some (.int v), J) := by
  refine Gm.of (by decide) rfl (Nat.le_of_ble_eq_true rfl) ?_
  generalize hrr : ((some (.int v), J) : Option Value × Mem) = rr
  show G E (d + 7) kX8_takeNumber 0 [some (.ref 35), some (.int x1), some (.int x2)] [] I rr
  have hK : (fun (z : Int32 × Mem) => (some (.int z.1), z.2) = rr) (v, J) := hrr
  clear hrr
  unfold fX8_takeNumber at hf
  refine G.aload_n dX8_takeNumber_0 rfl rfl ?_
  refine G.getI dX8_takeNumber_1 flX8_22 (by decide) rfl ?_
  refine G.iconst (v := -1) dX8_takeNumber_4 (by decide) ?_
  refine G.icmp_eq (tgt := 10) dX8_takeNumber_5 (by decide) (fun c_9 => ?_) (fun c_9 => ?_)
  · have hf := ite_t hf c_9
    refine G.aload_n dX8_takeNumber_10 rfl rfl ?_
    obtain ⟨I_2, hc_1, hf⟩ := bnd_at hf
    refine G.callVv (av := []) (rest := []) dX8_takeNumber_11 mvX8_25 (gX8_advance E d I hc_1) (by decide) rfl rfl rfl (Nat.le_of_ble_eq_true rfl) ?_
    refine G.aload_n dX8_takeNumber_14 rfl rfl ?_
    refine G.getI dX8_takeNumber_15 flX8_28 (by decide) rfl ?_
    refine G.iconst (v := 2) dX8_takeNumber_18 (by decide) ?_
    refine G.icmp_ne (tgt := 38) dX8_takeNumber_19 (by decide) (fun c_8 => ?_) (fun c_8 => ?_)
    · have hf := ite_f hf c_8
      refine G.aload_n dX8_takeNumber_38 rfl rfl ?_
      refine G.aload_n dX8_takeNumber_39 rfl rfl ?_
      refine G.getI dX8_takeNumber_40 flX8_31 (by decide) rfl ?_
      refine G.putI dX8_takeNumber_43 flX8_22 (by decide) rfl ?_
      refine G.nmI (fun I_3 e_I_3 => ?_)
      have hf := letb_at hf e_I_3
      clear e_I_3
      refine G.iload_n dX8_takeNumber_46 rfl rfl ?_
      cases hf
      exact G.iret' dX8_takeNumber_47 rfl hK
    · have hf := ite_t hf c_8
      refine G.aload_n dX8_takeNumber_22 rfl rfl ?_
      refine G.getI dX8_takeNumber_23 flX8_78 (by decide) rfl ?_
      refine G.iload_n dX8_takeNumber_26 rfl rfl ?_
      refine G.icmp_lt (tgt := 38) dX8_takeNumber_27 (by decide) (fun c_7 => ?_) (fun c_7 => ?_)
      · have hf := ite_t hf c_7
        refine G.aload_n dX8_takeNumber_38 rfl rfl ?_
        refine G.aload_n dX8_takeNumber_39 rfl rfl ?_
        refine G.getI dX8_takeNumber_40 flX8_31 (by decide) rfl ?_
        refine G.putI dX8_takeNumber_43 flX8_22 (by decide) rfl ?_
        refine G.nmI (fun I_4 e_I_4 => ?_)
        have hf := letb_at hf e_I_4
        clear e_I_4
        refine G.iload_n dX8_takeNumber_46 rfl rfl ?_
        cases hf
        exact G.iret' dX8_takeNumber_47 rfl hK
      · have hf := ite_f hf c_7
        refine G.aload_n dX8_takeNumber_30 rfl rfl ?_
        refine G.getI dX8_takeNumber_31 flX8_78 (by decide) rfl ?_
        refine G.iload_n dX8_takeNumber_34 rfl rfl ?_
        refine G.icmp_le (tgt := 48) dX8_takeNumber_35 (by decide) (fun c_6 => ?_) (fun c_6 => ?_)
        · have hf := ite_t hf c_6
          refine G.aload_n dX8_takeNumber_48 rfl rfl ?_
          refine G.getI dX8_takeNumber_49 flX8_78 (by decide) rfl ?_
          cases hf
          exact G.iret' dX8_takeNumber_52 rfl hK
        · have hf := ite_f hf c_6
          refine G.aload_n dX8_takeNumber_38 rfl rfl ?_
          refine G.aload_n dX8_takeNumber_39 rfl rfl ?_
          refine G.getI dX8_takeNumber_40 flX8_31 (by decide) rfl ?_
          refine G.putI dX8_takeNumber_43 flX8_22 (by decide) rfl ?_
          refine G.nmI (fun I_5 e_I_5 => ?_)
          have hf := letb_at hf e_I_5
          clear e_I_5
          refine G.iload_n dX8_takeNumber_46 rfl rfl ?_
          cases hf
          exact G.iret' dX8_takeNumber_47 rfl hK
  · have hf := ite_f hf c_9
    refine G.iload_n dX8_takeNumber_8 rfl rfl ?_
    cases hf
    exact G.iret' dX8_takeNumber_9 rfl hK
theorem dX8_takeStop_0 : decode cX8_takeStop 0 = .ok (.aload_n 0, 1) := by decide +kernel
theorem dX8_takeStop_1 : decode cX8_takeStop 1 = .ok (.getfield 22, 3) := by decide +kernel
theorem dX8_takeStop_4 : decode cX8_takeStop 4 = .ok (.iconst (-1), 1) := by decide +kernel
theorem dX8_takeStop_5 : decode cX8_takeStop 5 = .ok (.if_icmp .eq 4, 3) := by decide +kernel
theorem dX8_takeStop_8 : decode cX8_takeStop 8 = .ok (.return_, 1) := by decide +kernel
theorem dX8_takeStop_9 : decode cX8_takeStop 9 = .ok (.aload_n 0, 1) := by decide +kernel
theorem dX8_takeStop_10 : decode cX8_takeStop 10 = .ok (.invokevirtual 25, 3) := by decide +kernel
theorem dX8_takeStop_13 : decode cX8_takeStop 13 = .ok (.aload_n 0, 1) := by decide +kernel
theorem dX8_takeStop_14 : decode cX8_takeStop 14 = .ok (.getfield 28, 3) := by decide +kernel
theorem dX8_takeStop_17 : decode cX8_takeStop 17 = .ok (.iconst 3, 1) := by decide +kernel
theorem dX8_takeStop_18 : decode cX8_takeStop 18 = .ok (.if_icmp .eq 11, 3) := by decide +kernel
theorem dX8_takeStop_21 : decode cX8_takeStop 21 = .ok (.aload_n 0, 1) := by decide +kernel
theorem dX8_takeStop_22 : decode cX8_takeStop 22 = .ok (.aload_n 0, 1) := by decide +kernel
theorem dX8_takeStop_23 : decode cX8_takeStop 23 = .ok (.getfield 31, 3) := by decide +kernel
theorem dX8_takeStop_26 : decode cX8_takeStop 26 = .ok (.putfield 22, 3) := by decide +kernel
theorem dX8_takeStop_29 : decode cX8_takeStop 29 = .ok (.return_, 1) := by decide +kernel
def fX8_takeStop (I : Mem) : Option Mem :=
  if (I 35 6) = (-1 : Int32) then
  (bnd (fX8_advance I) fun I_2 =>
  if (I_2 35 2) = (3 : Int32) then
  (some I_2)
  else
  (letb (up2 I_2 35 6 (I_2 35 3)) fun I_3 =>
  some I_3))
  else
  (some I)
set_option maxRecDepth 20000 in
theorem gX8_takeStop (E : EV) (d : Nat) (I : Mem) {J : Mem} (hf : fX8_takeStop I = some J) : Gm E (d + 7) kX8_takeStop [.ref 35] I (none, J) := by
  refine Gm.of (by decide) rfl (Nat.le_of_ble_eq_true rfl) ?_
  generalize hrr : ((none, J) : Option Value × Mem) = rr
  show G E (d + 7) kX8_takeStop 0 [some (.ref 35)] [] I rr
  have hK : (fun (z : Mem) => ((none : Option Value), z) = rr) J := hrr
  clear hrr
  unfold fX8_takeStop at hf
  refine G.aload_n dX8_takeStop_0 rfl rfl ?_
  refine G.getI dX8_takeStop_1 flX8_22 (by decide) rfl ?_
  refine G.iconst (v := -1) dX8_takeStop_4 (by decide) ?_
  refine G.icmp_eq (tgt := 9) dX8_takeStop_5 (by decide) (fun c_5 => ?_) (fun c_5 => ?_)
  · have hf := ite_t hf c_5
    refine G.aload_n dX8_takeStop_9 rfl rfl ?_
    obtain ⟨I_2, hc_1, hf⟩ := bnd_at hf
    refine G.callVv (av := []) (rest := []) dX8_takeStop_10 mvX8_25 (gX8_advance E d I hc_1) (by decide) rfl rfl rfl (Nat.le_of_ble_eq_true rfl) ?_
    refine G.aload_n dX8_takeStop_13 rfl rfl ?_
    refine G.getI dX8_takeStop_14 flX8_28 (by decide) rfl ?_
    refine G.iconst (v := 3) dX8_takeStop_17 (by decide) ?_
    refine G.icmp_eq (tgt := 29) dX8_takeStop_18 (by decide) (fun c_4 => ?_) (fun c_4 => ?_)
    · have hf := ite_t hf c_4
      cases hf
      exact G.vret' dX8_takeStop_29 rfl hK
    · have hf := ite_f hf c_4
      refine G.aload_n dX8_takeStop_21 rfl rfl ?_
      refine G.aload_n dX8_takeStop_22 rfl rfl ?_
      refine G.getI dX8_takeStop_23 flX8_31 (by decide) rfl ?_
      refine G.putI dX8_takeStop_26 flX8_22 (by decide) rfl ?_
      refine G.nmI (fun I_3 e_I_3 => ?_)
      have hf := letb_at hf e_I_3
      clear e_I_3
      cases hf
      exact G.vret' dX8_takeStop_29 rfl hK
  · have hf := ite_f hf c_5
    cases hf
    exact G.vret' dX8_takeStop_8 rfl hK
theorem dX8_takeItem_0 : decode cX8_takeItem 0 = .ok (.aload_n 1, 1) := by decide +kernel
theorem dX8_takeItem_1 : decode cX8_takeItem 1 = .ok (.getfield 51, 3) := by decide +kernel
theorem dX8_takeItem_4 : decode cX8_takeItem 4 = .ok (.iconst 1, 1) := by decide +kernel
theorem dX8_takeItem_5 : decode cX8_takeItem 5 = .ok (.isub, 1) := by decide +kernel
theorem dX8_takeItem_6 : decode cX8_takeItem 6 = .ok (.istore_n 2, 1) := by decide +kernel
theorem dX8_takeItem_7 : decode cX8_takeItem 7 = .ok (.aload_n 0, 1) := by decide +kernel
theorem dX8_takeItem_8 : decode cX8_takeItem 8 = .ok (.getfield 28, 3) := by decide +kernel
theorem dX8_takeItem_11 : decode cX8_takeItem 11 = .ok (.tableswitch 236 5 10 #[37, 103, 123, 149, 181, 223], 37) := by decide +kernel
theorem dX8_takeItem_48 : decode cX8_takeItem 48 = .ok (.aload_n 0, 1) := by decide +kernel
theorem dX8_takeItem_49 : decode cX8_takeItem 49 = .ok (.iconst 0, 1) := by decide +kernel
theorem dX8_takeItem_50 : decode cX8_takeItem 50 = .ok (.iload_n 2, 1) := by decide +kernel
theorem dX8_takeItem_51 : decode cX8_takeItem 51 = .ok (.invokevirtual 34, 3) := by decide +kernel
theorem dX8_takeItem_54 : decode cX8_takeItem 54 = .ok (.istore_n 3, 1) := by decide +kernel
theorem dX8_takeItem_55 : decode cX8_takeItem 55 = .ok (.aload_n 0, 1) := by decide +kernel
theorem dX8_takeItem_56 : decode cX8_takeItem 56 = .ok (.iconst 0, 1) := by decide +kernel
theorem dX8_takeItem_57 : decode cX8_takeItem 57 = .ok (.iload_n 2, 1) := by decide +kernel
theorem dX8_takeItem_58 : decode cX8_takeItem 58 = .ok (.invokevirtual 34, 3) := by decide +kernel
theorem dX8_takeItem_61 : decode cX8_takeItem 61 = .ok (.istore 4, 2) := by decide +kernel
theorem dX8_takeItem_63 : decode cX8_takeItem 63 = .ok (.iload_n 3, 1) := by decide +kernel
theorem dX8_takeItem_64 : decode cX8_takeItem 64 = .ok (.iload 4, 2) := by decide +kernel
theorem dX8_takeItem_66 : decode cX8_takeItem 66 = .ok (.if_icmp .ne 19, 3) := by decide +kernel
theorem dX8_takeItem_69 : decode cX8_takeItem 69 = .ok (.aload_n 0, 1) := by decide +kernel
theorem dX8_takeItem_70 : decode cX8_takeItem 70 = .ok (.getfield 22, 3) := by decide +kernel
theorem dX8_takeItem_73 : decode cX8_takeItem 73 = .ok (.iconst (-1), 1) := by decide +kernel
theorem dX8_takeItem_74 : decode cX8_takeItem 74 = .ok (.if_icmp .ne 11, 3) := by decide +kernel
theorem dX8_takeItem_77 : decode cX8_takeItem 77 = .ok (.aload_n 0, 1) := by decide +kernel
theorem dX8_takeItem_78 : decode cX8_takeItem 78 = .ok (.aload_n 0, 1) := by decide +kernel
theorem dX8_takeItem_79 : decode cX8_takeItem 79 = .ok (.getfield 31, 3) := by decide +kernel
theorem dX8_takeItem_82 : decode cX8_takeItem 82 = .ok (.putfield 22, 3) := by decide +kernel
theorem dX8_takeItem_85 : decode cX8_takeItem 85 = .ok (.aload_n 1, 1) := by decide +kernel
theorem dX8_takeItem_86 : decode cX8_takeItem 86 = .ok (.getfield 54, 3) := by decide +kernel
theorem dX8_takeItem_89 : decode cX8_takeItem 89 = .ok (.iload_n 3, 1) := by decide +kernel
theorem dX8_takeItem_90 : decode cX8_takeItem 90 = .ok (.dup2, 1) := by decide +kernel
theorem dX8_takeItem_91 : decode cX8_takeItem 91 = .ok (.iaload, 1) := by decide +kernel
theorem dX8_takeItem_92 : decode cX8_takeItem 92 = .ok (.iconst 1, 1) := by decide +kernel
theorem dX8_takeItem_93 : decode cX8_takeItem 93 = .ok (.iload 4, 2) := by decide +kernel
theorem dX8_takeItem_95 : decode cX8_takeItem 95 = .ok (.ishl, 1) := by decide +kernel
theorem dX8_takeItem_96 : decode cX8_takeItem 96 = .ok (.ior, 1) := by decide +kernel
theorem dX8_takeItem_97 : decode cX8_takeItem 97 = .ok (.iastore, 1) := by decide +kernel
theorem dX8_takeItem_98 : decode cX8_takeItem 98 = .ok (.aload_n 1, 1) := by decide +kernel
theorem dX8_takeItem_99 : decode cX8_takeItem 99 = .ok (.getfield 54, 3) := by decide +kernel
theorem dX8_takeItem_102 : decode cX8_takeItem 102 = .ok (.iload 4, 2) := by decide +kernel
theorem dX8_takeItem_104 : decode cX8_takeItem 104 = .ok (.dup2, 1) := by decide +kernel
theorem dX8_takeItem_105 : decode cX8_takeItem 105 = .ok (.iaload, 1) := by decide +kernel
theorem dX8_takeItem_106 : decode cX8_takeItem 106 = .ok (.iconst 1, 1) := by decide +kernel
theorem dX8_takeItem_107 : decode cX8_takeItem 107 = .ok (.iload_n 3, 1) := by decide +kernel
theorem dX8_takeItem_108 : decode cX8_takeItem 108 = .ok (.ishl, 1) := by decide +kernel
theorem dX8_takeItem_109 : decode cX8_takeItem 109 = .ok (.ior, 1) := by decide +kernel
theorem dX8_takeItem_110 : decode cX8_takeItem 110 = .ok (.iastore, 1) := by decide +kernel
theorem dX8_takeItem_111 : decode cX8_takeItem 111 = .ok (.goto 144, 3) := by decide +kernel
theorem dX8_takeItem_114 : decode cX8_takeItem 114 = .ok (.aload_n 1, 1) := by decide +kernel
theorem dX8_takeItem_115 : decode cX8_takeItem 115 = .ok (.dup, 1) := by decide +kernel
theorem dX8_takeItem_116 : decode cX8_takeItem 116 = .ok (.getfield 57, 3) := by decide +kernel
theorem dX8_takeItem_119 : decode cX8_takeItem 119 = .ok (.iconst 1, 1) := by decide +kernel
theorem dX8_takeItem_120 : decode cX8_takeItem 120 = .ok (.aload_n 0, 1) := by decide +kernel
theorem dX8_takeItem_121 : decode cX8_takeItem 121 = .ok (.iconst 0, 1) := by decide +kernel
theorem dX8_takeItem_122 : decode cX8_takeItem 122 = .ok (.iload_n 2, 1) := by decide +kernel
theorem dX8_takeItem_123 : decode cX8_takeItem 123 = .ok (.invokevirtual 34, 3) := by decide +kernel
theorem dX8_takeItem_126 : decode cX8_takeItem 126 = .ok (.ishl, 1) := by decide +kernel
theorem dX8_takeItem_127 : decode cX8_takeItem 127 = .ok (.ior, 1) := by decide +kernel
theorem dX8_takeItem_128 : decode cX8_takeItem 128 = .ok (.putfield 57, 3) := by decide +kernel
theorem dX8_takeItem_131 : decode cX8_takeItem 131 = .ok (.goto 124, 3) := by decide +kernel
theorem dX8_takeItem_134 : decode cX8_takeItem 134 = .ok (.aload_n 0, 1) := by decide +kernel
theorem dX8_takeItem_135 : decode cX8_takeItem 135 = .ok (.iconst 0, 1) := by decide +kernel
theorem dX8_takeItem_136 : decode cX8_takeItem 136 = .ok (.iload_n 2, 1) := by decide +kernel
theorem dX8_takeItem_137 : decode cX8_takeItem 137 = .ok (.invokevirtual 34, 3) := by decide +kernel
theorem dX8_takeItem_140 : decode cX8_takeItem 140 = .ok (.istore 5, 2) := by decide +kernel
theorem dX8_takeItem_142 : decode cX8_takeItem 142 = .ok (.aload_n 1, 1) := by decide +kernel
theorem dX8_takeItem_143 : decode cX8_takeItem 143 = .ok (.getfield 60, 3) := by decide +kernel
theorem dX8_takeItem_146 : decode cX8_takeItem 146 = .ok (.iload 5, 2) := by decide +kernel
theorem dX8_takeItem_148 : decode cX8_takeItem 148 = .ok (.aload_n 0, 1) := by decide +kernel
theorem dX8_takeItem_149 : decode cX8_takeItem 149 = .ok (.iconst 0, 1) := by decide +kernel
theorem dX8_takeItem_150 : decode cX8_takeItem 150 = .ok (.sipush 999, 3) := by decide +kernel
theorem dX8_takeItem_153 : decode cX8_takeItem 153 = .ok (.invokevirtual 34, 3) := by decide +kernel
theorem dX8_takeItem_156 : decode cX8_takeItem 156 = .ok (.iastore, 1) := by decide +kernel
theorem dX8_takeItem_157 : decode cX8_takeItem 157 = .ok (.goto 98, 3) := by decide +kernel
theorem dX8_takeItem_160 : decode cX8_takeItem 160 = .ok (.aload_n 1, 1) := by decide +kernel
theorem dX8_takeItem_161 : decode cX8_takeItem 161 = .ok (.getfield 63, 3) := by decide +kernel
theorem dX8_takeItem_164 : decode cX8_takeItem 164 = .ok (.iconst 4, 1) := by decide +kernel
theorem dX8_takeItem_165 : decode cX8_takeItem 165 = .ok (.if_icmp .lt 14, 3) := by decide +kernel
theorem dX8_takeItem_168 : decode cX8_takeItem 168 = .ok (.aload_n 0, 1) := by decide +kernel
theorem dX8_takeItem_169 : decode cX8_takeItem 169 = .ok (.aload_n 0, 1) := by decide +kernel
theorem dX8_takeItem_170 : decode cX8_takeItem 170 = .ok (.getfield 31, 3) := by decide +kernel
theorem dX8_takeItem_173 : decode cX8_takeItem 173 = .ok (.putfield 22, 3) := by decide +kernel
theorem dX8_takeItem_176 : decode cX8_takeItem 176 = .ok (.goto 79, 3) := by decide +kernel
theorem dX8_takeItem_179 : decode cX8_takeItem 179 = .ok (.aload_n 1, 1) := by decide +kernel
theorem dX8_takeItem_180 : decode cX8_takeItem 180 = .ok (.aload_n 0, 1) := by decide +kernel
theorem dX8_takeItem_181 : decode cX8_takeItem 181 = .ok (.iconst 0, 1) := by decide +kernel
theorem dX8_takeItem_182 : decode cX8_takeItem 182 = .ok (.iload_n 2, 1) := by decide +kernel
theorem dX8_takeItem_183 : decode cX8_takeItem 183 = .ok (.invokevirtual 34, 3) := by decide +kernel
theorem dX8_takeItem_186 : decode cX8_takeItem 186 = .ok (.invokevirtual 66, 3) := by decide +kernel
theorem dX8_takeItem_189 : decode cX8_takeItem 189 = .ok (.goto 66, 3) := by decide +kernel
theorem dX8_takeItem_192 : decode cX8_takeItem 192 = .ok (.aload_n 0, 1) := by decide +kernel
theorem dX8_takeItem_193 : decode cX8_takeItem 193 = .ok (.iconst 0, 1) := by decide +kernel
theorem dX8_takeItem_194 : decode cX8_takeItem 194 = .ok (.aload_n 1, 1) := by decide +kernel
theorem dX8_takeItem_195 : decode cX8_takeItem 195 = .ok (.getfield 63, 3) := by decide +kernel
theorem dX8_takeItem_198 : decode cX8_takeItem 198 = .ok (.iconst 1, 1) := by decide +kernel
theorem dX8_takeItem_199 : decode cX8_takeItem 199 = .ok (.isub, 1) := by decide +kernel
theorem dX8_takeItem_200 : decode cX8_takeItem 200 = .ok (.invokevirtual 34, 3) := by decide +kernel
theorem dX8_takeItem_203 : decode cX8_takeItem 203 = .ok (.istore 6, 2) := by decide +kernel
theorem dX8_takeItem_205 : decode cX8_takeItem 205 = .ok (.iload 6, 2) := by decide +kernel
theorem dX8_takeItem_207 : decode cX8_takeItem 207 = .ok (.aload_n 0, 1) := by decide +kernel
theorem dX8_takeItem_208 : decode cX8_takeItem 208 = .ok (.iconst 1, 1) := by decide +kernel
theorem dX8_takeItem_209 : decode cX8_takeItem 209 = .ok (.iconst 4, 1) := by decide +kernel
theorem dX8_takeItem_210 : decode cX8_takeItem 210 = .ok (.invokevirtual 34, 3) := by decide +kernel
theorem dX8_takeItem_213 : decode cX8_takeItem 213 = .ok (.invokestatic 69, 3) := by decide +kernel
theorem dX8_takeItem_216 : decode cX8_takeItem 216 = .ok (.istore 7, 2) := by decide +kernel
theorem dX8_takeItem_218 : decode cX8_takeItem 218 = .ok (.aload_n 1, 1) := by decide +kernel
theorem dX8_takeItem_219 : decode cX8_takeItem 219 = .ok (.getfield 72, 3) := by decide +kernel
theorem dX8_takeItem_222 : decode cX8_takeItem 222 = .ok (.iload 7, 2) := by decide +kernel
theorem dX8_takeItem_224 : decode cX8_takeItem 224 = .ok (.aload_n 0, 1) := by decide +kernel
theorem dX8_takeItem_225 : decode cX8_takeItem 225 = .ok (.iconst 0, 1) := by decide +kernel
theorem dX8_takeItem_226 : decode cX8_takeItem 226 = .ok (.iload_n 2, 1) := by decide +kernel
theorem dX8_takeItem_227 : decode cX8_takeItem 227 = .ok (.invokevirtual 34, 3) := by decide +kernel
theorem dX8_takeItem_230 : decode cX8_takeItem 230 = .ok (.iastore, 1) := by decide +kernel
theorem dX8_takeItem_231 : decode cX8_takeItem 231 = .ok (.goto 24, 3) := by decide +kernel
theorem dX8_takeItem_234 : decode cX8_takeItem 234 = .ok (.aload_n 1, 1) := by decide +kernel
theorem dX8_takeItem_235 : decode cX8_takeItem 235 = .ok (.aload_n 0, 1) := by decide +kernel
theorem dX8_takeItem_236 : decode cX8_takeItem 236 = .ok (.iconst 0, 1) := by decide +kernel
theorem dX8_takeItem_237 : decode cX8_takeItem 237 = .ok (.iconst 4, 1) := by decide +kernel
theorem dX8_takeItem_238 : decode cX8_takeItem 238 = .ok (.invokevirtual 34, 3) := by decide +kernel
theorem dX8_takeItem_241 : decode cX8_takeItem 241 = .ok (.putfield 75, 3) := by decide +kernel
theorem dX8_takeItem_244 : decode cX8_takeItem 244 = .ok (.goto 11, 3) := by decide +kernel
theorem dX8_takeItem_247 : decode cX8_takeItem 247 = .ok (.aload_n 0, 1) := by decide +kernel
theorem dX8_takeItem_248 : decode cX8_takeItem 248 = .ok (.aload_n 0, 1) := by decide +kernel
theorem dX8_takeItem_249 : decode cX8_takeItem 249 = .ok (.getfield 31, 3) := by decide +kernel
theorem dX8_takeItem_252 : decode cX8_takeItem 252 = .ok (.putfield 22, 3) := by decide +kernel
theorem dX8_takeItem_255 : decode cX8_takeItem 255 = .ok (.return_, 1) := by decide +kernel
def jX8_takeItem_85 (b1 : Nat) (x3 : Int32) (x4 : Int32) (I : Mem) : Option Mem :=
  chk (inb x3 5) <|
  chk (inb x3 5) <|
  letb (up2 I (b1 + 1) (ix x3) ((I (b1 + 1) (ix x3)) ||| ((1 : Int32) <<< (x4 &&& 31)))) fun I_11 =>
  chk (inb x4 5) <|
  chk (inb x4 5) <|
  letb (up2 I_11 (b1 + 1) (ix x4) ((I_11 (b1 + 1) (ix x4)) ||| ((1 : Int32) <<< (x3 &&& 31)))) fun I_14 =>
  some I_14
set_option maxRecDepth 20000 in
theorem tX8_takeItem_85 (E : EV) (d : Nat) (rr : Option Value × Mem) (b1 : Nat) (x3 : Int32) (x4 : Int32) (I : Mem) (hb1 : isH b1) (y : Mem) (hf : jX8_takeItem_85 b1 x3 x4 I = some y) (hK : (fun (z : Mem) => ((none : Option Value), z) = rr) y) : G E (d + 8) kX8_takeItem 85 [none, some (.ref b1), none, some (.int x3), some (.int x4), none, none, none] [] I rr := by
  unfold jX8_takeItem_85 at hf
  refine G.aload_n dX8_takeItem_85 rfl rfl ?_
  refine G.getR (q := (b1 + 1)) dX8_takeItem_86 flX8_54 (isH_lt hb1) (isH_lk hb1) (isH_r1 hb1) ?_
  refine G.iload_n dX8_takeItem_89 rfl rfl ?_
  refine G.dup2 dX8_takeItem_90 rfl rfl ?_
  obtain ⟨hi_9, hf⟩ := chk_at hf
  refine G.iald' dX8_takeItem_91 (isH_l1 hb1) (isH_k1 hb1) (isH_n1 hb1) hi_9 ?_
  refine G.iconst (v := 1) dX8_takeItem_92 (by decide) ?_
  refine G.iload dX8_takeItem_93 rfl ?_
  refine G.ishl dX8_takeItem_95 ?_
  refine G.ior dX8_takeItem_96 ?_
  obtain ⟨hi_10, hf⟩ := chk_at hf
  refine G.iast' dX8_takeItem_97 (isH_l1 hb1) (isH_k1 hb1) (isH_n1 hb1) hi_10 ?_
  refine G.nmI (fun I_11 e_I_11 => ?_)
  have hf := letb_at hf e_I_11
  clear e_I_11
  refine G.aload_n dX8_takeItem_98 rfl rfl ?_
  refine G.getR (q := (b1 + 1)) dX8_takeItem_99 flX8_54 (isH_lt hb1) (isH_lk hb1) (isH_r1 hb1) ?_
  refine G.iload dX8_takeItem_102 rfl ?_
  refine G.dup2 dX8_takeItem_104 rfl rfl ?_
  obtain ⟨hi_12, hf⟩ := chk_at hf
  refine G.iald' dX8_takeItem_105 (isH_l1 hb1) (isH_k1 hb1) (isH_n1 hb1) hi_12 ?_
  refine G.iconst (v := 1) dX8_takeItem_106 (by decide) ?_
  refine G.iload_n dX8_takeItem_107 rfl rfl ?_
  refine G.ishl dX8_takeItem_108 ?_
  refine G.ior dX8_takeItem_109 ?_
  obtain ⟨hi_13, hf⟩ := chk_at hf
  refine G.iast' dX8_takeItem_110 (isH_l1 hb1) (isH_k1 hb1) (isH_n1 hb1) hi_13 ?_
  refine G.nmI (fun I_14 e_I_14 => ?_)
  have hf := letb_at hf e_I_14
  clear e_I_14
  refine G.goto (tgt := 255) dX8_takeItem_111 (by decide) ?_
  cases hf
  exact G.vret' dX8_takeItem_255 rfl hK
def fX8_takeItem (b1 : Nat) (I : Mem) : Option Mem :=
  letb ((I b1 0) - (1 : Int32)) fun x2_1 =>
  if (I 35 2) = 5 then
  (bnd2 (fX8_takeNumber (0 : Int32) x2_1 I) fun v_4 I_5 =>
  bnd2 (fX8_takeNumber (0 : Int32) x2_1 I_5) fun v_7 I_8 =>
  if v_4 = v_7 then
  (if (I_8 35 6) = (-1 : Int32) then
  (letb (up2 I_8 35 6 (I_8 35 3)) fun I_15 =>
  jX8_takeItem_85 b1 v_4 v_7 I_15)
  else
  (jX8_takeItem_85 b1 v_4 v_7 I_8))
  else
  (jX8_takeItem_85 b1 v_4 v_7 I_8))
  else
  (if (I 35 2) = 6 then
  (bnd2 (fX8_takeNumber (0 : Int32) x2_1 I) fun v_20 I_21 =>
  letb (up2 I_21 b1 1 ((I b1 1) ||| ((1 : Int32) <<< (v_20 &&& 31)))) fun I_22 =>
  some I_22)
  else
  (if (I 35 2) = 7 then
  (bnd2 (fX8_takeNumber (0 : Int32) x2_1 I) fun v_25 I_26 =>
  bnd2 (fX8_takeNumber (0 : Int32) (999 : Int32) I_26) fun v_28 I_29 =>
  chk (inb v_25 5) <|
  letb (up2 I_29 (b1 + 2) (ix v_25) v_28) fun I_31 =>
  some I_31)
  else
  (if (I 35 2) = 8 then
  (if (I b1 2) < (4 : Int32) then
  (bnd2 (fX8_takeNumber (0 : Int32) x2_1 I) fun v_34 I_35 =>
  bnd (fX4_enter b1 v_34 I_35) fun I_37 =>
  some I_37)
  else
  (letb (up2 I 35 6 (I 35 3)) fun I_38 =>
  some I_38))
  else
  (if (I 35 2) = 9 then
  (bnd2 (fX8_takeNumber (0 : Int32) ((I b1 2) - (1 : Int32)) I) fun v_42 I_43 =>
  bnd2 (fX8_takeNumber (1 : Int32) (4 : Int32) I_43) fun v_45 I_46 =>
  bnd (fX11_wishPlace v_42 v_45 I_46) fun v_48 =>
  bnd2 (fX8_takeNumber (0 : Int32) x2_1 I_46) fun v_50 I_51 =>
  chk (inb v_48 16) <|
  letb (up2 I_51 (b1 + 5) (ix v_48) v_50) fun I_53 =>
  some I_53)
  else
  (if (I 35 2) = 10 then
  (bnd2 (fX8_takeNumber (0 : Int32) (4 : Int32) I) fun v_56 I_57 =>
  letb (up2 I_57 b1 4 v_56) fun I_58 =>
  some I_58)
  else
  (letb (up2 I 35 6 (I 35 3)) fun I_59 =>
  some I_59))))))
set_option maxRecDepth 20000 in
theorem gX8_takeItem (E : EV) (d : Nat) (b1 : Nat) (I : Mem) (hb1 : isH b1) {J : Mem} (hf : fX8_takeItem b1 I = some J) : Gm E (d + 8) kX8_takeItem [.ref 35, .ref b1] I (none, J) := by
  refine Gm.of (by decide) rfl (Nat.le_of_ble_eq_true rfl) ?_
  generalize hrr : ((none, J) : Option Value × Mem) = rr
  show G E (d + 8) kX8_takeItem 0 [some (.ref 35), some (.ref b1), none, none, none, none, none, none] [] I rr
  have hK : (fun (z : Mem) => ((none : Option Value), z) = rr) J := hrr
  clear hrr
  unfold fX8_takeItem at hf
  refine G.aload_n dX8_takeItem_0 rfl rfl ?_
  refine G.getI dX8_takeItem_1 flX8_51 (isH_lt hb1) (isH_lk hb1) ?_
  refine G.iconst (v := 1) dX8_takeItem_4 (by decide) ?_
  refine G.isub dX8_takeItem_5 ?_
  refine G.nmi (fun x2_1 e_x2_1 => ?_)
  have hf := letb_at hf e_x2_1
  clear e_x2_1
  refine G.istore_n (L' := [some (.ref 35), some (.ref b1), some (.int x2_1), none, none, none, none, none]) dX8_takeItem_6 rfl (Nat.le_of_ble_eq_true rfl) (Nat.le_of_ble_eq_true rfl) rfl rfl ?_
  refine G.aload_n dX8_takeItem_7 rfl rfl ?_
  refine G.getI dX8_takeItem_8 flX8_28 (by decide) rfl ?_
  by_cases c_2 : (I 35 2) = 5
  · have hf := ite_t hf c_2
    refine G.tsw_at (j := 5) (tgt := 48) dX8_takeItem_11 c_2 (by decide) (by decide) rfl (by decide) ?_
    refine G.aload_n dX8_takeItem_48 rfl rfl ?_
    refine G.iconst (v := 0) dX8_takeItem_49 (by decide) ?_
    refine G.iload_n dX8_takeItem_50 rfl rfl ?_
    obtain ⟨v_4, I_5, hc_3, hf⟩ := bnd2_at hf
    refine G.callVi (av := [.int (0 : Int32), .int x2_1]) (rest := []) dX8_takeItem_51 mvX8_34 (gX8_takeNumber E d (0 : Int32) x2_1 I hc_3) (by decide) rfl rfl rfl (Nat.le_of_ble_eq_true rfl) ?_
    refine G.istore_n (L' := [some (.ref 35), some (.ref b1), some (.int x2_1), some (.int v_4), none, none, none, none]) dX8_takeItem_54 rfl (Nat.le_of_ble_eq_true rfl) (Nat.le_of_ble_eq_true rfl) rfl rfl ?_
    refine G.aload_n dX8_takeItem_55 rfl rfl ?_
    refine G.iconst (v := 0) dX8_takeItem_56 (by decide) ?_
    refine G.iload_n dX8_takeItem_57 rfl rfl ?_
    obtain ⟨v_7, I_8, hc_6, hf⟩ := bnd2_at hf
    refine G.callVi (av := [.int (0 : Int32), .int x2_1]) (rest := []) dX8_takeItem_58 mvX8_34 (gX8_takeNumber E d (0 : Int32) x2_1 I_5 hc_6) (by decide) rfl rfl rfl (Nat.le_of_ble_eq_true rfl) ?_
    refine G.istore (L' := [some (.ref 35), some (.ref b1), some (.int x2_1), some (.int v_4), some (.int v_7), none, none, none]) dX8_takeItem_61 (Nat.le_of_ble_eq_true rfl) (Nat.le_of_ble_eq_true rfl) rfl rfl ?_
    refine G.iload_n dX8_takeItem_63 rfl rfl ?_
    refine G.iload dX8_takeItem_64 rfl ?_
    refine G.icmp_ne (tgt := 85) dX8_takeItem_66 (by decide) (fun c_17 => ?_) (fun c_17 => ?_)
    · have hf := ite_f hf c_17
      refine G.forget (L' := [none, some (.ref b1), none, some (.int v_4), some (.int v_7), none, none, none]) [0, 2] rfl ?_
      exact tX8_takeItem_85 E d rr b1 v_4 v_7 I_8 hb1 _ hf hK
    · have hf := ite_t hf c_17
      refine G.aload_n dX8_takeItem_69 rfl rfl ?_
      refine G.getI dX8_takeItem_70 flX8_22 (by decide) rfl ?_
      refine G.iconst (v := -1) dX8_takeItem_73 (by decide) ?_
      refine G.icmp_ne (tgt := 85) dX8_takeItem_74 (by decide) (fun c_16 => ?_) (fun c_16 => ?_)
      · have hf := ite_f hf c_16
        refine G.forget (L' := [none, some (.ref b1), none, some (.int v_4), some (.int v_7), none, none, none]) [0, 2] rfl ?_
        exact tX8_takeItem_85 E d rr b1 v_4 v_7 I_8 hb1 _ hf hK
      · have hf := ite_t hf c_16
        refine G.aload_n dX8_takeItem_77 rfl rfl ?_
        refine G.aload_n dX8_takeItem_78 rfl rfl ?_
        refine G.getI dX8_takeItem_79 flX8_31 (by decide) rfl ?_
        refine G.putI dX8_takeItem_82 flX8_22 (by decide) rfl ?_
        refine G.nmI (fun I_15 e_I_15 => ?_)
        have hf := letb_at hf e_I_15
        clear e_I_15
        refine G.forget (L' := [none, some (.ref b1), none, some (.int v_4), some (.int v_7), none, none, none]) [0, 2] rfl ?_
        exact tX8_takeItem_85 E d rr b1 v_4 v_7 I_15 hb1 _ hf hK
  · have hf := ite_f hf c_2
    by_cases c_18 : (I 35 2) = 6
    · have hf := ite_t hf c_18
      refine G.tsw_at (j := 6) (tgt := 114) dX8_takeItem_11 c_18 (by decide) (by decide) rfl (by decide) ?_
      refine G.aload_n dX8_takeItem_114 rfl rfl ?_
      refine G.dup dX8_takeItem_115 rfl ?_
      refine G.getI dX8_takeItem_116 flX8_57 (isH_lt hb1) (isH_lk hb1) ?_
      refine G.iconst (v := 1) dX8_takeItem_119 (by decide) ?_
      refine G.aload_n dX8_takeItem_120 rfl rfl ?_
      refine G.iconst (v := 0) dX8_takeItem_121 (by decide) ?_
      refine G.iload_n dX8_takeItem_122 rfl rfl ?_
      obtain ⟨v_20, I_21, hc_19, hf⟩ := bnd2_at hf
      refine G.callVi (av := [.int (0 : Int32), .int x2_1]) (rest := [.int (1 : Int32), .int (I b1 1), .ref b1]) dX8_takeItem_123 mvX8_34 (gX8_takeNumber E d (0 : Int32) x2_1 I hc_19) (by decide) rfl rfl rfl (Nat.le_of_ble_eq_true rfl) ?_
      refine G.ishl dX8_takeItem_126 ?_
      refine G.ior dX8_takeItem_127 ?_
      refine G.putI dX8_takeItem_128 flX8_57 (isH_lt hb1) (isH_lk hb1) ?_
      refine G.nmI (fun I_22 e_I_22 => ?_)
      have hf := letb_at hf e_I_22
      clear e_I_22
      refine G.goto (tgt := 255) dX8_takeItem_131 (by decide) ?_
      cases hf
      exact G.vret' dX8_takeItem_255 rfl hK
    · have hf := ite_f hf c_18
      by_cases c_23 : (I 35 2) = 7
      · have hf := ite_t hf c_23
        refine G.tsw_at (j := 7) (tgt := 134) dX8_takeItem_11 c_23 (by decide) (by decide) rfl (by decide) ?_
        refine G.aload_n dX8_takeItem_134 rfl rfl ?_
        refine G.iconst (v := 0) dX8_takeItem_135 (by decide) ?_
        refine G.iload_n dX8_takeItem_136 rfl rfl ?_
        obtain ⟨v_25, I_26, hc_24, hf⟩ := bnd2_at hf
        refine G.callVi (av := [.int (0 : Int32), .int x2_1]) (rest := []) dX8_takeItem_137 mvX8_34 (gX8_takeNumber E d (0 : Int32) x2_1 I hc_24) (by decide) rfl rfl rfl (Nat.le_of_ble_eq_true rfl) ?_
        refine G.istore (L' := [some (.ref 35), some (.ref b1), some (.int x2_1), none, none, some (.int v_25), none, none]) dX8_takeItem_140 (Nat.le_of_ble_eq_true rfl) (Nat.le_of_ble_eq_true rfl) rfl rfl ?_
        refine G.aload_n dX8_takeItem_142 rfl rfl ?_
        refine G.getR (q := (b1 + 2)) dX8_takeItem_143 flX8_60 (isH_lt hb1) (isH_lk hb1) (isH_r2 hb1) ?_
        refine G.iload dX8_takeItem_146 rfl ?_
        refine G.aload_n dX8_takeItem_148 rfl rfl ?_
        refine G.iconst (v := 0) dX8_takeItem_149 (by decide) ?_
        refine G.sipush (v := 999) dX8_takeItem_150 (by decide) ?_
        obtain ⟨v_28, I_29, hc_27, hf⟩ := bnd2_at hf
        refine G.callVi (av := [.int (0 : Int32), .int (999 : Int32)]) (rest := [.int v_25, .ref (b1 + 2)]) dX8_takeItem_153 mvX8_34 (gX8_takeNumber E d (0 : Int32) (999 : Int32) I_26 hc_27) (by decide) rfl rfl rfl (Nat.le_of_ble_eq_true rfl) ?_
        obtain ⟨hi_30, hf⟩ := chk_at hf
        refine G.iast' dX8_takeItem_156 (isH_l2 hb1) (isH_k2 hb1) (isH_n2 hb1) hi_30 ?_
        refine G.nmI (fun I_31 e_I_31 => ?_)
        have hf := letb_at hf e_I_31
        clear e_I_31
        refine G.goto (tgt := 255) dX8_takeItem_157 (by decide) ?_
        cases hf
        exact G.vret' dX8_takeItem_255 rfl hK
      · have hf := ite_f hf c_23
        by_cases c_32 : (I 35 2) = 8
        · have hf := ite_t hf c_32
          refine G.tsw_at (j := 8) (tgt := 160) dX8_takeItem_11 c_32 (by decide) (by decide) rfl (by decide) ?_
          refine G.aload_n dX8_takeItem_160 rfl rfl ?_
          refine G.getI dX8_takeItem_161 flX8_63 (isH_lt hb1) (isH_lk hb1) ?_
          refine G.iconst (v := 4) dX8_takeItem_164 (by decide) ?_
          refine G.icmp_lt (tgt := 179) dX8_takeItem_165 (by decide) (fun c_39 => ?_) (fun c_39 => ?_)
          · have hf := ite_t hf c_39
            refine G.aload_n dX8_takeItem_179 rfl rfl ?_
            refine G.aload_n dX8_takeItem_180 rfl rfl ?_
            refine G.iconst (v := 0) dX8_takeItem_181 (by decide) ?_
            refine G.iload_n dX8_takeItem_182 rfl rfl ?_
            obtain ⟨v_34, I_35, hc_33, hf⟩ := bnd2_at hf
            refine G.callVi (av := [.int (0 : Int32), .int x2_1]) (rest := [.ref b1]) dX8_takeItem_183 mvX8_34 (gX8_takeNumber E d (0 : Int32) x2_1 I hc_33) (by decide) rfl rfl rfl (Nat.le_of_ble_eq_true rfl) ?_
            obtain ⟨I_37, hc_36, hf⟩ := bnd_at hf
            refine G.callVv (av := [.int v_34]) (rest := []) dX8_takeItem_186 mvX8_66 (gX4_enter E (d + 7) b1 v_34 I_35 hb1 hc_36) (isH_lt hb1) (isH_lk hb1) rfl rfl (Nat.le_of_ble_eq_true rfl) ?_
            refine G.goto (tgt := 255) dX8_takeItem_189 (by decide) ?_
            cases hf
            exact G.vret' dX8_takeItem_255 rfl hK
          · have hf := ite_f hf c_39
            refine G.aload_n dX8_takeItem_168 rfl rfl ?_
            refine G.aload_n dX8_takeItem_169 rfl rfl ?_
            refine G.getI dX8_takeItem_170 flX8_31 (by decide) rfl ?_
            refine G.putI dX8_takeItem_173 flX8_22 (by decide) rfl ?_
            refine G.nmI (fun I_38 e_I_38 => ?_)
            have hf := letb_at hf e_I_38
            clear e_I_38
            refine G.goto (tgt := 255) dX8_takeItem_176 (by decide) ?_
            cases hf
            exact G.vret' dX8_takeItem_255 rfl hK
        · have hf := ite_f hf c_32
          by_cases c_40 : (I 35 2) = 9
          · have hf := ite_t hf c_40
            refine G.tsw_at (j := 9) (tgt := 192) dX8_takeItem_11 c_40 (by decide) (by decide) rfl (by decide) ?_
            refine G.aload_n dX8_takeItem_192 rfl rfl ?_
            refine G.iconst (v := 0) dX8_takeItem_193 (by decide) ?_
            refine G.aload_n dX8_takeItem_194 rfl rfl ?_
            refine G.getI dX8_takeItem_195 flX8_63 (isH_lt hb1) (isH_lk hb1) ?_
            refine G.iconst (v := 1) dX8_takeItem_198 (by decide) ?_
            refine G.isub dX8_takeItem_199 ?_
            obtain ⟨v_42, I_43, hc_41, hf⟩ := bnd2_at hf
            refine G.callVi (av := [.int (0 : Int32), .int ((I b1 2) - (1 : Int32))]) (rest := []) dX8_takeItem_200 mvX8_34 (gX8_takeNumber E d (0 : Int32) ((I b1 2) - (1 : Int32)) I hc_41) (by decide) rfl rfl rfl (Nat.le_of_ble_eq_true rfl) ?_
            refine G.istore (L' := [some (.ref 35), some (.ref b1), some (.int x2_1), none, none, none, some (.int v_42), none]) dX8_takeItem_203 (Nat.le_of_ble_eq_true rfl) (Nat.le_of_ble_eq_true rfl) rfl rfl ?_
            refine G.iload dX8_takeItem_205 rfl ?_
            refine G.aload_n dX8_takeItem_207 rfl rfl ?_
            refine G.iconst (v := 1) dX8_takeItem_208 (by decide) ?_
            refine G.iconst (v := 4) dX8_takeItem_209 (by decide) ?_
            obtain ⟨v_45, I_46, hc_44, hf⟩ := bnd2_at hf
            refine G.callVi (av := [.int (1 : Int32), .int (4 : Int32)]) (rest := [.int v_42]) dX8_takeItem_210 mvX8_34 (gX8_takeNumber E d (1 : Int32) (4 : Int32) I_43 hc_44) (by decide) rfl rfl rfl (Nat.le_of_ble_eq_true rfl) ?_
            obtain ⟨v_48, hc_47, hf⟩ := bnd_at hf
            refine G.callNi (av := [.int v_42, .int v_45]) (rest := []) dX8_takeItem_213 mnX8_69 (gX11_wishPlace E (d + 7) v_42 v_45 I_46 hc_47) rfl rfl (Nat.le_of_ble_eq_true rfl) ?_
            refine G.istore (L' := [some (.ref 35), some (.ref b1), some (.int x2_1), none, none, none, some (.int v_42), some (.int v_48)]) dX8_takeItem_216 (Nat.le_of_ble_eq_true rfl) (Nat.le_of_ble_eq_true rfl) rfl rfl ?_
            refine G.aload_n dX8_takeItem_218 rfl rfl ?_
            refine G.getR (q := (b1 + 5)) dX8_takeItem_219 flX8_72 (isH_lt hb1) (isH_lk hb1) (isH_r5 hb1) ?_
            refine G.iload dX8_takeItem_222 rfl ?_
            refine G.aload_n dX8_takeItem_224 rfl rfl ?_
            refine G.iconst (v := 0) dX8_takeItem_225 (by decide) ?_
            refine G.iload_n dX8_takeItem_226 rfl rfl ?_
            obtain ⟨v_50, I_51, hc_49, hf⟩ := bnd2_at hf
            refine G.callVi (av := [.int (0 : Int32), .int x2_1]) (rest := [.int v_48, .ref (b1 + 5)]) dX8_takeItem_227 mvX8_34 (gX8_takeNumber E d (0 : Int32) x2_1 I_46 hc_49) (by decide) rfl rfl rfl (Nat.le_of_ble_eq_true rfl) ?_
            obtain ⟨hi_52, hf⟩ := chk_at hf
            refine G.iast' dX8_takeItem_230 (isH_l5 hb1) (isH_k5 hb1) (isH_n5 hb1) hi_52 ?_
            refine G.nmI (fun I_53 e_I_53 => ?_)
            have hf := letb_at hf e_I_53
            clear e_I_53
            refine G.goto (tgt := 255) dX8_takeItem_231 (by decide) ?_
            cases hf
            exact G.vret' dX8_takeItem_255 rfl hK
          · have hf := ite_f hf c_40
            by_cases c_54 : (I 35 2) = 10
            · have hf := ite_t hf c_54
              refine G.tsw_at (j := 10) (tgt := 234) dX8_takeItem_11 c_54 (by decide) (by decide) rfl (by decide) ?_
              refine G.aload_n dX8_takeItem_234 rfl rfl ?_
              refine G.aload_n dX8_takeItem_235 rfl rfl ?_
              refine G.iconst (v := 0) dX8_takeItem_236 (by decide) ?_
              refine G.iconst (v := 4) dX8_takeItem_237 (by decide) ?_
              obtain ⟨v_56, I_57, hc_55, hf⟩ := bnd2_at hf
              refine G.callVi (av := [.int (0 : Int32), .int (4 : Int32)]) (rest := [.ref b1]) dX8_takeItem_238 mvX8_34 (gX8_takeNumber E d (0 : Int32) (4 : Int32) I hc_55) (by decide) rfl rfl rfl (Nat.le_of_ble_eq_true rfl) ?_
              refine G.putI dX8_takeItem_241 flX8_75 (isH_lt hb1) (isH_lk hb1) ?_
              refine G.nmI (fun I_58 e_I_58 => ?_)
              have hf := letb_at hf e_I_58
              clear e_I_58
              refine G.goto (tgt := 255) dX8_takeItem_244 (by decide) ?_
              cases hf
              exact G.vret' dX8_takeItem_255 rfl hK
            · have hf := ite_f hf c_54
              refine G.tsw_out (tgt := 247) dX8_takeItem_11 (by have q5 := lv_neT (a := 5) c_2 rfl; have q6 := lv_neT (a := 6) c_18 rfl; have q7 := lv_neT (a := 7) c_23 rfl; have q8 := lv_neT (a := 8) c_32 rfl; have q9 := lv_neT (a := 9) c_40 rfl; have q10 := lv_neT (a := 10) c_54 rfl; omega) (by decide) ?_
              refine G.aload_n dX8_takeItem_247 rfl rfl ?_
              refine G.aload_n dX8_takeItem_248 rfl rfl ?_
              refine G.getI dX8_takeItem_249 flX8_31 (by decide) rfl ?_
              refine G.putI dX8_takeItem_252 flX8_22 (by decide) rfl ?_
              refine G.nmI (fun I_59 e_I_59 => ?_)
              have hf := letb_at hf e_I_59
              clear e_I_59
              cases hf
              exact G.vret' dX8_takeItem_255 rfl hK
theorem dX8_parse_0 : decode cX8_parse 0 = .ok (.aload_n 0, 1) := by decide +kernel
theorem dX8_parse_1 : decode cX8_parse 1 = .ok (.iconst 0, 1) := by decide +kernel
theorem dX8_parse_2 : decode cX8_parse 2 = .ok (.putfield 19, 3) := by decide +kernel
theorem dX8_parse_5 : decode cX8_parse 5 = .ok (.aload_n 0, 1) := by decide +kernel
theorem dX8_parse_6 : decode cX8_parse 6 = .ok (.iconst (-1), 1) := by decide +kernel
theorem dX8_parse_7 : decode cX8_parse 7 = .ok (.putfield 22, 3) := by decide +kernel
theorem dX8_parse_10 : decode cX8_parse 10 = .ok (.aload_n 0, 1) := by decide +kernel
theorem dX8_parse_11 : decode cX8_parse 11 = .ok (.invokevirtual 25, 3) := by decide +kernel
theorem dX8_parse_14 : decode cX8_parse 14 = .ok (.aload_n 0, 1) := by decide +kernel
theorem dX8_parse_15 : decode cX8_parse 15 = .ok (.getfield 28, 3) := by decide +kernel
theorem dX8_parse_18 : decode cX8_parse 18 = .ok (.iconst 4, 1) := by decide +kernel
theorem dX8_parse_19 : decode cX8_parse 19 = .ok (.if_icmp .eq 8, 3) := by decide +kernel
theorem dX8_parse_22 : decode cX8_parse 22 = .ok (.aload_n 0, 1) := by decide +kernel
theorem dX8_parse_23 : decode cX8_parse 23 = .ok (.getfield 31, 3) := by decide +kernel
theorem dX8_parse_26 : decode cX8_parse 26 = .ok (.ireturn, 1) := by decide +kernel
theorem dX8_parse_27 : decode cX8_parse 27 = .ok (.aload_n 1, 1) := by decide +kernel
theorem dX8_parse_28 : decode cX8_parse 28 = .ok (.aload_n 0, 1) := by decide +kernel
theorem dX8_parse_29 : decode cX8_parse 29 = .ok (.iconst 1, 1) := by decide +kernel
theorem dX8_parse_30 : decode cX8_parse 30 = .ok (.iconst 5, 1) := by decide +kernel
theorem dX8_parse_31 : decode cX8_parse 31 = .ok (.invokevirtual 34, 3) := by decide +kernel
theorem dX8_parse_34 : decode cX8_parse 34 = .ok (.invokevirtual 38, 3) := by decide +kernel
theorem dX8_parse_37 : decode cX8_parse 37 = .ok (.aload_n 0, 1) := by decide +kernel
theorem dX8_parse_38 : decode cX8_parse 38 = .ok (.invokevirtual 44, 3) := by decide +kernel
theorem dX8_parse_41 : decode cX8_parse 41 = .ok (.iconst 0, 1) := by decide +kernel
theorem dX8_parse_42 : decode cX8_parse 42 = .ok (.istore_n 2, 1) := by decide +kernel
theorem dX8_parse_43 : decode cX8_parse 43 = .ok (.iload_n 2, 1) := by decide +kernel
theorem dX8_parse_44 : decode cX8_parse 44 = .ok (.aload_n 0, 1) := by decide +kernel
theorem dX8_parse_45 : decode cX8_parse 45 = .ok (.getfield 15, 3) := by decide +kernel
theorem dX8_parse_48 : decode cX8_parse 48 = .ok (.if_icmp .ge 39, 3) := by decide +kernel
theorem dX8_parse_51 : decode cX8_parse 51 = .ok (.aload_n 0, 1) := by decide +kernel
theorem dX8_parse_52 : decode cX8_parse 52 = .ok (.getfield 22, 3) := by decide +kernel
theorem dX8_parse_55 : decode cX8_parse 55 = .ok (.iconst (-1), 1) := by decide +kernel
theorem dX8_parse_56 : decode cX8_parse 56 = .ok (.if_icmp .ne 31, 3) := by decide +kernel
theorem dX8_parse_59 : decode cX8_parse 59 = .ok (.aload_n 0, 1) := by decide +kernel
theorem dX8_parse_60 : decode cX8_parse 60 = .ok (.invokevirtual 25, 3) := by decide +kernel
theorem dX8_parse_63 : decode cX8_parse 63 = .ok (.aload_n 0, 1) := by decide +kernel
theorem dX8_parse_64 : decode cX8_parse 64 = .ok (.getfield 28, 3) := by decide +kernel
theorem dX8_parse_67 : decode cX8_parse 67 = .ok (.ifCond .ne 5, 3) := by decide +kernel
theorem dX8_parse_70 : decode cX8_parse 70 = .ok (.iconst (-1), 1) := by decide +kernel
theorem dX8_parse_71 : decode cX8_parse 71 = .ok (.ireturn, 1) := by decide +kernel
theorem dX8_parse_72 : decode cX8_parse 72 = .ok (.aload_n 0, 1) := by decide +kernel
theorem dX8_parse_73 : decode cX8_parse 73 = .ok (.aload_n 1, 1) := by decide +kernel
theorem dX8_parse_74 : decode cX8_parse 74 = .ok (.invokevirtual 47, 3) := by decide +kernel
theorem dX8_parse_77 : decode cX8_parse 77 = .ok (.aload_n 0, 1) := by decide +kernel
theorem dX8_parse_78 : decode cX8_parse 78 = .ok (.invokevirtual 44, 3) := by decide +kernel
theorem dX8_parse_81 : decode cX8_parse 81 = .ok (.iinc 2 1, 3) := by decide +kernel
theorem dX8_parse_84 : decode cX8_parse 84 = .ok (.goto (-41), 3) := by decide +kernel
theorem dX8_parse_87 : decode cX8_parse 87 = .ok (.aload_n 0, 1) := by decide +kernel
theorem dX8_parse_88 : decode cX8_parse 88 = .ok (.getfield 22, 3) := by decide +kernel
theorem dX8_parse_91 : decode cX8_parse 91 = .ok (.ireturn, 1) := by decide +kernel
def KX8_parse_43 (E : EV) (d : Nat) (rr : Option Value × Mem) (b1 : Nat) (Kp : (Int32 × Mem) → Prop) : ((Int32 × Mem) ⊕ (Int32 × Mem)) → Prop
  | .inl q => G E (d + 9) kX8_parse 43 [some (.ref 35), some (.ref b1), some (.int q.1)] [] q.2 rr
  | .inr z => Kp z
def bX8_parse_43 (b1 : Nat) (x2 : Int32) (I : Mem) : Option ((Int32 × Mem) ⊕ (Int32 × Mem)) :=
  if (I 35 0) ≤ x2 then
  (some (.inr ((I 35 6), I)))
  else
  (if (I 35 6) = (-1 : Int32) then
  (bnd (fX8_advance I) fun I_13 =>
  if (I_13 35 2) = 0 then
  (some (.inr ((-1 : Int32), I_13)))
  else
  (bnd (fX8_takeItem b1 I_13) fun I_15 =>
  bnd (fX8_takeStop I_15) fun I_17 =>
  some (.inl ((x2 + (1 : Int32)), I_17))))
  else
  (some (.inr ((I 35 6), I))))
def sX8_parse_43 (b1 : Nat) (q : (Int32 × Mem)) : Option ((Int32 × Mem) ⊕ (Int32 × Mem)) := bX8_parse_43 b1 q.1 q.2
set_option maxRecDepth 20000 in
theorem wX8_parse_43 (E : EV) (d : Nat) (rr : Option Value × Mem) (b1 : Nat) (x2 : Int32) (I : Mem) (hb1 : isH b1) (y : ((Int32 × Mem) ⊕ (Int32 × Mem))) (hf : bX8_parse_43 b1 x2 I = some y) (hK : (KX8_parse_43 E d rr b1 (fun (z : Int32 × Mem) => (some (.int z.1), z.2) = rr)) y) : G E (d + 9) kX8_parse 43 [some (.ref 35), some (.ref b1), some (.int x2)] [] I rr := by
  unfold bX8_parse_43 at hf
  refine G.iload_n dX8_parse_43 rfl rfl ?_
  refine G.aload_n dX8_parse_44 rfl rfl ?_
  refine G.getI dX8_parse_45 flX8_15 (by decide) rfl ?_
  refine G.icmp_ge (tgt := 87) dX8_parse_48 (by decide) (fun c_20 => ?_) (fun c_20 => ?_)
  · have hf := ite_t hf c_20
    refine G.aload_n dX8_parse_87 rfl rfl ?_
    refine G.getI dX8_parse_88 flX8_22 (by decide) rfl ?_
    cases hf
    exact G.iret' dX8_parse_91 rfl hK
  · have hf := ite_f hf c_20
    refine G.aload_n dX8_parse_51 rfl rfl ?_
    refine G.getI dX8_parse_52 flX8_22 (by decide) rfl ?_
    refine G.iconst (v := -1) dX8_parse_55 (by decide) ?_
    refine G.icmp_ne (tgt := 87) dX8_parse_56 (by decide) (fun c_19 => ?_) (fun c_19 => ?_)
    · have hf := ite_f hf c_19
      refine G.aload_n dX8_parse_87 rfl rfl ?_
      refine G.getI dX8_parse_88 flX8_22 (by decide) rfl ?_
      cases hf
      exact G.iret' dX8_parse_91 rfl hK
    · have hf := ite_t hf c_19
      refine G.aload_n dX8_parse_59 rfl rfl ?_
      obtain ⟨I_13, hc_12, hf⟩ := bnd_at hf
      refine G.callVv (av := []) (rest := []) dX8_parse_60 mvX8_25 (gX8_advance E (d + 2) I hc_12) (by decide) rfl rfl rfl (Nat.le_of_ble_eq_true rfl) ?_
      refine G.aload_n dX8_parse_63 rfl rfl ?_
      refine G.getI dX8_parse_64 flX8_28 (by decide) rfl ?_
      refine G.if_ne (tgt := 72) dX8_parse_67 (by decide) (fun c_18 => ?_) (fun c_18 => ?_)
      · have hf := ite_f hf c_18
        refine G.aload_n dX8_parse_72 rfl rfl ?_
        refine G.aload_n dX8_parse_73 rfl rfl ?_
        obtain ⟨I_15, hc_14, hf⟩ := bnd_at hf
        refine G.callVv (av := [.ref b1]) (rest := []) dX8_parse_74 mvX8_47 (gX8_takeItem E d b1 I_13 hb1 hc_14) (by decide) rfl rfl rfl (Nat.le_of_ble_eq_true rfl) ?_
        refine G.aload_n dX8_parse_77 rfl rfl ?_
        obtain ⟨I_17, hc_16, hf⟩ := bnd_at hf
        refine G.callVv (av := []) (rest := []) dX8_parse_78 mvX8_44 (gX8_takeStop E (d + 1) I_15 hc_16) (by decide) rfl rfl rfl (Nat.le_of_ble_eq_true rfl) ?_
        refine G.inc (w := 1) (L' := [some (.ref 35), some (.ref b1), some (.int (x2 + (1 : Int32)))]) dX8_parse_81 (by decide) rfl (Nat.le_of_ble_eq_true rfl) rfl rfl ?_
        refine G.goto (tgt := 43) dX8_parse_84 (by decide) ?_
        cases hf
        exact hK
      · have hf := ite_t hf c_18
        refine G.iconst (v := -1) dX8_parse_70 (by decide) ?_
        cases hf
        exact G.iret' dX8_parse_71 rfl hK
theorem lX8_parse_43 (E : EV) (d : Nat) (rr : Option Value × Mem) (b1 : Nat) (hb1 : isH b1) (z : (Int32 × Mem)) (hK : (fun (z : Int32 × Mem) => (some (.int z.1), z.2) = rr) z) : ∀ (n : Nat) (q : (Int32 × Mem)), iter (sX8_parse_43 b1) n q = some z → G E (d + 9) kX8_parse 43 [some (.ref 35), some (.ref b1), some (.int q.1)] [] q.2 rr := by
  intro n
  induction n with
  | zero => intro q h; cases h
  | succ n ih =>
    intro q h
    rcases iter_at h with ⟨q2, hs, h2⟩ | hs
    · exact wX8_parse_43 E d rr b1 q.1 q.2 hb1 _ hs (ih q2 h2)
    · exact wX8_parse_43 E d rr b1 q.1 q.2 hb1 _ hs hK
def fX8_parse (b1 : Nat) (I : Mem) : Option (Int32 × Mem) :=
  letb (up2 I 35 4 (0 : Int32)) fun I_1 =>
  letb (up2 I_1 35 6 (-1 : Int32)) fun I_2 =>
  bnd (fX8_advance I_2) fun I_4 =>
  if (I_4 35 2) = (4 : Int32) then
  (bnd2 (fX8_takeNumber (1 : Int32) (5 : Int32) I_4) fun v_6 I_7 =>
  bnd (fX4_empty b1 v_6 I_7) fun I_9 =>
  bnd (fX8_takeStop I_9) fun I_11 =>
  iter (sX8_parse_43 b1) FU ((0 : Int32), I_11))
  else
  (some ((I_4 35 3), I_4))
set_option maxRecDepth 20000 in
theorem gX8_parse (E : EV) (d : Nat) (b1 : Nat) (I : Mem) (hb1 : isH b1) {v : Int32} {J : Mem} (hf : fX8_parse b1 I = some (v, J)) : Gm E (d + 9) kX8_parse [.ref 35, .ref b1] I (some (.int v), J) := by
  refine Gm.of (by decide) rfl (Nat.le_of_ble_eq_true rfl) ?_
  generalize hrr : ((some (.int v), J) : Option Value × Mem) = rr
  show G E (d + 9) kX8_parse 0 [some (.ref 35), some (.ref b1), none] [] I rr
  have hK : (fun (z : Int32 × Mem) => (some (.int z.1), z.2) = rr) (v, J) := hrr
  clear hrr
  unfold fX8_parse at hf
  refine G.aload_n dX8_parse_0 rfl rfl ?_
  refine G.iconst (v := 0) dX8_parse_1 (by decide) ?_
  refine G.putI dX8_parse_2 flX8_19 (by decide) rfl ?_
  refine G.nmI (fun I_1 e_I_1 => ?_)
  have hf := letb_at hf e_I_1
  clear e_I_1
  refine G.aload_n dX8_parse_5 rfl rfl ?_
  refine G.iconst (v := -1) dX8_parse_6 (by decide) ?_
  refine G.putI dX8_parse_7 flX8_22 (by decide) rfl ?_
  refine G.nmI (fun I_2 e_I_2 => ?_)
  have hf := letb_at hf e_I_2
  clear e_I_2
  refine G.aload_n dX8_parse_10 rfl rfl ?_
  obtain ⟨I_4, hc_3, hf⟩ := bnd_at hf
  refine G.callVv (av := []) (rest := []) dX8_parse_11 mvX8_25 (gX8_advance E (d + 2) I_2 hc_3) (by decide) rfl rfl rfl (Nat.le_of_ble_eq_true rfl) ?_
  refine G.aload_n dX8_parse_14 rfl rfl ?_
  refine G.getI dX8_parse_15 flX8_28 (by decide) rfl ?_
  refine G.iconst (v := 4) dX8_parse_18 (by decide) ?_
  refine G.icmp_eq (tgt := 27) dX8_parse_19 (by decide) (fun c_21 => ?_) (fun c_21 => ?_)
  · have hf := ite_t hf c_21
    refine G.aload_n dX8_parse_27 rfl rfl ?_
    refine G.aload_n dX8_parse_28 rfl rfl ?_
    refine G.iconst (v := 1) dX8_parse_29 (by decide) ?_
    refine G.iconst (v := 5) dX8_parse_30 (by decide) ?_
    obtain ⟨v_6, I_7, hc_5, hf⟩ := bnd2_at hf
    refine G.callVi (av := [.int (1 : Int32), .int (5 : Int32)]) (rest := [.ref b1]) dX8_parse_31 mvX8_34 (gX8_takeNumber E (d + 1) (1 : Int32) (5 : Int32) I_4 hc_5) (by decide) rfl rfl rfl (Nat.le_of_ble_eq_true rfl) ?_
    obtain ⟨I_9, hc_8, hf⟩ := bnd_at hf
    refine G.callVv (av := [.int v_6]) (rest := []) dX8_parse_34 mvX8_38 (gX4_empty E (d + 7) b1 v_6 I_7 hb1 hc_8) (isH_lt hb1) (isH_lk hb1) rfl rfl (Nat.le_of_ble_eq_true rfl) ?_
    refine G.aload_n dX8_parse_37 rfl rfl ?_
    obtain ⟨I_11, hc_10, hf⟩ := bnd_at hf
    refine G.callVv (av := []) (rest := []) dX8_parse_38 mvX8_44 (gX8_takeStop E (d + 1) I_9 hc_10) (by decide) rfl rfl rfl (Nat.le_of_ble_eq_true rfl) ?_
    refine G.iconst (v := 0) dX8_parse_41 (by decide) ?_
    refine G.istore_n (L' := [some (.ref 35), some (.ref b1), some (.int (0 : Int32))]) dX8_parse_42 rfl (Nat.le_of_ble_eq_true rfl) (Nat.le_of_ble_eq_true rfl) rfl rfl ?_
    exact lX8_parse_43 E d rr b1 hb1 _ hK FU _ hf
  · have hf := ite_f hf c_21
    refine G.aload_n dX8_parse_22 rfl rfl ?_
    refine G.getI dX8_parse_23 flX8_31 (by decide) rfl ?_
    cases hf
    exact G.iret' dX8_parse_26 rfl hK
end
