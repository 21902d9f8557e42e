section
-- ===== PART A: goes FIRST, ahead of the names: the tables' words, and 'selects' of the private methods out of them =====
/-- a private method of a class that the tables say can be made, by its rows of tables_1 -/
def lw_okq (q : MethodName × Nat) : Prop := (q.1.cls ≠ "java/lang/invoke/MethodHandle" ∧ q.1.cls ≠ "java/lang/invoke/VarHandle") ∧ Cond.instantiable q.1.cls q.2 ∈ tables_1 ∧ Cond.privateMethod q.1 ∈ tables_1 ∧ Cond.instanceMethod q.1 ∈ tables_1
theorem lw_p0 : lw_okq (⟨"AloneRooms", "refuse", "(I)I"⟩, 13) := ⟨⟨by decide +kernel, by decide +kernel⟩, List.mem_of_getElem? (i := 23) (by decide +kernel), List.mem_of_getElem? (i := 354) (by decide +kernel), List.mem_of_getElem? (i := 355) (by decide +kernel)⟩
theorem lw_p1 : lw_okq (⟨"AloneRooms", "isRoom", "(I)Z"⟩, 13) := ⟨⟨by decide +kernel, by decide +kernel⟩, List.mem_of_getElem? (i := 23) (by decide +kernel), List.mem_of_getElem? (i := 366) (by decide +kernel), List.mem_of_getElem? (i := 367) (by decide +kernel)⟩
theorem lw_p2 : lw_okq (⟨"AloneRooms", "isLaw", "(I)Z"⟩, 13) := ⟨⟨by decide +kernel, by decide +kernel⟩, List.mem_of_getElem? (i := 23) (by decide +kernel), List.mem_of_getElem? (i := 393) (by decide +kernel), List.mem_of_getElem? (i := 394) (by decide +kernel)⟩
theorem lw_p3 : lw_okq (⟨"AloneRooms", "isPerson", "(I)Z"⟩, 13) := ⟨⟨by decide +kernel, by decide +kernel⟩, List.mem_of_getElem? (i := 23) (by decide +kernel), List.mem_of_getElem? (i := 401) (by decide +kernel), List.mem_of_getElem? (i := 402) (by decide +kernel)⟩
theorem lw_p4 : lw_okq (⟨"AloneRooms$Text", "advance", "()V"⟩, 7) := ⟨⟨by decide +kernel, by decide +kernel⟩, List.mem_of_getElem? (i := 120) (by decide +kernel), List.mem_of_getElem? (i := 428) (by decide +kernel), List.mem_of_getElem? (i := 429) (by decide +kernel)⟩
theorem lw_p5 : lw_okq (⟨"AloneRooms$Text", "isWithin", "(ICC)Z"⟩, 7) := ⟨⟨by decide +kernel, by decide +kernel⟩, List.mem_of_getElem? (i := 120) (by decide +kernel), List.mem_of_getElem? (i := 432) (by decide +kernel), List.mem_of_getElem? (i := 433) (by decide +kernel)⟩
theorem lw_p6 : lw_okq (⟨"AloneRooms$Text", "endOf", "(CC)I"⟩, 7) := ⟨⟨by decide +kernel, by decide +kernel⟩, List.mem_of_getElem? (i := 120) (by decide +kernel), List.mem_of_getElem? (i := 436) (by decide +kernel), List.mem_of_getElem? (i := 437) (by decide +kernel)⟩
theorem lw_p7 : lw_okq (⟨"AloneRooms$Text", "wordToken", "()I"⟩, 7) := ⟨⟨by decide +kernel, by decide +kernel⟩, List.mem_of_getElem? (i := 120) (by decide +kernel), List.mem_of_getElem? (i := 440) (by decide +kernel), List.mem_of_getElem? (i := 441) (by decide +kernel)⟩
theorem lw_p8 : lw_okq (⟨"AloneRooms$Text", "spells", "(Ljava/lang/String;)Z"⟩, 7) := ⟨⟨by decide +kernel, by decide +kernel⟩, List.mem_of_getElem? (i := 120) (by decide +kernel), List.mem_of_getElem? (i := 445) (by decide +kernel), List.mem_of_getElem? (i := 446) (by decide +kernel)⟩
theorem lw_p9 : lw_okq (⟨"AloneRooms$Text", "numberToken", "()I"⟩, 7) := ⟨⟨by decide +kernel, by decide +kernel⟩, List.mem_of_getElem? (i := 120) (by decide +kernel), List.mem_of_getElem? (i := 503) (by decide +kernel), List.mem_of_getElem? (i := 504) (by decide +kernel)⟩
theorem lw_p10 : lw_okq (⟨"AloneRooms$Text", "takeNumber", "(II)I"⟩, 7) := ⟨⟨by decide +kernel, by decide +kernel⟩, List.mem_of_getElem? (i := 120) (by decide +kernel), List.mem_of_getElem? (i := 507) (by decide +kernel), List.mem_of_getElem? (i := 508) (by decide +kernel)⟩
theorem lw_p11 : lw_okq (⟨"AloneRooms$Text", "takeStop", "()V"⟩, 7) := ⟨⟨by decide +kernel, by decide +kernel⟩, List.mem_of_getElem? (i := 120) (by decide +kernel), List.mem_of_getElem? (i := 512) (by decide +kernel), List.mem_of_getElem? (i := 513) (by decide +kernel)⟩
theorem lw_p12 : lw_okq (⟨"AloneRooms$Text", "takeItem", "(LAloneRooms$House;)V"⟩, 7) := ⟨⟨by decide +kernel, by decide +kernel⟩, List.mem_of_getElem? (i := 120) (by decide +kernel), List.mem_of_getElem? (i := 516) (by decide +kernel), List.mem_of_getElem? (i := 517) (by decide +kernel)⟩
theorem lw_p13 : lw_okq (⟨"AloneRooms", "isStanding", "(I)Z"⟩, 13) := ⟨⟨by decide +kernel, by decide +kernel⟩, List.mem_of_getElem? (i := 23) (by decide +kernel), List.mem_of_getElem? (i := 534) (by decide +kernel), List.mem_of_getElem? (i := 535) (by decide +kernel)⟩
theorem lw_p14 : lw_okq (⟨"AloneRooms$House", "gather", "(IILAloneRooms$Once;)V"⟩, 15) := ⟨⟨by decide +kernel, by decide +kernel⟩, List.mem_of_getElem? (i := 31) (by decide +kernel), List.mem_of_getElem? (i := 586) (by decide +kernel), List.mem_of_getElem? (i := 587) (by decide +kernel)⟩
theorem lw_p15 : lw_okq (⟨"AloneRooms$Ways", "begin", "()I"⟩, 3) := ⟨⟨by decide +kernel, by decide +kernel⟩, List.mem_of_getElem? (i := 186) (by decide +kernel), List.mem_of_getElem? (i := 671) (by decide +kernel), List.mem_of_getElem? (i := 672) (by decide +kernel)⟩
def lw_privs_1 : List (MethodName × Nat) := [(⟨"AloneRooms", "refuse", "(I)I"⟩, 13), (⟨"AloneRooms", "isRoom", "(I)Z"⟩, 13), (⟨"AloneRooms", "isLaw", "(I)Z"⟩, 13), (⟨"AloneRooms", "isPerson", "(I)Z"⟩, 13), (⟨"AloneRooms$Text", "advance", "()V"⟩, 7), (⟨"AloneRooms$Text", "isWithin", "(ICC)Z"⟩, 7), (⟨"AloneRooms$Text", "endOf", "(CC)I"⟩, 7), (⟨"AloneRooms$Text", "wordToken", "()I"⟩, 7), (⟨"AloneRooms$Text", "spells", "(Ljava/lang/String;)Z"⟩, 7), (⟨"AloneRooms$Text", "numberToken", "()I"⟩, 7), (⟨"AloneRooms$Text", "takeNumber", "(II)I"⟩, 7), (⟨"AloneRooms$Text", "takeStop", "()V"⟩, 7), (⟨"AloneRooms$Text", "takeItem", "(LAloneRooms$House;)V"⟩, 7), (⟨"AloneRooms", "isStanding", "(I)Z"⟩, 13), (⟨"AloneRooms$House", "gather", "(IILAloneRooms$Once;)V"⟩, 15), (⟨"AloneRooms$Ways", "begin", "()I"⟩, 3)]
theorem lw_r1 : ∀ q ∈ lw_privs_1, lw_okq q := List.forall_mem_cons.mpr ⟨lw_p0, List.forall_mem_cons.mpr ⟨lw_p1, List.forall_mem_cons.mpr ⟨lw_p2, List.forall_mem_cons.mpr ⟨lw_p3, List.forall_mem_cons.mpr ⟨lw_p4, List.forall_mem_cons.mpr ⟨lw_p5, List.forall_mem_cons.mpr ⟨lw_p6, List.forall_mem_cons.mpr ⟨lw_p7, List.forall_mem_cons.mpr ⟨lw_p8, List.forall_mem_cons.mpr ⟨lw_p9, List.forall_mem_cons.mpr ⟨lw_p10, List.forall_mem_cons.mpr ⟨lw_p11, List.forall_mem_cons.mpr ⟨lw_p12, List.forall_mem_cons.mpr ⟨lw_p13, List.forall_mem_cons.mpr ⟨lw_p14, List.forall_mem_cons.mpr ⟨lw_p15, fun _ h => absurd h List.not_mem_nil⟩⟩⟩⟩⟩⟩⟩⟩⟩⟩⟩⟩⟩⟩⟩⟩
theorem lw_p16 : lw_okq (⟨"AloneRooms$Evening", "markKeeping", "(I)V"⟩, 11) := ⟨⟨by decide +kernel, by decide +kernel⟩, List.mem_of_getElem? (i := 206) (by decide +kernel), List.mem_of_getElem? (i := 685) (by decide +kernel), List.mem_of_getElem? (i := 686) (by decide +kernel)⟩
theorem lw_p17 : lw_okq (⟨"AloneRooms$Evening", "fillRest", "(I)V"⟩, 11) := ⟨⟨by decide +kernel, by decide +kernel⟩, List.mem_of_getElem? (i := 206) (by decide +kernel), List.mem_of_getElem? (i := 693) (by decide +kernel), List.mem_of_getElem? (i := 694) (by decide +kernel)⟩
theorem lw_p18 : lw_okq (⟨"AloneRooms$Evening", "leastFrom", "(II)I"⟩, 11) := ⟨⟨by decide +kernel, by decide +kernel⟩, List.mem_of_getElem? (i := 206) (by decide +kernel), List.mem_of_getElem? (i := 702) (by decide +kernel), List.mem_of_getElem? (i := 703) (by decide +kernel)⟩
theorem lw_p19 : lw_okq (⟨"AloneRooms$Search", "reach", "(II)V"⟩, 7) := ⟨⟨by decide +kernel, by decide +kernel⟩, List.mem_of_getElem? (i := 251) (by decide +kernel), List.mem_of_getElem? (i := 727) (by decide +kernel), List.mem_of_getElem? (i := 728) (by decide +kernel)⟩
theorem lw_p20 : lw_okq (⟨"AloneRooms$Search", "sideOf", "(I)I"⟩, 7) := ⟨⟨by decide +kernel, by decide +kernel⟩, List.mem_of_getElem? (i := 251) (by decide +kernel), List.mem_of_getElem? (i := 731) (by decide +kernel), List.mem_of_getElem? (i := 732) (by decide +kernel)⟩
theorem lw_p21 : lw_okq (⟨"AloneRooms$Search", "spread", "(II)V"⟩, 7) := ⟨⟨by decide +kernel, by decide +kernel⟩, List.mem_of_getElem? (i := 251) (by decide +kernel), List.mem_of_getElem? (i := 749) (by decide +kernel), List.mem_of_getElem? (i := 750) (by decide +kernel)⟩
theorem lw_p22 : lw_okq (⟨"AloneRooms", "countFits", "(II)I"⟩, 13) := ⟨⟨by decide +kernel, by decide +kernel⟩, List.mem_of_getElem? (i := 23) (by decide +kernel), List.mem_of_getElem? (i := 798) (by decide +kernel), List.mem_of_getElem? (i := 799) (by decide +kernel)⟩
theorem lw_p23 : lw_okq (⟨"AloneRoomsModel", "clearAll", "(I)V"⟩, 18) := ⟨⟨by decide +kernel, by decide +kernel⟩, List.mem_of_getElem? (i := 866) (by decide +kernel), List.mem_of_getElem? (i := 872) (by decide +kernel), List.mem_of_getElem? (i := 873) (by decide +kernel)⟩
theorem lw_p24 : lw_okq (⟨"AloneRoomsModel", "bad", "(I)I"⟩, 18) := ⟨⟨by decide +kernel, by decide +kernel⟩, List.mem_of_getElem? (i := 866) (by decide +kernel), List.mem_of_getElem? (i := 941) (by decide +kernel), List.mem_of_getElem? (i := 942) (by decide +kernel)⟩
theorem lw_p25 : lw_okq (⟨"AloneRoomsModel", "isRoom", "(I)Z"⟩, 18) := ⟨⟨by decide +kernel, by decide +kernel⟩, List.mem_of_getElem? (i := 866) (by decide +kernel), List.mem_of_getElem? (i := 949) (by decide +kernel), List.mem_of_getElem? (i := 950) (by decide +kernel)⟩
theorem lw_p26 : lw_okq (⟨"AloneRoomsModel", "no", "()I"⟩, 18) := ⟨⟨by decide +kernel, by decide +kernel⟩, List.mem_of_getElem? (i := 866) (by decide +kernel), List.mem_of_getElem? (i := 956) (by decide +kernel), List.mem_of_getElem? (i := 957) (by decide +kernel)⟩
theorem lw_p27 : lw_okq (⟨"AloneRoomsModel", "layDoor", "(IIZ)V"⟩, 18) := ⟨⟨by decide +kernel, by decide +kernel⟩, List.mem_of_getElem? (i := 866) (by decide +kernel), List.mem_of_getElem? (i := 960) (by decide +kernel), List.mem_of_getElem? (i := 961) (by decide +kernel)⟩
theorem lw_p28 : lw_okq (⟨"AloneRoomsModel", "full", "()I"⟩, 18) := ⟨⟨by decide +kernel, by decide +kernel⟩, List.mem_of_getElem? (i := 866) (by decide +kernel), List.mem_of_getElem? (i := 977) (by decide +kernel), List.mem_of_getElem? (i := 978) (by decide +kernel)⟩
theorem lw_p29 : lw_okq (⟨"AloneRoomsModel", "addPerson", "(I)I"⟩, 18) := ⟨⟨by decide +kernel, by decide +kernel⟩, List.mem_of_getElem? (i := 866) (by decide +kernel), List.mem_of_getElem? (i := 981) (by decide +kernel), List.mem_of_getElem? (i := 982) (by decide +kernel)⟩
theorem lw_p30 : lw_okq (⟨"AloneRoomsModel", "isPerson", "(I)Z"⟩, 18) := ⟨⟨by decide +kernel, by decide +kernel⟩, List.mem_of_getElem? (i := 866) (by decide +kernel), List.mem_of_getElem? (i := 994) (by decide +kernel), List.mem_of_getElem? (i := 995) (by decide +kernel)⟩
theorem lw_p31 : lw_okq (⟨"AloneRoomsModel", "fault", "()I"⟩, 18) := ⟨⟨by decide +kernel, by decide +kernel⟩, List.mem_of_getElem? (i := 866) (by decide +kernel), List.mem_of_getElem? (i := 1012) (by decide +kernel), List.mem_of_getElem? (i := 1013) (by decide +kernel)⟩
def lw_privs_2 : List (MethodName × Nat) := [(⟨"AloneRooms$Evening", "markKeeping", "(I)V"⟩, 11), (⟨"AloneRooms$Evening", "fillRest", "(I)V"⟩, 11), (⟨"AloneRooms$Evening", "leastFrom", "(II)I"⟩, 11), (⟨"AloneRooms$Search", "reach", "(II)V"⟩, 7), (⟨"AloneRooms$Search", "sideOf", "(I)I"⟩, 7), (⟨"AloneRooms$Search", "spread", "(II)V"⟩, 7), (⟨"AloneRooms", "countFits", "(II)I"⟩, 13), (⟨"AloneRoomsModel", "clearAll", "(I)V"⟩, 18), (⟨"AloneRoomsModel", "bad", "(I)I"⟩, 18), (⟨"AloneRoomsModel", "isRoom", "(I)Z"⟩, 18), (⟨"AloneRoomsModel", "no", "()I"⟩, 18), (⟨"AloneRoomsModel", "layDoor", "(IIZ)V"⟩, 18), (⟨"AloneRoomsModel", "full", "()I"⟩, 18), (⟨"AloneRoomsModel", "addPerson", "(I)I"⟩, 18), (⟨"AloneRoomsModel", "isPerson", "(I)Z"⟩, 18), (⟨"AloneRoomsModel", "fault", "()I"⟩, 18)]
theorem lw_r2 : ∀ q ∈ lw_privs_2, lw_okq q := List.forall_mem_cons.mpr ⟨lw_p16, List.forall_mem_cons.mpr ⟨lw_p17, List.forall_mem_cons.mpr ⟨lw_p18, List.forall_mem_cons.mpr ⟨lw_p19, List.forall_mem_cons.mpr ⟨lw_p20, List.forall_mem_cons.mpr ⟨lw_p21, List.forall_mem_cons.mpr ⟨lw_p22, List.forall_mem_cons.mpr ⟨lw_p23, List.forall_mem_cons.mpr ⟨lw_p24, List.forall_mem_cons.mpr ⟨lw_p25, List.forall_mem_cons.mpr ⟨lw_p26, List.forall_mem_cons.mpr ⟨lw_p27, List.forall_mem_cons.mpr ⟨lw_p28, List.forall_mem_cons.mpr ⟨lw_p29, List.forall_mem_cons.mpr ⟨lw_p30, List.forall_mem_cons.mpr ⟨lw_p31, fun _ h => absurd h List.not_mem_nil⟩⟩⟩⟩⟩⟩⟩⟩⟩⟩⟩⟩⟩⟩⟩⟩
theorem lw_p32 : lw_okq (⟨"AloneRoomsModel", "token", "()V"⟩, 18) := ⟨⟨by decide +kernel, by decide +kernel⟩, List.mem_of_getElem? (i := 866) (by decide +kernel), List.mem_of_getElem? (i := 1016) (by decide +kernel), List.mem_of_getElem? (i := 1017) (by decide +kernel)⟩
theorem lw_p33 : lw_okq (⟨"AloneRoomsModel", "readsItem", "()Z"⟩, 18) := ⟨⟨by decide +kernel, by decide +kernel⟩, List.mem_of_getElem? (i := 866) (by decide +kernel), List.mem_of_getElem? (i := 1023) (by decide +kernel), List.mem_of_getElem? (i := 1024) (by decide +kernel)⟩
theorem lw_p34 : lw_okq (⟨"AloneRoomsModel", "wordOf", "()I"⟩, 18) := ⟨⟨by decide +kernel, by decide +kernel⟩, List.mem_of_getElem? (i := 866) (by decide +kernel), List.mem_of_getElem? (i := 1027) (by decide +kernel), List.mem_of_getElem? (i := 1028) (by decide +kernel)⟩
theorem lw_p35 : lw_okq (⟨"AloneRoomsModel", "isWord", "(II)Z"⟩, 18) := ⟨⟨by decide +kernel, by decide +kernel⟩, List.mem_of_getElem? (i := 866) (by decide +kernel), List.mem_of_getElem? (i := 1032) (by decide +kernel), List.mem_of_getElem? (i := 1033) (by decide +kernel)⟩
theorem lw_p36 : lw_okq (⟨"AloneRoomsModel", "readsRest", "(I)Z"⟩, 18) := ⟨⟨by decide +kernel, by decide +kernel⟩, List.mem_of_getElem? (i := 866) (by decide +kernel), List.mem_of_getElem? (i := 1040) (by decide +kernel), List.mem_of_getElem? (i := 1041) (by decide +kernel)⟩
theorem lw_p37 : lw_okq (⟨"AloneRoomsModel", "reads", "(IIII)Z"⟩, 18) := ⟨⟨by decide +kernel, by decide +kernel⟩, List.mem_of_getElem? (i := 866) (by decide +kernel), List.mem_of_getElem? (i := 1044) (by decide +kernel), List.mem_of_getElem? (i := 1045) (by decide +kernel)⟩
theorem lw_p38 : lw_okq (⟨"AloneRoomsModel", "tell", "(I)V"⟩, 18) := ⟨⟨by decide +kernel, by decide +kernel⟩, List.mem_of_getElem? (i := 866) (by decide +kernel), List.mem_of_getElem? (i := 1048) (by decide +kernel), List.mem_of_getElem? (i := 1049) (by decide +kernel)⟩
theorem lw_p39 : lw_okq (⟨"AloneRoomsModel", "isStanding", "(I)Z"⟩, 18) := ⟨⟨by decide +kernel, by decide +kernel⟩, List.mem_of_getElem? (i := 866) (by decide +kernel), List.mem_of_getElem? (i := 1056) (by decide +kernel), List.mem_of_getElem? (i := 1057) (by decide +kernel)⟩
theorem lw_p40 : lw_okq (⟨"AloneRoomsModel", "now", "()I"⟩, 18) := ⟨⟨by decide +kernel, by decide +kernel⟩, List.mem_of_getElem? (i := 866) (by decide +kernel), List.mem_of_getElem? (i := 1063) (by decide +kernel), List.mem_of_getElem? (i := 1064) (by decide +kernel)⟩
theorem lw_p41 : lw_okq (⟨"AloneRoomsModel", "mayGo", "(II)Z"⟩, 18) := ⟨⟨by decide +kernel, by decide +kernel⟩, List.mem_of_getElem? (i := 866) (by decide +kernel), List.mem_of_getElem? (i := 1067) (by decide +kernel), List.mem_of_getElem? (i := 1068) (by decide +kernel)⟩
theorem lw_p42 : lw_okq (⟨"AloneRoomsModel", "tryBeat", "(II)I"⟩, 18) := ⟨⟨by decide +kernel, by decide +kernel⟩, List.mem_of_getElem? (i := 866) (by decide +kernel), List.mem_of_getElem? (i := 1071) (by decide +kernel), List.mem_of_getElem? (i := 1072) (by decide +kernel)⟩
theorem lw_p43 : lw_okq (⟨"AloneRoomsModel", "lays", "(IIIII)Z"⟩, 18) := ⟨⟨by decide +kernel, by decide +kernel⟩, List.mem_of_getElem? (i := 866) (by decide +kernel), List.mem_of_getElem? (i := 1075) (by decide +kernel), List.mem_of_getElem? (i := 1076) (by decide +kernel)⟩
theorem lw_p44 : lw_okq (⟨"AloneRoomsModel", "isAlone", "(II)Z"⟩, 18) := ⟨⟨by decide +kernel, by decide +kernel⟩, List.mem_of_getElem? (i := 866) (by decide +kernel), List.mem_of_getElem? (i := 1079) (by decide +kernel), List.mem_of_getElem? (i := 1080) (by decide +kernel)⟩
theorem lw_p45 : lw_okq (⟨"AloneRoomsModel", "gather", "(III)V"⟩, 18) := ⟨⟨by decide +kernel, by decide +kernel⟩, List.mem_of_getElem? (i := 866) (by decide +kernel), List.mem_of_getElem? (i := 1083) (by decide +kernel), List.mem_of_getElem? (i := 1084) (by decide +kernel)⟩
theorem lw_p46 : lw_okq (⟨"AloneRoomsModel", "eldest", "(IIIIZ)I"⟩, 18) := ⟨⟨by decide +kernel, by decide +kernel⟩, List.mem_of_getElem? (i := 866) (by decide +kernel), List.mem_of_getElem? (i := 1087) (by decide +kernel), List.mem_of_getElem? (i := 1088) (by decide +kernel)⟩
theorem lw_p47 : lw_okq (⟨"AloneRoomsModel", "keepPast", "()V"⟩, 18) := ⟨⟨by decide +kernel, by decide +kernel⟩, List.mem_of_getElem? (i := 866) (by decide +kernel), List.mem_of_getElem? (i := 1091) (by decide +kernel), List.mem_of_getElem? (i := 1092) (by decide +kernel)⟩
def lw_privs_3 : List (MethodName × Nat) := [(⟨"AloneRoomsModel", "token", "()V"⟩, 18), (⟨"AloneRoomsModel", "readsItem", "()Z"⟩, 18), (⟨"AloneRoomsModel", "wordOf", "()I"⟩, 18), (⟨"AloneRoomsModel", "isWord", "(II)Z"⟩, 18), (⟨"AloneRoomsModel", "readsRest", "(I)Z"⟩, 18), (⟨"AloneRoomsModel", "reads", "(IIII)Z"⟩, 18), (⟨"AloneRoomsModel", "tell", "(I)V"⟩, 18), (⟨"AloneRoomsModel", "isStanding", "(I)Z"⟩, 18), (⟨"AloneRoomsModel", "now", "()I"⟩, 18), (⟨"AloneRoomsModel", "mayGo", "(II)Z"⟩, 18), (⟨"AloneRoomsModel", "tryBeat", "(II)I"⟩, 18), (⟨"AloneRoomsModel", "lays", "(IIIII)Z"⟩, 18), (⟨"AloneRoomsModel", "isAlone", "(II)Z"⟩, 18), (⟨"AloneRoomsModel", "gather", "(III)V"⟩, 18), (⟨"AloneRoomsModel", "eldest", "(IIIIZ)I"⟩, 18), (⟨"AloneRoomsModel", "keepPast", "()V"⟩, 18)]
theorem lw_r3 : ∀ q ∈ lw_privs_3, lw_okq q := List.forall_mem_cons.mpr ⟨lw_p32, List.forall_mem_cons.mpr ⟨lw_p33, List.forall_mem_cons.mpr ⟨lw_p34, List.forall_mem_cons.mpr ⟨lw_p35, List.forall_mem_cons.mpr ⟨lw_p36, List.forall_mem_cons.mpr ⟨lw_p37, List.forall_mem_cons.mpr ⟨lw_p38, List.forall_mem_cons.mpr ⟨lw_p39, List.forall_mem_cons.mpr ⟨lw_p40, List.forall_mem_cons.mpr ⟨lw_p41, List.forall_mem_cons.mpr ⟨lw_p42, List.forall_mem_cons.mpr ⟨lw_p43, List.forall_mem_cons.mpr ⟨lw_p44, List.forall_mem_cons.mpr ⟨lw_p45, List.forall_mem_cons.mpr ⟨lw_p46, List.forall_mem_cons.mpr ⟨lw_p47, fun _ h => absurd h List.not_mem_nil⟩⟩⟩⟩⟩⟩⟩⟩⟩⟩⟩⟩⟩⟩⟩⟩
theorem lw_p48 : lw_okq (⟨"AloneRoomsModel", "firstWrong", "()I"⟩, 18) := ⟨⟨by decide +kernel, by decide +kernel⟩, List.mem_of_getElem? (i := 866) (by decide +kernel), List.mem_of_getElem? (i := 1128) (by decide +kernel), List.mem_of_getElem? (i := 1129) (by decide +kernel)⟩
theorem lw_p49 : lw_okq (⟨"AloneRoomsModel", "laid", "(IIII)I"⟩, 18) := ⟨⟨by decide +kernel, by decide +kernel⟩, List.mem_of_getElem? (i := 866) (by decide +kernel), List.mem_of_getElem? (i := 1136) (by decide +kernel), List.mem_of_getElem? (i := 1137) (by decide +kernel)⟩
theorem lw_p50 : lw_okq (⟨"AloneRoomsModel", "layCosts", "(I)V"⟩, 18) := ⟨⟨by decide +kernel, by decide +kernel⟩, List.mem_of_getElem? (i := 866) (by decide +kernel), List.mem_of_getElem? (i := 1144) (by decide +kernel), List.mem_of_getElem? (i := 1145) (by decide +kernel)⟩
theorem lw_p51 : lw_okq (⟨"AloneRoomsModel", "standings", "()I"⟩, 18) := ⟨⟨by decide +kernel, by decide +kernel⟩, List.mem_of_getElem? (i := 866) (by decide +kernel), List.mem_of_getElem? (i := 1148) (by decide +kernel), List.mem_of_getElem? (i := 1149) (by decide +kernel)⟩
theorem lw_p52 : lw_okq (⟨"AloneRoomsModel", "standingOf", "(I)I"⟩, 18) := ⟨⟨by decide +kernel, by decide +kernel⟩, List.mem_of_getElem? (i := 866) (by decide +kernel), List.mem_of_getElem? (i := 1152) (by decide +kernel), List.mem_of_getElem? (i := 1153) (by decide +kernel)⟩
theorem lw_p53 : lw_okq (⟨"AloneRoomsModel", "by", "(III)I"⟩, 18) := ⟨⟨by decide +kernel, by decide +kernel⟩, List.mem_of_getElem? (i := 866) (by decide +kernel), List.mem_of_getElem? (i := 1157) (by decide +kernel), List.mem_of_getElem? (i := 1158) (by decide +kernel)⟩
theorem lw_p54 : lw_okq (⟨"AloneRoomsModel", "keepsWishes", "(II)Z"⟩, 18) := ⟨⟨by decide +kernel, by decide +kernel⟩, List.mem_of_getElem? (i := 866) (by decide +kernel), List.mem_of_getElem? (i := 1161) (by decide +kernel), List.mem_of_getElem? (i := 1162) (by decide +kernel)⟩
theorem lw_p55 : lw_okq (⟨"AloneRoomsModel", "firstOf", "(II)I"⟩, 18) := ⟨⟨by decide +kernel, by decide +kernel⟩, List.mem_of_getElem? (i := 866) (by decide +kernel), List.mem_of_getElem? (i := 1165) (by decide +kernel), List.mem_of_getElem? (i := 1166) (by decide +kernel)⟩
theorem lw_p56 : lw_okq (⟨"AloneRoomsModel", "liesOn", "(III)I"⟩, 18) := ⟨⟨by decide +kernel, by decide +kernel⟩, List.mem_of_getElem? (i := 866) (by decide +kernel), List.mem_of_getElem? (i := 1182) (by decide +kernel), List.mem_of_getElem? (i := 1183) (by decide +kernel)⟩
theorem lw_p57 : lw_okq (⟨"AloneRoomsModel", "leastBy", "(I)I"⟩, 18) := ⟨⟨by decide +kernel, by decide +kernel⟩, List.mem_of_getElem? (i := 866) (by decide +kernel), List.mem_of_getElem? (i := 1193) (by decide +kernel), List.mem_of_getElem? (i := 1194) (by decide +kernel)⟩
theorem lw_p58 : lw_okq (⟨"AloneRoomsModel", "copy", "(II)V"⟩, 18) := ⟨⟨by decide +kernel, by decide +kernel⟩, List.mem_of_getElem? (i := 866) (by decide +kernel), List.mem_of_getElem? (i := 1197) (by decide +kernel), List.mem_of_getElem? (i := 1198) (by decide +kernel)⟩
theorem lw_p59 : lw_okq (⟨"AloneRoomsModel", "joinTwo", "(II)V"⟩, 18) := ⟨⟨by decide +kernel, by decide +kernel⟩, List.mem_of_getElem? (i := 866) (by decide +kernel), List.mem_of_getElem? (i := 1201) (by decide +kernel), List.mem_of_getElem? (i := 1202) (by decide +kernel)⟩
theorem lw_p60 : lw_okq (⟨"AloneRoomsModel", "isSoBy", "(II)Z"⟩, 18) := ⟨⟨by decide +kernel, by decide +kernel⟩, List.mem_of_getElem? (i := 866) (by decide +kernel), List.mem_of_getElem? (i := 1214) (by decide +kernel), List.mem_of_getElem? (i := 1215) (by decide +kernel)⟩
theorem lw_p61 : lw_okq (⟨"AloneRoomsModel", "countOf", "(I)I"⟩, 18) := ⟨⟨by decide +kernel, by decide +kernel⟩, List.mem_of_getElem? (i := 866) (by decide +kernel), List.mem_of_getElem? (i := 1258) (by decide +kernel), List.mem_of_getElem? (i := 1259) (by decide +kernel)⟩
def lw_privs_4 : List (MethodName × Nat) := [(⟨"AloneRoomsModel", "firstWrong", "()I"⟩, 18), (⟨"AloneRoomsModel", "laid", "(IIII)I"⟩, 18), (⟨"AloneRoomsModel", "layCosts", "(I)V"⟩, 18), (⟨"AloneRoomsModel", "standings", "()I"⟩, 18), (⟨"AloneRoomsModel", "standingOf", "(I)I"⟩, 18), (⟨"AloneRoomsModel", "by", "(III)I"⟩, 18), (⟨"AloneRoomsModel", "keepsWishes", "(II)Z"⟩, 18), (⟨"AloneRoomsModel", "firstOf", "(II)I"⟩, 18), (⟨"AloneRoomsModel", "liesOn", "(III)I"⟩, 18), (⟨"AloneRoomsModel", "leastBy", "(I)I"⟩, 18), (⟨"AloneRoomsModel", "copy", "(II)V"⟩, 18), (⟨"AloneRoomsModel", "joinTwo", "(II)V"⟩, 18), (⟨"AloneRoomsModel", "isSoBy", "(II)Z"⟩, 18), (⟨"AloneRoomsModel", "countOf", "(I)I"⟩, 18)]
theorem lw_r4 : ∀ q ∈ lw_privs_4, lw_okq q := List.forall_mem_cons.mpr ⟨lw_p48, List.forall_mem_cons.mpr ⟨lw_p49, List.forall_mem_cons.mpr ⟨lw_p50, List.forall_mem_cons.mpr ⟨lw_p51, List.forall_mem_cons.mpr ⟨lw_p52, List.forall_mem_cons.mpr ⟨lw_p53, List.forall_mem_cons.mpr ⟨lw_p54, List.forall_mem_cons.mpr ⟨lw_p55, List.forall_mem_cons.mpr ⟨lw_p56, List.forall_mem_cons.mpr ⟨lw_p57, List.forall_mem_cons.mpr ⟨lw_p58, List.forall_mem_cons.mpr ⟨lw_p59, List.forall_mem_cons.mpr ⟨lw_p60, List.forall_mem_cons.mpr ⟨lw_p61, fun _ h => absurd h List.not_mem_nil⟩⟩⟩⟩⟩⟩⟩⟩⟩⟩⟩⟩⟩⟩
def lw_privs : List (MethodName × Nat) := lw_privs_1 ++ (lw_privs_2 ++ (lw_privs_3 ++ (lw_privs_4)))
def lw_tbl : List Cond := k2_sels lw_privs ++ tables_1
theorem lw_privs_ok : ∀ q ∈ lw_privs, lw_okq q := by
  show ∀ q ∈ lw_privs_1 ++ (lw_privs_2 ++ (lw_privs_3 ++ (lw_privs_4))), lw_okq q
  exact List.forall_mem_append.mpr ⟨lw_r1, List.forall_mem_append.mpr ⟨lw_r2, List.forall_mem_append.mpr ⟨lw_r3, lw_r4⟩⟩⟩
-- ===== end of PART A; then your names; then what follows =====
end
section
def RX0 : String := "AloneRooms$Comers"
def TX0 : u_T := fun k => match k with
  | _ => ("", "", "", false)
def tyX0 : Nat → FieldType := fun k => match k with
  | _ => .int
abbrev wsX00 : List Cond := u_ws RX0 TX0 0
theorem nmX0 : ∀ a, a < 0 → ∀ b, b < 0 → a ≠ b → (TX0 a).2.1 ≠ (TX0 b).2.1 := by decide +kernel
theorem tyX0_ok : ∀ k, k < 0 → parseFieldDescriptor (TX0 k).2.2.1 = some (tyX0 k) := by decide +kernel
abbrev cX0_init : ByteArray := prog_2_method_1_code
def yX0_init : MethodName := ⟨RX0, "<init>", "()V"⟩
abbrev cX0_lays : ByteArray := prog_2_method_2_code
def yX0_lays : MethodName := ⟨RX0, "lays", "(ZZI)Z"⟩
def RX1 : String := "AloneRooms$Each"
def TX1 : u_T := fun k => match k with
  | _ => ("", "", "", false)
def tyX1 : Nat → FieldType := fun k => match k with
  | _ => .int
abbrev wsX10 : List Cond := u_ws RX1 TX1 0
theorem nmX1 : ∀ a, a < 0 → ∀ b, b < 0 → a ≠ b → (TX1 a).2.1 ≠ (TX1 b).2.1 := by decide +kernel
theorem tyX1_ok : ∀ k, k < 0 → parseFieldDescriptor (TX1 k).2.2.1 = some (tyX1 k) := by decide +kernel
abbrev cX1_init : ByteArray := prog_3_method_1_code
def yX1_init : MethodName := ⟨RX1, "<init>", "()V"⟩
abbrev cX1_lays : ByteArray := prog_3_method_2_code
def yX1_lays : MethodName := ⟨RX1, "lays", "(ZZI)Z"⟩
def RX2 : String := "AloneRooms$Evening"
def TX2 : u_T := fun k => match k with
  | 0 => ("AloneRooms$Evening", "row", "[I", true)
  | 1 => ("AloneRooms$Evening", "house", "LAloneRooms$House;", false)
  | 2 => ("AloneRooms$Evening", "law", "LAloneRooms$Once;", false)
  | 3 => ("AloneRooms$Evening", "length", "I", false)
  | 4 => ("AloneRooms$Evening", "first", "I", false)
  | 5 => ("AloneRooms$Evening", "keeping", "[[I", true)
  | 6 => ("AloneRooms$Evening", "rest", "[[I", true)
  | 7 => ("AloneRooms$Evening", "leastRest", "[I", true)
  | 8 => ("AloneRooms$Evening", "lone", "[I", true)
  | 9 => ("AloneRooms$Evening", "stands", "LAloneRooms$Ways;", true)
  | _ => ("AloneRooms$Evening", "ways", "LAloneRooms$Ways;", true)
def tyX2 : Nat → FieldType := fun k => match k with
  | 0 => .array .int
  | 1 => .object "AloneRooms$House"
  | 2 => .object "AloneRooms$Once"
  | 3 => .int
  | 4 => .int
  | 5 => .array (.array .int)
  | 6 => .array (.array .int)
  | 7 => .array .int
  | 8 => .array .int
  | 9 => .object "AloneRooms$Ways"
  | _ => .object "AloneRooms$Ways"
abbrev wsX20 : List Cond := u_ws RX2 TX2 11
theorem nmX2 : ∀ a, a < 11 → ∀ b, b < 11 → a ≠ b → (TX2 a).2.1 ≠ (TX2 b).2.1 := by decide +kernel
theorem tyX2_ok : ∀ k, k < 11 → parseFieldDescriptor (TX2 k).2.2.1 = some (tyX2 k) := by decide +kernel
abbrev cX2_init : ByteArray := prog_4_method_1_code
def yX2_init : MethodName := ⟨RX2, "<init>", "()V"⟩
abbrev cX2_weigh : ByteArray := prog_4_method_2_code
def yX2_weigh : MethodName := ⟨RX2, "weigh", "(LAloneRooms$House;LAloneRooms$Once;I)I"⟩
abbrev cX2_markKeeping : ByteArray := prog_4_method_3_code
def yX2_markKeeping : MethodName := ⟨RX2, "markKeeping", "(I)V"⟩
abbrev cX2_fillRest : ByteArray := prog_4_method_4_code
def yX2_fillRest : MethodName := ⟨RX2, "fillRest", "(I)V"⟩
abbrev cX2_leastFrom : ByteArray := prog_4_method_5_code
def yX2_leastFrom : MethodName := ⟨RX2, "leastFrom", "(II)I"⟩
def RX3 : String := "AloneRooms$Halves"
def TX3 : u_T := fun k => match k with
  | _ => ("", "", "", false)
def tyX3 : Nat → FieldType := fun k => match k with
  | _ => .int
abbrev wsX30 : List Cond := u_ws RX3 TX3 0
theorem nmX3 : ∀ a, a < 0 → ∀ b, b < 0 → a ≠ b → (TX3 a).2.1 ≠ (TX3 b).2.1 := by decide +kernel
theorem tyX3_ok : ∀ k, k < 0 → parseFieldDescriptor (TX3 k).2.2.1 = some (tyX3 k) := by decide +kernel
abbrev cX3_init : ByteArray := prog_5_method_1_code
def yX3_init : MethodName := ⟨RX3, "<init>", "()V"⟩
abbrev cX3_share : ByteArray := prog_5_method_2_code
def yX3_share : MethodName := ⟨RX3, "share", "(I)I"⟩
def RX4 : String := "AloneRooms$House"
def TX4 : u_T := fun k => match k with
  | 0 => ("AloneRooms$House", "size", "I", false)
  | 1 => ("AloneRooms$House", "cats", "I", false)
  | 2 => ("AloneRooms$House", "people", "I", false)
  | 3 => ("AloneRooms$House", "where", "I", false)
  | 4 => ("AloneRooms$House", "kind", "I", false)
  | 5 => ("AloneRooms$House", "beats", "I", false)
  | 6 => ("AloneRooms$House", "planned", "I", false)
  | 7 => ("AloneRooms$House", "pasts", "I", false)
  | 8 => ("AloneRooms$House", "doors", "[I", true)
  | 9 => ("AloneRooms$House", "pennies", "[I", true)
  | 10 => ("AloneRooms$House", "told", "[I", true)
  | 11 => ("AloneRooms$House", "purses", "[I", true)
  | 12 => ("AloneRooms$House", "wishes", "[I", true)
  | 13 => ("AloneRooms$House", "plan", "[I", true)
  | _ => ("AloneRooms$House", "past", "[I", true)
def tyX4 : Nat → FieldType := fun k => match k with
  | 0 => .int
  | 1 => .int
  | 2 => .int
  | 3 => .int
  | 4 => .int
  | 5 => .int
  | 6 => .int
  | 7 => .int
  | 8 => .array .int
  | 9 => .array .int
  | 10 => .array .int
  | 11 => .array .int
  | 12 => .array .int
  | 13 => .array .int
  | _ => .array .int
abbrev wsX40 : List Cond := u_ws RX4 TX4 15
theorem nmX4 : ∀ a, a < 15 → ∀ b, b < 15 → a ≠ b → (TX4 a).2.1 ≠ (TX4 b).2.1 := by decide +kernel
theorem tyX4_ok : ∀ k, k < 15 → parseFieldDescriptor (TX4 k).2.2.1 = some (tyX4 k) := by decide +kernel
abbrev cX4_init : ByteArray := prog_6_method_1_code
def yX4_init : MethodName := ⟨RX4, "<init>", "()V"⟩
abbrev cX4_empty : ByteArray := prog_6_method_2_code
def yX4_empty : MethodName := ⟨RX4, "empty", "(I)V"⟩
abbrev cX4_copy : ByteArray := prog_6_method_3_code
def yX4_copy : MethodName := ⟨RX4, "copy", "(LAloneRooms$House;)V"⟩
abbrev cX4_enter : ByteArray := prog_6_method_4_code
def yX4_enter : MethodName := ⟨RX4, "enter", "(I)V"⟩
abbrev cX4_doorCount : ByteArray := prog_6_method_5_code
def yX4_doorCount : MethodName := ⟨RX4, "doorCount", "()I"⟩
abbrev cX4_reach : ByteArray := prog_6_method_6_code
def yX4_reach : MethodName := ⟨RX4, "reach", "(I)I"⟩
abbrev cX4_everywhere : ByteArray := prog_6_method_7_code
def yX4_everywhere : MethodName := ⟨RX4, "everywhere", "()I"⟩
abbrev cX4_canGo : ByteArray := prog_6_method_8_code
def yX4_canGo : MethodName := ⟨RX4, "canGo", "(II)Z"⟩
abbrev cX4_peopled : ByteArray := prog_6_method_9_code
def yX4_peopled : MethodName := ⟨RX4, "peopled", "()I"⟩
abbrev cX4_lone : ByteArray := prog_6_method_10_code
def yX4_lone : MethodName := ⟨RX4, "lone", "(I)I"⟩
abbrev cX4_isAloneIn : ByteArray := prog_6_method_11_code
def yX4_isAloneIn : MethodName := ⟨RX4, "isAloneIn", "(II)Z"⟩
abbrev cX4_markLone : ByteArray := prog_6_method_12_code
def yX4_markLone : MethodName := ⟨RX4, "markLone", "([ILAloneRooms$Ways;)V"⟩
abbrev cX4_payers : ByteArray := prog_6_method_13_code
def yX4_payers : MethodName := ⟨RX4, "payers", "(IIIIILAloneRooms$Once;)I"⟩
abbrev cX4_go : ByteArray := prog_6_method_14_code
def yX4_go : MethodName := ⟨RX4, "go", "(ILAloneRooms$Once;)I"⟩
abbrev cX4_gather : ByteArray := prog_6_method_15_code
def yX4_gather : MethodName := ⟨RX4, "gather", "(IILAloneRooms$Once;)V"⟩
abbrev cX4_isAsTold : ByteArray := prog_6_method_16_code
def yX4_isAsTold : MethodName := ⟨RX4, "isAsTold", "()Z"⟩
abbrev cX4_remember : ByteArray := prog_6_method_17_code
def yX4_remember : MethodName := ⟨RX4, "remember", "()V"⟩
abbrev cX4_goBack : ByteArray := prog_6_method_18_code
def yX4_goBack : MethodName := ⟨RX4, "goBack", "()V"⟩
abbrev cX4_merge : ByteArray := prog_6_method_19_code
def yX4_merge : MethodName := ⟨RX4, "merge", "(II)V"⟩
abbrev cX4_toFirst : ByteArray := prog_6_method_20_code
def yX4_toFirst : MethodName := ⟨RX4, "toFirst", "(III)I"⟩
def RX5 : String := "AloneRooms$Once"
def TX5 : u_T := fun k => match k with
  | _ => ("", "", "", false)
def tyX5 : Nat → FieldType := fun k => match k with
  | _ => .int
abbrev wsX50 : List Cond := u_ws RX5 TX5 0
theorem nmX5 : ∀ a, a < 0 → ∀ b, b < 0 → a ≠ b → (TX5 a).2.1 ≠ (TX5 b).2.1 := by decide +kernel
theorem tyX5_ok : ∀ k, k < 0 → parseFieldDescriptor (TX5 k).2.2.1 = some (tyX5 k) := by decide +kernel
abbrev cX5_init : ByteArray := prog_7_method_1_code
def yX5_init : MethodName := ⟨RX5, "<init>", "()V"⟩
abbrev cX5_lays : ByteArray := prog_7_method_2_code
def yX5_lays : MethodName := ⟨RX5, "lays", "(ZZI)Z"⟩
abbrev cX5_mindsBeats : ByteArray := prog_7_method_3_code
def yX5_mindsBeats : MethodName := ⟨RX5, "mindsBeats", "()Z"⟩
abbrev cX5_share : ByteArray := prog_7_method_4_code
def yX5_share : MethodName := ⟨RX5, "share", "(I)I"⟩
def RX6 : String := "AloneRooms$Search"
def TX6 : u_T := fun k => match k with
  | 0 => ("AloneRooms$Search", "house", "LAloneRooms$House;", false)
  | 1 => ("AloneRooms$Search", "law", "LAloneRooms$Once;", false)
  | 2 => ("AloneRooms$Search", "beatsOf", "[[I", true)
  | 3 => ("AloneRooms$Search", "reached", "[I", true)
  | 4 => ("AloneRooms$Search", "many", "I", false)
  | 5 => ("AloneRooms$Search", "lone", "[I", true)
  | _ => ("AloneRooms$Search", "ways", "LAloneRooms$Ways;", true)
def tyX6 : Nat → FieldType := fun k => match k with
  | 0 => .object "AloneRooms$House"
  | 1 => .object "AloneRooms$Once"
  | 2 => .array (.array .int)
  | 3 => .array .int
  | 4 => .int
  | 5 => .array .int
  | _ => .object "AloneRooms$Ways"
abbrev wsX60 : List Cond := u_ws RX6 TX6 7
theorem nmX6 : ∀ a, a < 7 → ∀ b, b < 7 → a ≠ b → (TX6 a).2.1 ≠ (TX6 b).2.1 := by decide +kernel
theorem tyX6_ok : ∀ k, k < 7 → parseFieldDescriptor (TX6 k).2.2.1 = some (tyX6 k) := by decide +kernel
abbrev cX6_init : ByteArray := prog_8_method_1_code
def yX6_init : MethodName := ⟨RX6, "<init>", "()V"⟩
abbrev cX6_beatsTo : ByteArray := prog_8_method_2_code
def yX6_beatsTo : MethodName := ⟨RX6, "beatsTo", "(LAloneRooms$House;LAloneRooms$Once;I)I"⟩
abbrev cX6_spread : ByteArray := prog_8_method_3_code
def yX6_spread : MethodName := ⟨RX6, "spread", "(II)V"⟩
abbrev cX6_reach : ByteArray := prog_8_method_4_code
def yX6_reach : MethodName := ⟨RX6, "reach", "(II)V"⟩
abbrev cX6_sideOf : ByteArray := prog_8_method_5_code
def yX6_sideOf : MethodName := ⟨RX6, "sideOf", "(I)I"⟩
def RX7 : String := "AloneRooms$Sleep"
def TX7 : u_T := fun k => match k with
  | _ => ("", "", "", false)
def tyX7 : Nat → FieldType := fun k => match k with
  | _ => .int
abbrev wsX70 : List Cond := u_ws RX7 TX7 0
theorem nmX7 : ∀ a, a < 0 → ∀ b, b < 0 → a ≠ b → (TX7 a).2.1 ≠ (TX7 b).2.1 := by decide +kernel
theorem tyX7_ok : ∀ k, k < 0 → parseFieldDescriptor (TX7 k).2.2.1 = some (tyX7 k) := by decide +kernel
abbrev cX7_init : ByteArray := prog_9_method_1_code
def yX7_init : MethodName := ⟨RX7, "<init>", "()V"⟩
abbrev cX7_lays : ByteArray := prog_9_method_2_code
def yX7_lays : MethodName := ⟨RX7, "lays", "(ZZI)Z"⟩
abbrev cX7_mindsBeats : ByteArray := prog_9_method_3_code
def yX7_mindsBeats : MethodName := ⟨RX7, "mindsBeats", "()Z"⟩
def RX8 : String := "AloneRooms$Text"
def TX8 : u_T := fun k => match k with
  | 0 => ("AloneRooms$Text", "length", "I", false)
  | 1 => ("AloneRooms$Text", "bytes", "[I", true)
  | 2 => ("AloneRooms$Text", "token", "I", false)
  | 3 => ("AloneRooms$Text", "place", "I", false)
  | 4 => ("AloneRooms$Text", "behind", "I", false)
  | 5 => ("AloneRooms$Text", "value", "I", false)
  | _ => ("AloneRooms$Text", "fault", "I", false)
def tyX8 : Nat → FieldType := fun k => match k with
  | 0 => .int
  | 1 => .array .int
  | 2 => .int
  | 3 => .int
  | 4 => .int
  | 5 => .int
  | _ => .int
abbrev wsX80 : List Cond := u_ws RX8 TX8 7
theorem nmX8 : ∀ a, a < 7 → ∀ b, b < 7 → a ≠ b → (TX8 a).2.1 ≠ (TX8 b).2.1 := by decide +kernel
theorem tyX8_ok : ∀ k, k < 7 → parseFieldDescriptor (TX8 k).2.2.1 = some (tyX8 k) := by decide +kernel
abbrev cX8_init : ByteArray := prog_10_method_1_code
def yX8_init : MethodName := ⟨RX8, "<init>", "()V"⟩
abbrev cX8_add : ByteArray := prog_10_method_2_code
def yX8_add : MethodName := ⟨RX8, "add", "(JI)V"⟩
abbrev cX8_parse : ByteArray := prog_10_method_3_code
def yX8_parse : MethodName := ⟨RX8, "parse", "(LAloneRooms$House;)I"⟩
abbrev cX8_takeItem : ByteArray := prog_10_method_4_code
def yX8_takeItem : MethodName := ⟨RX8, "takeItem", "(LAloneRooms$House;)V"⟩
abbrev cX8_takeNumber : ByteArray := prog_10_method_5_code
def yX8_takeNumber : MethodName := ⟨RX8, "takeNumber", "(II)I"⟩
abbrev cX8_takeStop : ByteArray := prog_10_method_6_code
def yX8_takeStop : MethodName := ⟨RX8, "takeStop", "()V"⟩
abbrev cX8_advance : ByteArray := prog_10_method_7_code
def yX8_advance : MethodName := ⟨RX8, "advance", "()V"⟩
abbrev cX8_isWithin : ByteArray := prog_10_method_8_code
def yX8_isWithin : MethodName := ⟨RX8, "isWithin", "(ICC)Z"⟩
abbrev cX8_endOf : ByteArray := prog_10_method_9_code
def yX8_endOf : MethodName := ⟨RX8, "endOf", "(CC)I"⟩
abbrev cX8_numberToken : ByteArray := prog_10_method_10_code
def yX8_numberToken : MethodName := ⟨RX8, "numberToken", "()I"⟩
abbrev cX8_wordToken : ByteArray := prog_10_method_11_code
def yX8_wordToken : MethodName := ⟨RX8, "wordToken", "()I"⟩
abbrev cX8_spells : ByteArray := prog_10_method_12_code
def yX8_spells : MethodName := ⟨RX8, "spells", "(Ljava/lang/String;)Z"⟩
def RX9 : String := "AloneRooms$Walk"
def TX9 : u_T := fun k => match k with
  | 0 => ("AloneRooms$Walk", "most", "I", false)
  | 1 => ("AloneRooms$Walk", "steps", "I", false)
  | 2 => ("AloneRooms$Walk", "best", "[I", true)
  | 3 => ("AloneRooms$Walk", "house", "LAloneRooms$House;", false)
  | 4 => ("AloneRooms$Walk", "limit", "I", false)
  | _ => ("AloneRooms$Walk", "row", "[I", true)
def tyX9 : Nat → FieldType := fun k => match k with
  | 0 => .int
  | 1 => .int
  | 2 => .array .int
  | 3 => .object "AloneRooms$House"
  | 4 => .int
  | _ => .array .int
abbrev wsX90 : List Cond := u_ws RX9 TX9 6
theorem nmX9 : ∀ a, a < 6 → ∀ b, b < 6 → a ≠ b → (TX9 a).2.1 ≠ (TX9 b).2.1 := by decide +kernel
theorem tyX9_ok : ∀ k, k < 6 → parseFieldDescriptor (TX9 k).2.2.1 = some (tyX9 k) := by decide +kernel
abbrev cX9_init : ByteArray := prog_11_method_1_code
def yX9_init : MethodName := ⟨RX9, "<init>", "()V"⟩
abbrev cX9_look : ByteArray := prog_11_method_2_code
def yX9_look : MethodName := ⟨RX9, "look", "(LAloneRooms$House;II)V"⟩
abbrev cX9_go : ByteArray := prog_11_method_3_code
def yX9_go : MethodName := ⟨RX9, "go", "(LAloneRooms$Walk;IIII)V"⟩
def RX10 : String := "AloneRooms$Ways"
def TX10 : u_T := fun k => match k with
  | 0 => ("AloneRooms$Ways", "at", "I", false)
  | 1 => ("AloneRooms$Ways", "people", "I", false)
  | _ => ("AloneRooms$Ways", "masks", "[I", true)
def tyX10 : Nat → FieldType := fun k => match k with
  | 0 => .int
  | 1 => .int
  | _ => .array .int
abbrev wsX100 : List Cond := u_ws RX10 TX10 3
theorem nmX10 : ∀ a, a < 3 → ∀ b, b < 3 → a ≠ b → (TX10 a).2.1 ≠ (TX10 b).2.1 := by decide +kernel
theorem tyX10_ok : ∀ k, k < 3 → parseFieldDescriptor (TX10 k).2.2.1 = some (tyX10 k) := by decide +kernel
abbrev cX10_init : ByteArray := prog_12_method_1_code
def yX10_init : MethodName := ⟨RX10, "<init>", "()V"⟩
abbrev cX10_all : ByteArray := prog_12_method_2_code
def yX10_all : MethodName := ⟨RX10, "all", "(LAloneRooms$House;)I"⟩
abbrev cX10_among : ByteArray := prog_12_method_3_code
def yX10_among : MethodName := ⟨RX10, "among", "(LAloneRooms$House;[I)I"⟩
abbrev cX10_onward : ByteArray := prog_12_method_4_code
def yX10_onward : MethodName := ⟨RX10, "onward", "(LAloneRooms$House;I)I"⟩
abbrev cX10_onwardAmong : ByteArray := prog_12_method_5_code
def yX10_onwardAmong : MethodName := ⟨RX10, "onwardAmong", "(LAloneRooms$House;I[I)I"⟩
abbrev cX10_begin : ByteArray := prog_12_method_6_code
def yX10_begin : MethodName := ⟨RX10, "begin", "()I"⟩
abbrev cX10_step : ByteArray := prog_12_method_7_code
def yX10_step : MethodName := ⟨RX10, "step", "()V"⟩
def RX11 : String := "AloneRooms"
def TX11 : u_T := fun k => match k with
  | 0 => ("AloneRooms", "house", "LAloneRooms$House;", true)
  | 1 => ("AloneRooms", "trial", "LAloneRooms$House;", true)
  | 2 => ("AloneRooms", "images", "[LAloneRooms$House;", true)
  | 3 => ("AloneRooms", "kept", "[Z", true)
  | 4 => ("AloneRooms", "text", "LAloneRooms$Text;", true)
  | 5 => ("AloneRooms", "laws", "[LAloneRooms$Once;", true)
  | 6 => ("AloneRooms", "ways", "LAloneRooms$Ways;", true)
  | 7 => ("AloneRooms", "evening", "LAloneRooms$Evening;", true)
  | 8 => ("AloneRooms", "search", "LAloneRooms$Search;", true)
  | 9 => ("AloneRooms", "walk", "LAloneRooms$Walk;", true)
  | 10 => ("AloneRooms", "refusedBad", "I", false)
  | 11 => ("AloneRooms", "refusedNo", "I", false)
  | _ => ("AloneRooms", "refusedFull", "I", false)
def tyX11 : Nat → FieldType := fun k => match k with
  | 0 => .object "AloneRooms$House"
  | 1 => .object "AloneRooms$House"
  | 2 => .array (.object "AloneRooms$House")
  | 3 => .array .boolean
  | 4 => .object "AloneRooms$Text"
  | 5 => .array (.object "AloneRooms$Once")
  | 6 => .object "AloneRooms$Ways"
  | 7 => .object "AloneRooms$Evening"
  | 8 => .object "AloneRooms$Search"
  | 9 => .object "AloneRooms$Walk"
  | 10 => .int
  | 11 => .int
  | _ => .int
abbrev wsX110 : List Cond := u_ws RX11 TX11 13
theorem nmX11 : ∀ a, a < 13 → ∀ b, b < 13 → a ≠ b → (TX11 a).2.1 ≠ (TX11 b).2.1 := by decide +kernel
theorem tyX11_ok : ∀ k, k < 13 → parseFieldDescriptor (TX11 k).2.2.1 = some (tyX11 k) := by decide +kernel
abbrev cX11_init : ByteArray := prog_1_method_1_code
def yX11_init : MethodName := ⟨RX11, "<init>", "()V"⟩
abbrev cX11_rooms : ByteArray := prog_1_method_2_code
def yX11_rooms : MethodName := ⟨RX11, "rooms", "(I)I"⟩
abbrev cX11_door : ByteArray := prog_1_method_3_code
def yX11_door : MethodName := ⟨RX11, "door", "(IIZ)I"⟩
abbrev cX11_cat : ByteArray := prog_1_method_4_code
def yX11_cat : MethodName := ⟨RX11, "cat", "(IZ)I"⟩
abbrev cX11_lay : ByteArray := prog_1_method_5_code
def yX11_lay : MethodName := ⟨RX11, "lay", "(II)I"⟩
abbrev cX11_person : ByteArray := prog_1_method_6_code
def yX11_person : MethodName := ⟨RX11, "person", "(I)I"⟩
abbrev cX11_law : ByteArray := prog_1_method_7_code
def yX11_law : MethodName := ⟨RX11, "law", "(I)I"⟩
abbrev cX11_wish : ByteArray := prog_1_method_8_code
def yX11_wish : MethodName := ⟨RX11, "wish", "(III)I"⟩
abbrev cX11_type : ByteArray := prog_1_method_9_code
def yX11_type : MethodName := ⟨RX11, "type", "(JI)I"⟩
abbrev cX11_clear : ByteArray := prog_1_method_10_code
def yX11_clear : MethodName := ⟨RX11, "clear", "()I"⟩
abbrev cX11_read : ByteArray := prog_1_method_11_code
def yX11_read : MethodName := ⟨RX11, "read", "()I"⟩
abbrev cX11_beat : ByteArray := prog_1_method_12_code
def yX11_beat : MethodName := ⟨RX11, "beat", "(I)I"⟩
abbrev cX11_undo : ByteArray := prog_1_method_13_code
def yX11_undo : MethodName := ⟨RX11, "undo", "()I"⟩
abbrev cX11_standing : ByteArray := prog_1_method_14_code
def yX11_standing : MethodName := ⟨RX11, "standing", "()I"⟩
abbrev cX11_sill : ByteArray := prog_1_method_15_code
def yX11_sill : MethodName := ⟨RX11, "sill", "(I)I"⟩
abbrev cX11_purse : ByteArray := prog_1_method_16_code
def yX11_purse : MethodName := ⟨RX11, "purse", "(I)I"⟩
abbrev cX11_alone : ByteArray := prog_1_method_17_code
def yX11_alone : MethodName := ⟨RX11, "alone", "(I)I"⟩
abbrev cX11_plan : ByteArray := prog_1_method_18_code
def yX11_plan : MethodName := ⟨RX11, "plan", "(I)I"⟩
abbrev cX11_scrap : ByteArray := prog_1_method_19_code
def yX11_scrap : MethodName := ⟨RX11, "scrap", "()I"⟩
abbrev cX11_judge : ByteArray := prog_1_method_20_code
def yX11_judge : MethodName := ⟨RX11, "judge", "()I"⟩
abbrev cX11_cost : ByteArray := prog_1_method_21_code
def yX11_cost : MethodName := ⟨RX11, "cost", "(I)I"⟩
abbrev cX11_least : ByteArray := prog_1_method_22_code
def yX11_least : MethodName := ⟨RX11, "least", "(II)I"⟩
abbrev cX11_fewest : ByteArray := prog_1_method_23_code
def yX11_fewest : MethodName := ⟨RX11, "fewest", "(I)I"⟩
abbrev cX11_quiet : ByteArray := prog_1_method_24_code
def yX11_quiet : MethodName := ⟨RX11, "quiet", "()I"⟩
abbrev cX11_picks : ByteArray := prog_1_method_25_code
def yX11_picks : MethodName := ⟨RX11, "picks", "(III)I"⟩
abbrev cX11_join : ByteArray := prog_1_method_26_code
def yX11_join : MethodName := ⟨RX11, "join", "(I)I"⟩
abbrev cX11_spy : ByteArray := prog_1_method_27_code
def yX11_spy : MethodName := ⟨RX11, "spy", "(II)I"⟩
abbrev cX11_fits : ByteArray := prog_1_method_28_code
def yX11_fits : MethodName := ⟨RX11, "fits", "()I"⟩
abbrev cX11_was : ByteArray := prog_1_method_29_code
def yX11_was : MethodName := ⟨RX11, "was", "(II)I"⟩
abbrev cX11_rent : ByteArray := prog_1_method_30_code
def yX11_rent : MethodName := ⟨RX11, "rent", "(II)I"⟩
abbrev cX11_drawn : ByteArray := prog_1_method_31_code
def yX11_drawn : MethodName := ⟨RX11, "drawn", "(III)I"⟩
abbrev cX11_image : ByteArray := prog_1_method_32_code
def yX11_image : MethodName := ⟨RX11, "image", "(I)I"⟩
abbrev cX11_from : ByteArray := prog_1_method_33_code
def yX11_from : MethodName := ⟨RX11, "from", "(I)I"⟩
abbrev cX11_status : ByteArray := prog_1_method_34_code
def yX11_status : MethodName := ⟨RX11, "status", "(I)I"⟩
abbrev cX11_count : ByteArray := prog_1_method_35_code
def yX11_count : MethodName := ⟨RX11, "count", "(I)I"⟩
abbrev cX11_digest : ByteArray := prog_1_method_36_code
def yX11_digest : MethodName := ⟨RX11, "digest", "()J"⟩
abbrev cX11_refuse : ByteArray := prog_1_method_37_code
def yX11_refuse : MethodName := ⟨RX11, "refuse", "(I)I"⟩
abbrev cX11_isRoom : ByteArray := prog_1_method_38_code
def yX11_isRoom : MethodName := ⟨RX11, "isRoom", "(I)Z"⟩
abbrev cX11_isPerson : ByteArray := prog_1_method_39_code
def yX11_isPerson : MethodName := ⟨RX11, "isPerson", "(I)Z"⟩
abbrev cX11_isLaw : ByteArray := prog_1_method_40_code
def yX11_isLaw : MethodName := ⟨RX11, "isLaw", "(I)Z"⟩
abbrev cX11_isStanding : ByteArray := prog_1_method_41_code
def yX11_isStanding : MethodName := ⟨RX11, "isStanding", "(I)Z"⟩
abbrev cX11_countFits : ByteArray := prog_1_method_42_code
def yX11_countFits : MethodName := ⟨RX11, "countFits", "(II)I"⟩
abbrev cX11_has : ByteArray := prog_1_method_43_code
def yX11_has : MethodName := ⟨RX11, "has", "(II)Z"⟩
abbrev cX11_roomOf : ByteArray := prog_1_method_44_code
def yX11_roomOf : MethodName := ⟨RX11, "roomOf", "(II)I"⟩
abbrev cX11_wishPlace : ByteArray := prog_1_method_45_code
def yX11_wishPlace : MethodName := ⟨RX11, "wishPlace", "(II)I"⟩
abbrev cX11_drawRoom : ByteArray := prog_1_method_46_code
def yX11_drawRoom : MethodName := ⟨RX11, "drawRoom", "(IJ)I"⟩
def RX12 : String := "AloneRoomsModel"
def TX12 : u_T := fun k => match k with
  | 0 => ("AloneRoomsModel", "row", "[I", true)
  | 1 => ("AloneRoomsModel", "isKept", "[Z", true)
  | 2 => ("AloneRoomsModel", "text", "[I", true)
  | 3 => ("AloneRoomsModel", "length", "I", false)
  | 4 => ("AloneRoomsModel", "refused", "[I", true)
  | 5 => ("AloneRoomsModel", "at", "I", false)
  | 6 => ("AloneRoomsModel", "place", "I", false)
  | 7 => ("AloneRoomsModel", "end", "I", false)
  | 8 => ("AloneRoomsModel", "read", "[I", true)
  | 9 => ("AloneRoomsModel", "readMany", "I", false)
  | 10 => ("AloneRoomsModel", "readRooms", "I", false)
  | 11 => ("AloneRoomsModel", "readPeople", "I", false)
  | 12 => ("AloneRoomsModel", "pennies", "[I", true)
  | 13 => ("AloneRoomsModel", "purses", "[I", true)
  | 14 => ("AloneRoomsModel", "costs", "[I", true)
  | 15 => ("AloneRoomsModel", "joined", "I", false)
  | 16 => ("AloneRoomsModel", "fars", "[I", true)
  | _ => ("AloneRoomsModel", "waiting", "[I", true)
def tyX12 : Nat → FieldType := fun k => match k with
  | 0 => .array .int
  | 1 => .array .boolean
  | 2 => .array .int
  | 3 => .int
  | 4 => .array .int
  | 5 => .int
  | 6 => .int
  | 7 => .int
  | 8 => .array .int
  | 9 => .int
  | 10 => .int
  | 11 => .int
  | 12 => .array .int
  | 13 => .array .int
  | 14 => .array .int
  | 15 => .int
  | 16 => .array .int
  | _ => .array .int
abbrev wsX120 : List Cond := u_ws RX12 TX12 18
theorem nmX12 : ∀ a, a < 18 → ∀ b, b < 18 → a ≠ b → (TX12 a).2.1 ≠ (TX12 b).2.1 := by decide +kernel
theorem tyX12_ok : ∀ k, k < 18 → parseFieldDescriptor (TX12 k).2.2.1 = some (tyX12 k) := by decide +kernel
abbrev cX12_init : ByteArray := prog_14_method_1_code
def yX12_init : MethodName := ⟨RX12, "<init>", "()V"⟩
abbrev cX12_in : ByteArray := prog_14_method_2_code
def yX12_in : MethodName := ⟨RX12, "in", "(JJJ)Z"⟩
abbrev cX12_has : ByteArray := prog_14_method_3_code
def yX12_has : MethodName := ⟨RX12, "has", "(II)Z"⟩
abbrev cX12_bits : ByteArray := prog_14_method_4_code
def yX12_bits : MethodName := ⟨RX12, "bits", "(I)I"⟩
abbrev cX12_bad : ByteArray := prog_14_method_5_code
def yX12_bad : MethodName := ⟨RX12, "bad", "(I)I"⟩
abbrev cX12_no : ByteArray := prog_14_method_6_code
def yX12_no : MethodName := ⟨RX12, "no", "()I"⟩
abbrev cX12_full : ByteArray := prog_14_method_7_code
def yX12_full : MethodName := ⟨RX12, "full", "()I"⟩
abbrev cX12_isRoom : ByteArray := prog_14_method_8_code
def yX12_isRoom : MethodName := ⟨RX12, "isRoom", "(I)Z"⟩
abbrev cX12_isPerson : ByteArray := prog_14_method_9_code
def yX12_isPerson : MethodName := ⟨RX12, "isPerson", "(I)Z"⟩
abbrev cX12_clearAll : ByteArray := prog_14_method_10_code
def yX12_clearAll : MethodName := ⟨RX12, "clearAll", "(I)V"⟩
abbrev cX12_rooms : ByteArray := prog_14_method_11_code
def yX12_rooms : MethodName := ⟨RX12, "rooms", "(I)I"⟩
abbrev cX12_layDoor : ByteArray := prog_14_method_12_code
def yX12_layDoor : MethodName := ⟨RX12, "layDoor", "(IIZ)V"⟩
abbrev cX12_door : ByteArray := prog_14_method_13_code
def yX12_door : MethodName := ⟨RX12, "door", "(IIZ)I"⟩
abbrev cX12_cat : ByteArray := prog_14_method_14_code
def yX12_cat : MethodName := ⟨RX12, "cat", "(IZ)I"⟩
abbrev cX12_lay : ByteArray := prog_14_method_15_code
def yX12_lay : MethodName := ⟨RX12, "lay", "(II)I"⟩
abbrev cX12_addPerson : ByteArray := prog_14_method_16_code
def yX12_addPerson : MethodName := ⟨RX12, "addPerson", "(I)I"⟩
abbrev cX12_person : ByteArray := prog_14_method_17_code
def yX12_person : MethodName := ⟨RX12, "person", "(I)I"⟩
abbrev cX12_law : ByteArray := prog_14_method_18_code
def yX12_law : MethodName := ⟨RX12, "law", "(I)I"⟩
abbrev cX12_wish : ByteArray := prog_14_method_19_code
def yX12_wish : MethodName := ⟨RX12, "wish", "(III)I"⟩
abbrev cX12_type : ByteArray := prog_14_method_20_code
def yX12_type : MethodName := ⟨RX12, "type", "(JI)I"⟩
abbrev cX12_clear : ByteArray := prog_14_method_21_code
def yX12_clear : MethodName := ⟨RX12, "clear", "()I"⟩
abbrev cX12_sort : ByteArray := prog_14_method_22_code
def yX12_sort : MethodName := ⟨RX12, "sort", "(I)I"⟩
abbrev cX12_token : ByteArray := prog_14_method_23_code
def yX12_token : MethodName := ⟨RX12, "token", "()V"⟩
abbrev cX12_isWord : ByteArray := prog_14_method_24_code
def yX12_isWord : MethodName := ⟨RX12, "isWord", "(II)Z"⟩
abbrev cX12_wordOf : ByteArray := prog_14_method_25_code
def yX12_wordOf : MethodName := ⟨RX12, "wordOf", "()I"⟩
abbrev cX12_reads : ByteArray := prog_14_method_26_code
def yX12_reads : MethodName := ⟨RX12, "reads", "(IIII)Z"⟩
abbrev cX12_readsRest : ByteArray := prog_14_method_27_code
def yX12_readsRest : MethodName := ⟨RX12, "readsRest", "(I)Z"⟩
abbrev cX12_readsItem : ByteArray := prog_14_method_28_code
def yX12_readsItem : MethodName := ⟨RX12, "readsItem", "()Z"⟩
abbrev cX12_fault : ByteArray := prog_14_method_29_code
def yX12_fault : MethodName := ⟨RX12, "fault", "()I"⟩
abbrev cX12_tell : ByteArray := prog_14_method_30_code
def yX12_tell : MethodName := ⟨RX12, "tell", "(I)V"⟩
abbrev cX12_read : ByteArray := prog_14_method_31_code
def yX12_read : MethodName := ⟨RX12, "read", "()I"⟩
abbrev cX12_roomIn : ByteArray := prog_14_method_32_code
def yX12_roomIn : MethodName := ⟨RX12, "roomIn", "(II)I"⟩
abbrev cX12_isStanding : ByteArray := prog_14_method_33_code
def yX12_isStanding : MethodName := ⟨RX12, "isStanding", "(I)Z"⟩
abbrev cX12_now : ByteArray := prog_14_method_34_code
def yX12_now : MethodName := ⟨RX12, "now", "()I"⟩
abbrev cX12_isAlone : ByteArray := prog_14_method_35_code
def yX12_isAlone : MethodName := ⟨RX12, "isAlone", "(II)Z"⟩
abbrev cX12_mayGo : ByteArray := prog_14_method_36_code
def yX12_mayGo : MethodName := ⟨RX12, "mayGo", "(II)Z"⟩
abbrev cX12_lays : ByteArray := prog_14_method_37_code
def yX12_lays : MethodName := ⟨RX12, "lays", "(IIIII)Z"⟩
abbrev cX12_laid : ByteArray := prog_14_method_38_code
def yX12_laid : MethodName := ⟨RX12, "laid", "(IIII)I"⟩
abbrev cX12_eldest : ByteArray := prog_14_method_39_code
def yX12_eldest : MethodName := ⟨RX12, "eldest", "(IIIIZ)I"⟩
abbrev cX12_gather : ByteArray := prog_14_method_40_code
def yX12_gather : MethodName := ⟨RX12, "gather", "(III)V"⟩
abbrev cX12_tryBeat : ByteArray := prog_14_method_41_code
def yX12_tryBeat : MethodName := ⟨RX12, "tryBeat", "(II)I"⟩
abbrev cX12_keepPast : ByteArray := prog_14_method_42_code
def yX12_keepPast : MethodName := ⟨RX12, "keepPast", "()V"⟩
abbrev cX12_beat : ByteArray := prog_14_method_43_code
def yX12_beat : MethodName := ⟨RX12, "beat", "(I)I"⟩
abbrev cX12_undo : ByteArray := prog_14_method_44_code
def yX12_undo : MethodName := ⟨RX12, "undo", "()I"⟩
abbrev cX12_standing : ByteArray := prog_14_method_45_code
def yX12_standing : MethodName := ⟨RX12, "standing", "()I"⟩
abbrev cX12_sill : ByteArray := prog_14_method_46_code
def yX12_sill : MethodName := ⟨RX12, "sill", "(I)I"⟩
abbrev cX12_purse : ByteArray := prog_14_method_47_code
def yX12_purse : MethodName := ⟨RX12, "purse", "(I)I"⟩
abbrev cX12_alone : ByteArray := prog_14_method_48_code
def yX12_alone : MethodName := ⟨RX12, "alone", "(I)I"⟩
abbrev cX12_plan : ByteArray := prog_14_method_49_code
def yX12_plan : MethodName := ⟨RX12, "plan", "(I)I"⟩
abbrev cX12_scrap : ByteArray := prog_14_method_50_code
def yX12_scrap : MethodName := ⟨RX12, "scrap", "()I"⟩
abbrev cX12_firstWrong : ByteArray := prog_14_method_51_code
def yX12_firstWrong : MethodName := ⟨RX12, "firstWrong", "()I"⟩
abbrev cX12_judge : ByteArray := prog_14_method_52_code
def yX12_judge : MethodName := ⟨RX12, "judge", "()I"⟩
abbrev cX12_cost : ByteArray := prog_14_method_53_code
def yX12_cost : MethodName := ⟨RX12, "cost", "(I)I"⟩
abbrev cX12_standingOf : ByteArray := prog_14_method_54_code
def yX12_standingOf : MethodName := ⟨RX12, "standingOf", "(I)I"⟩
abbrev cX12_standings : ByteArray := prog_14_method_55_code
def yX12_standings : MethodName := ⟨RX12, "standings", "()I"⟩
abbrev cX12_keepsWishes : ByteArray := prog_14_method_56_code
def yX12_keepsWishes : MethodName := ⟨RX12, "keepsWishes", "(II)Z"⟩
abbrev cX12_by : ByteArray := prog_14_method_57_code
def yX12_by : MethodName := ⟨RX12, "by", "(III)I"⟩
abbrev cX12_layCosts : ByteArray := prog_14_method_58_code
def yX12_layCosts : MethodName := ⟨RX12, "layCosts", "(I)V"⟩
abbrev cX12_firstOf : ByteArray := prog_14_method_59_code
def yX12_firstOf : MethodName := ⟨RX12, "firstOf", "(II)I"⟩
abbrev cX12_least : ByteArray := prog_14_method_60_code
def yX12_least : MethodName := ⟨RX12, "least", "(II)I"⟩
abbrev cX12_fewest : ByteArray := prog_14_method_61_code
def yX12_fewest : MethodName := ⟨RX12, "fewest", "(I)I"⟩
abbrev cX12_quiet : ByteArray := prog_14_method_62_code
def yX12_quiet : MethodName := ⟨RX12, "quiet", "()I"⟩
abbrev cX12_liesOn : ByteArray := prog_14_method_63_code
def yX12_liesOn : MethodName := ⟨RX12, "liesOn", "(III)I"⟩
abbrev cX12_picks : ByteArray := prog_14_method_64_code
def yX12_picks : MethodName := ⟨RX12, "picks", "(III)I"⟩
abbrev cX12_figure : ByteArray := prog_14_method_65_code
def yX12_figure : MethodName := ⟨RX12, "figure", "(II)I"⟩
abbrev cX12_copy : ByteArray := prog_14_method_66_code
def yX12_copy : MethodName := ⟨RX12, "copy", "(II)V"⟩
abbrev cX12_joinTwo : ByteArray := prog_14_method_67_code
def yX12_joinTwo : MethodName := ⟨RX12, "joinTwo", "(II)V"⟩
abbrev cX12_leastBy : ByteArray := prog_14_method_68_code
def yX12_leastBy : MethodName := ⟨RX12, "leastBy", "(I)I"⟩
abbrev cX12_join : ByteArray := prog_14_method_69_code
def yX12_join : MethodName := ⟨RX12, "join", "(I)I"⟩
abbrev cX12_spy : ByteArray := prog_14_method_70_code
def yX12_spy : MethodName := ⟨RX12, "spy", "(II)I"⟩
abbrev cX12_isSoBy : ByteArray := prog_14_method_71_code
def yX12_isSoBy : MethodName := ⟨RX12, "isSoBy", "(II)Z"⟩
abbrev cX12_fits : ByteArray := prog_14_method_72_code
def yX12_fits : MethodName := ⟨RX12, "fits", "()I"⟩
abbrev cX12_was : ByteArray := prog_14_method_73_code
def yX12_was : MethodName := ⟨RX12, "was", "(II)I"⟩
abbrev cX12_rent : ByteArray := prog_14_method_74_code
def yX12_rent : MethodName := ⟨RX12, "rent", "(II)I"⟩
abbrev cX12_drawn : ByteArray := prog_14_method_75_code
def yX12_drawn : MethodName := ⟨RX12, "drawn", "(III)I"⟩
abbrev cX12_image : ByteArray := prog_14_method_76_code
def yX12_image : MethodName := ⟨RX12, "image", "(I)I"⟩
abbrev cX12_from : ByteArray := prog_14_method_77_code
def yX12_from : MethodName := ⟨RX12, "from", "(I)I"⟩
abbrev cX12_status : ByteArray := prog_14_method_78_code
def yX12_status : MethodName := ⟨RX12, "status", "(I)I"⟩
abbrev cX12_countOf : ByteArray := prog_14_method_79_code
def yX12_countOf : MethodName := ⟨RX12, "countOf", "(I)I"⟩
abbrev cX12_count : ByteArray := prog_14_method_80_code
def yX12_count : MethodName := ⟨RX12, "count", "(I)I"⟩
abbrev cX12_digest : ByteArray := prog_14_method_81_code
def yX12_digest : MethodName := ⟨RX12, "digest", "()J"⟩
def RJx145de : String := "java/io/Serializable"
def TJx145de : u_T := fun k => match k with
  | _ => ("", "", "", false)
def tyJx145de : Nat → FieldType := fun k => match k with
  | _ => .int
abbrev wsJx145de0 : List Cond := u_ws RJx145de TJx145de 0
theorem nmJx145de : ∀ a, a < 0 → ∀ b, b < 0 → a ≠ b → (TJx145de a).2.1 ≠ (TJx145de b).2.1 := by decide +kernel
theorem tyJx145de_ok : ∀ k, k < 0 → parseFieldDescriptor (TJx145de k).2.2.1 = some (tyJx145de k) := by decide +kernel
def RJx9f9b0 : String := "java/lang/CharSequence"
def TJx9f9b0 : u_T := fun k => match k with
  | _ => ("", "", "", false)
def tyJx9f9b0 : Nat → FieldType := fun k => match k with
  | _ => .int
abbrev wsJx9f9b00 : List Cond := u_ws RJx9f9b0 TJx9f9b0 0
theorem nmJx9f9b0 : ∀ a, a < 0 → ∀ b, b < 0 → a ≠ b → (TJx9f9b0 a).2.1 ≠ (TJx9f9b0 b).2.1 := by decide +kernel
theorem tyJx9f9b0_ok : ∀ k, k < 0 → parseFieldDescriptor (TJx9f9b0 k).2.2.1 = some (tyJx9f9b0 k) := by decide +kernel
def RJxb160c : String := "java/lang/Comparable"
def TJxb160c : u_T := fun k => match k with
  | _ => ("", "", "", false)
def tyJxb160c : Nat → FieldType := fun k => match k with
  | _ => .int
abbrev wsJxb160c0 : List Cond := u_ws RJxb160c TJxb160c 0
theorem nmJxb160c : ∀ a, a < 0 → ∀ b, b < 0 → a ≠ b → (TJxb160c a).2.1 ≠ (TJxb160c b).2.1 := by decide +kernel
theorem tyJxb160c_ok : ∀ k, k < 0 → parseFieldDescriptor (TJxb160c k).2.2.1 = some (tyJxb160c k) := by decide +kernel
def RJ6 : String := "java/lang/Integer"
def TJ6 : u_T := fun k => match k with
  | _ => ("", "", "", false)
def tyJ6 : Nat → FieldType := fun k => match k with
  | _ => .int
abbrev wsJ60 : List Cond := u_ws RJ6 TJ6 0
theorem nmJ6 : ∀ a, a < 0 → ∀ b, b < 0 → a ≠ b → (TJ6 a).2.1 ≠ (TJ6 b).2.1 := by decide +kernel
theorem tyJ6_ok : ∀ k, k < 0 → parseFieldDescriptor (TJ6 k).2.2.1 = some (tyJ6 k) := by decide +kernel
abbrev cJ6_numberOfTrailingZeros_0f7a4 : ByteArray := prog_15_method_48_code
def yJ6_numberOfTrailingZeros_0f7a4 : MethodName := ⟨RJ6, "numberOfTrailingZeros", "(I)I"⟩
abbrev cJ6_bitCount_0f7a4 : ByteArray := prog_15_method_49_code
def yJ6_bitCount_0f7a4 : MethodName := ⟨RJ6, "bitCount", "(I)I"⟩
def RJ9 : String := "java/lang/Math"
def TJ9 : u_T := fun k => match k with
  | _ => ("", "", "", false)
def tyJ9 : Nat → FieldType := fun k => match k with
  | _ => .int
abbrev wsJ90 : List Cond := u_ws RJ9 TJ9 0
theorem nmJ9 : ∀ a, a < 0 → ∀ b, b < 0 → a ≠ b → (TJ9 a).2.1 ≠ (TJ9 b).2.1 := by decide +kernel
theorem tyJ9_ok : ∀ k, k < 0 → parseFieldDescriptor (TJ9 k).2.2.1 = some (tyJ9 k) := by decide +kernel
abbrev cJ9_max_7cf53 : ByteArray := prog_16_method_65_code
def yJ9_max_7cf53 : MethodName := ⟨RJ9, "max", "(II)I"⟩
abbrev cJ9_min_7cf53 : ByteArray := prog_16_method_69_code
def yJ9_min_7cf53 : MethodName := ⟨RJ9, "min", "(II)I"⟩
def RJ0 : String := "java/lang/String"
def TJ0 : u_T := fun k => match k with
  | _ => ("", "", "", false)
def tyJ0 : Nat → FieldType := fun k => match k with
  | _ => .int
abbrev wsJ00 : List Cond := u_ws RJ0 TJ0 0
theorem nmJ0 : ∀ a, a < 0 → ∀ b, b < 0 → a ≠ b → (TJ0 a).2.1 ≠ (TJ0 b).2.1 := by decide +kernel
theorem tyJ0_ok : ∀ k, k < 0 → parseFieldDescriptor (TJ0 k).2.2.1 = some (tyJ0 k) := by decide +kernel
abbrev cJ0_length_8abf5 : ByteArray := prog_17_method_54_code
def yJ0_length_8abf5 : MethodName := ⟨RJ0, "length", "()I"⟩
abbrev cJ0_charAt_5068e : ByteArray := prog_17_method_56_code
def yJ0_charAt_5068e : MethodName := ⟨RJ0, "charAt", "(I)C"⟩
abbrev cJ0_coder_7d493 : ByteArray := prog_17_method_152_code
def yJ0_coder_7d493 : MethodName := ⟨RJ0, "coder", "()B"⟩
abbrev cJ0_isLatin1_aae02 : ByteArray := prog_17_method_154_code
def yJ0_isLatin1_aae02 : MethodName := ⟨RJ0, "isLatin1", "()Z"⟩
abbrev cJ0_checkIndex_df160 : ByteArray := prog_17_method_155_code
def yJ0_checkIndex_df160 : MethodName := ⟨RJ0, "checkIndex", "(II)V"⟩
def RJ1 : String := "java/lang/StringLatin1"
def TJ1 : u_T := fun k => match k with
  | _ => ("", "", "", false)
def tyJ1 : Nat → FieldType := fun k => match k with
  | _ => .int
abbrev wsJ10 : List Cond := u_ws RJ1 TJ1 0
theorem nmJ1 : ∀ a, a < 0 → ∀ b, b < 0 → a ≠ b → (TJ1 a).2.1 ≠ (TJ1 b).2.1 := by decide +kernel
theorem tyJ1_ok : ∀ k, k < 0 → parseFieldDescriptor (TJ1 k).2.2.1 = some (tyJ1 k) := by decide +kernel
abbrev cJ1_charAt_3b067 : ByteArray := prog_18_method_2_code
def yJ1_charAt_3b067 : MethodName := ⟨RJ1, "charAt", "([BI)C"⟩
def RJ2 : String := "java/lang/StringUTF16"
def TJ2 : u_T := fun k => match k with
  | _ => ("", "", "", false)
def tyJ2 : Nat → FieldType := fun k => match k with
  | _ => .int
abbrev wsJ20 : List Cond := u_ws RJ2 TJ2 0
theorem nmJ2 : ∀ a, a < 0 → ∀ b, b < 0 → a ≠ b → (TJ2 a).2.1 ≠ (TJ2 b).2.1 := by decide +kernel
theorem tyJ2_ok : ∀ k, k < 0 → parseFieldDescriptor (TJ2 k).2.2.1 = some (tyJ2 k) := by decide +kernel
abbrev cJ2_getChar_3b067 : ByteArray := prog_19_method_5_code
def yJ2_getChar_3b067 : MethodName := ⟨RJ2, "getChar", "([BI)C"⟩
abbrev cJ2_length_9d52b : ByteArray := prog_19_method_6_code
def yJ2_length_9d52b : MethodName := ⟨RJ2, "length", "([B)I"⟩
abbrev cJ2_charAt_3b067 : ByteArray := prog_19_method_83_code
def yJ2_charAt_3b067 : MethodName := ⟨RJ2, "charAt", "([BI)C"⟩
abbrev cJ2_checkIndex_2214a : ByteArray := prog_19_method_91_code
def yJ2_checkIndex_2214a : MethodName := ⟨RJ2, "checkIndex", "(I[B)V"⟩
def RJ10 : String := "java/lang/System"
def TJ10 : u_T := fun k => match k with
  | _ => ("", "", "", false)
def tyJ10 : Nat → FieldType := fun k => match k with
  | _ => .int
abbrev wsJ100 : List Cond := u_ws RJ10 TJ10 0
theorem nmJ10 : ∀ a, a < 0 → ∀ b, b < 0 → a ≠ b → (TJ10 a).2.1 ≠ (TJ10 b).2.1 := by decide +kernel
theorem tyJ10_ok : ∀ k, k < 0 → parseFieldDescriptor (TJ10 k).2.2.1 = some (tyJ10 k) := by decide +kernel
def RJxfd54e : String := "java/lang/constant/Constable"
def TJxfd54e : u_T := fun k => match k with
  | _ => ("", "", "", false)
def tyJxfd54e : Nat → FieldType := fun k => match k with
  | _ => .int
abbrev wsJxfd54e0 : List Cond := u_ws RJxfd54e TJxfd54e 0
theorem nmJxfd54e : ∀ a, a < 0 → ∀ b, b < 0 → a ≠ b → (TJxfd54e a).2.1 ≠ (TJxfd54e b).2.1 := by decide +kernel
theorem tyJxfd54e_ok : ∀ k, k < 0 → parseFieldDescriptor (TJxfd54e k).2.2.1 = some (tyJxfd54e k) := by decide +kernel
def RJx3cf43 : String := "java/lang/constant/ConstantDesc"
def TJx3cf43 : u_T := fun k => match k with
  | _ => ("", "", "", false)
def tyJx3cf43 : Nat → FieldType := fun k => match k with
  | _ => .int
abbrev wsJx3cf430 : List Cond := u_ws RJx3cf43 TJx3cf43 0
theorem nmJx3cf43 : ∀ a, a < 0 → ∀ b, b < 0 → a ≠ b → (TJx3cf43 a).2.1 ≠ (TJx3cf43 b).2.1 := by decide +kernel
theorem tyJx3cf43_ok : ∀ k, k < 0 → parseFieldDescriptor (TJx3cf43 k).2.2.1 = some (tyJx3cf43 k) := by decide +kernel
def RJ7 : String := "java/util/Arrays"
def TJ7 : u_T := fun k => match k with
  | _ => ("", "", "", false)
def tyJ7 : Nat → FieldType := fun k => match k with
  | _ => .int
abbrev wsJ70 : List Cond := u_ws RJ7 TJ7 0
theorem nmJ7 : ∀ a, a < 0 → ∀ b, b < 0 → a ≠ b → (TJ7 a).2.1 ≠ (TJ7 b).2.1 := by decide +kernel
theorem tyJ7_ok : ∀ k, k < 0 → parseFieldDescriptor (TJ7 k).2.2.1 = some (tyJ7 k) := by decide +kernel
abbrev cJ7_fill_53178 : ByteArray := prog_21_method_103_code
def yJ7_fill_53178 : MethodName := ⟨RJ7, "fill", "([II)V"⟩
def RJ3 : String := "jdk/internal/util/Preconditions"
def TJ3 : u_T := fun k => match k with
  | _ => ("", "", "", false)
def tyJ3 : Nat → FieldType := fun k => match k with
  | _ => .int
abbrev wsJ30 : List Cond := u_ws RJ3 TJ3 0
theorem nmJ3 : ∀ a, a < 0 → ∀ b, b < 0 → a ≠ b → (TJ3 a).2.1 ≠ (TJ3 b).2.1 := by decide +kernel
theorem tyJ3_ok : ∀ k, k < 0 → parseFieldDescriptor (TJ3 k).2.2.1 = some (tyJ3 k) := by decide +kernel
abbrev cJ3_checkIndex_8e157 : ByteArray := prog_22_method_11_code
def yJ3_checkIndex_8e157 : MethodName := ⟨RJ3, "checkIndex", "(IILjava/util/function/BiFunction;)I"⟩
def RL : String := "AloneRoomsLaw"
abbrev cL_law : ByteArray := code
def yL_law : MethodName := ⟨RL, "law", "([I)Z"⟩
abbrev vwCl : List vw_C := [(RX0, TX0, 0), (RX1, TX1, 0), (RX2, TX2, 11), (RX3, TX3, 0), (RX4, TX4, 15), (RX5, TX5, 0), (RX6, TX6, 7), (RX7, TX7, 0), (RX8, TX8, 7), (RX9, TX9, 6), (RX10, TX10, 3), (RX11, TX11, 13), (RX12, TX12, 18)]
end
section
/-- how many cells both objects have -/
abbrev NC : Nat := 85
def lkL : List Nat := [11, 4, 13, 13, 13, 13, 13, 13, 13, 4, 13, 13, 13, 13, 13, 13, 13, 15, 4, 13, 13, 13, 13, 13, 13, 13, 4, 13, 13, 13, 13, 13, 13, 13, 14, 8, 13, 16, 5, 1, 3, 7, 0, 10, 13, 2, 13, 17, 13, 13, 13, 13, 13, 17, 13, 13, 13, 13, 13, 10, 13, 10, 13, 6, 17, 13, 13, 13, 13, 10, 13, 9, 13, 13, 12, 13, 14, 13, 13, 13, 13, 13, 13, 13, 13]
def lnL : List Nat := [0, 0, 5, 5, 5, 4, 16, 8, 80, 0, 5, 5, 5, 4, 16, 8, 80, 2, 0, 5, 5, 5, 4, 16, 8, 80, 0, 5, 5, 5, 4, 16, 8, 80, 2, 0, 200, 5, 0, 0, 0, 0, 0, 0, 4, 0, 5, 5, 4, 4, 4, 4, 4, 3, 2341, 2341, 2341, 5, 2341, 0, 4, 0, 4, 0, 2, 2341, 2341, 1250, 2341, 0, 4, 0, 7, 7, 0, 632, 2, 200, 3, 400, 5, 4, 20480, 8192, 8192]
def finL : List (List (Option Nat)) := [[some 1, some 9, some 17, some 34, some 35, some 37, some 43, some 45, some 63, some 71, none, none, none], [none, none, none, none, none, none, none, none, some 2, some 3, some 4, some 5, some 6, some 7, some 8], [], [], [], [], [], [], [], [none, none, none, none, none, none, none, none, some 10, some 11, some 12, some 13, some 14, some 15, some 16], [], [], [], [], [], [], [], [some 18, some 26], [none, none, none, none, none, none, none, none, some 19, some 20, some 21, some 22, some 23, some 24, some 25], [], [], [], [], [], [], [], [none, none, none, none, none, none, none, none, some 27, some 28, some 29, some 30, some 31, some 32, some 33], [], [], [], [], [], [], [], [], [none, some 36, none, none, none, none, none], [], [some 38, some 39, some 40, some 41, some 42], [], [], [], [], [], [none, none, some 44], [], [some 46, none, none, none, none, some 47, some 53, some 57, some 58, some 59, some 61], [], [some 48, some 49, some 50, some 51, some 52], [], [], [], [], [], [some 54, some 55, some 56], [], [], [], [], [], [none, none, some 60], [], [none, none, some 62], [], [none, none, some 64, some 67, none, some 68, some 69], [some 65, some 66], [], [], [], [], [none, none, some 70], [], [none, none, some 72, none, none, some 73], [], [], [some 75, some 76, some 77, none, some 78, none, none, none, some 79, none, none, none, some 80, some 81, some 82, none, some 83, some 84], [], [], [], [], [], [], [], [], [], []]
def fkL : List (List Nat) := [[], [], [1, 2, 2, 0, 0, 1, 1, 1, 1, 1, 1], [], [0, 0, 0, 0, 0, 0, 0, 0, 1, 1, 1, 1, 1, 1, 1], [], [2, 2, 1, 1, 0, 1, 1], [], [0, 1, 0, 0, 0, 0, 0], [0, 0, 1, 2, 0, 1], [0, 0, 1], [1, 1, 1, 1, 1, 1, 1, 1, 1, 1, 0, 0, 0], [1, 1, 1, 0, 1, 0, 0, 0, 1, 0, 0, 0, 1, 1, 1, 0, 1, 1]]
/-- what kind a cell is of: below 13 an object of that class of vwCl; 13 ints, 14 booleans, 15 Houses, 16 laws, 17 rows of ints -/
def lk (c : Nat) : Nat := lkL.getD c 99
/-- how long an array is -/
def ln (c : Nat) : Nat := lnL.getD c 0
/-- what is set once for all: a final reference's cell, an element of a row of references -/
def fin (c i : Nat) : Option Nat := (finL.getD c []).getD i none
/-- a class's fields: 0 an int, 1 a final reference, 2 a reference that changes -/
def fk (k : Nat) : List Nat := fkL.getD k []
abbrev Mem : Type := Nat → Nat → Int32
def upA (I : Mem) (c : Nat) (f : Nat → Int32) : Mem := fun a => if a = c then f else I a
def up2 (I : Mem) (c i : Nat) (v : Int32) : Mem := upA I c (upd (I c) i v)
def enc (k : Nat) : Int32 := nI (k + 1)
def dec (x : Int32) : Option Nat := if x = 0 then none else some (x.toNatClampNeg - 1)
theorem dec_enc {k : Nat} (h : k + 1 < 2 ^ 31) : dec (enc k) = some k := by
  unfold dec enc
  rw [if_neg (nI_ne0 (by omega) h), nI_clamp h]
  rfl
/-- launch, class numbers, slots, array classes, addresses, the first address that is ours -/
abbrev EV : Type := Launch × (Nat → ClassId) × (Nat → Nat → Nat) × (Nat → ClassId) × (Nat → Nat) × Nat
abbrev eD (E : EV) : va_G := (E.2.1, E.2.2.1)
abbrev eC (E : EV) : Nat → ClassId := E.2.2.2.1
abbrev eAd (E : EV) : Nat → Nat := E.2.2.2.2.1
abbrev eA (E : EV) : Nat → Prop := fun q => E.2.2.2.2.2 ≤ q
abbrev eTy (E : EV) : List (ClassId × FieldType) := [(eC E 0, .int), (eC E 1, .boolean), (eC E 2, .object "AloneRooms$House"), (eC E 3, .object "AloneRooms$Once"), (eC E 4, .array .int)]
/-- an abstract value's address -/
def tv (E : EV) : Value → Value
  | .ref k => .ref (eAd E k)
  | v => v
theorem tv_cat (E : EV) (v : Value) : (tv E v).category = v.category := by cases v <;> rfl
def fv (E : EV) (I : Mem) (c i k : Nat) : Value := if k = 0 then .int (I c i) else if k = 1 then va_rf ((fin c i).map (eAd E)) else va_rf ((dec (I c i)).map (eAd E))
def fds (E : EV) (I : Mem) (c : Nat) : List Value := (List.range (fk (lk c)).length).map (fun i => fv E I c i ((fk (lk c)).getD i 0))
def pic (E : EV) (I : Mem) (c : Nat) : va_E :=
  if lk c = 13 then .inl (eC E 0, ln c, .inl (I c))
  else if lk c = 14 then .inl (eC E 1, ln c, .inl (I c))
  else if lk c = 15 then .inl (eC E 2, ln c, .inr (.inr (.inr (.inr (fun j => (fin c j).map (eAd E))))))
  else if lk c = 16 then .inl (eC E 3, ln c, .inr (.inr (.inr (.inr (fun j => (fin c j).map (eAd E))))))
  else if lk c = 17 then .inl (eC E 4, ln c, .inr (.inr (.inr (.inr (fun j => (fin c j).map (eAd E))))))
  else .inr (lk c, fds E I c)
def wl (E : EV) (I : Mem) : va_W := (List.range NC).map (fun c => (eAd E c, pic E I c))
theorem wl_get (E : EV) (I : Mem) {c : Nat} (h : c < NC) : (wl E I)[c]? = some (eAd E c, pic E I c) := by
  unfold wl
  rw [List.getElem?_map, List.getElem?_range h]
  rfl
theorem wl_set (E : EV) (I J : Mem) {c : Nat} (h : c < NC) (hp : ∀ a, a ≠ c → pic E J a = pic E I a) : (wl E I).set c (eAd E c, pic E J c) = wl E J := by
  apply List.ext_getElem?
  intro k
  by_cases hk : k < NC
  · rw [wl_get E J hk]
    by_cases e : c = k
    · subst e
      rw [List.getElem?_set_self (by unfold wl; rw [List.length_map, List.length_range]; exact h)]
    · rw [List.getElem?_set_ne e, wl_get E I hk, hp k (fun q => e q.symm)]
  · rw [List.getElem?_eq_none (by rw [List.length_set]; unfold wl; rw [List.length_map, List.length_range]; omega), List.getElem?_eq_none (by unfold wl; rw [List.length_map, List.length_range]; omega)]
theorem pic_upA_ne (E : EV) (I : Mem) (c : Nat) (f : Nat → Int32) (a : Nat) (h : a ≠ c) : pic E (upA I c f) a = pic E I a := by
  have e : upA I c f a = I a := if_neg h
  unfold pic fds fv
  simp only [e]
theorem upA_self (I : Mem) (c : Nat) (f : Nat → Int32) : upA I c f c = f := if_pos rfl
theorem pic_i (E : EV) (I : Mem) {c : Nat} (h : lk c = 13) : pic E I c = .inl (eC E 0, ln c, .inl (I c)) := if_pos h
theorem pic_z (E : EV) (I : Mem) {c : Nat} (h : lk c = 14) : pic E I c = .inl (eC E 1, ln c, .inl (I c)) := by
  unfold pic
  rw [if_neg (by rw [h]; decide), if_pos h]
theorem pic_h (E : EV) (I : Mem) {c : Nat} (h : lk c = 15) : pic E I c = .inl (eC E 2, ln c, .inr (.inr (.inr (.inr (fun j => (fin c j).map (eAd E)))))) := by
  unfold pic
  rw [if_neg (by rw [h]; decide), if_neg (by rw [h]; decide), if_pos h]
theorem pic_o (E : EV) (I : Mem) {c : Nat} (h : lk c = 16) : pic E I c = .inl (eC E 3, ln c, .inr (.inr (.inr (.inr (fun j => (fin c j).map (eAd E)))))) := by
  unfold pic
  rw [if_neg (by rw [h]; decide), if_neg (by rw [h]; decide), if_neg (by rw [h]; decide), if_pos h]
theorem pic_a (E : EV) (I : Mem) {c : Nat} (h : lk c = 17) : pic E I c = .inl (eC E 4, ln c, .inr (.inr (.inr (.inr (fun j => (fin c j).map (eAd E)))))) := by
  unfold pic
  rw [if_neg (by rw [h]; decide), if_neg (by rw [h]; decide), if_neg (by rw [h]; decide), if_neg (by rw [h]; decide), if_pos h]
theorem pic_r (E : EV) (I : Mem) {c : Nat} (h : lk c < 13) : pic E I c = .inr (lk c, fds E I c) := by
  unfold pic
  rw [if_neg (by omega), if_neg (by omega), if_neg (by omega), if_neg (by omega), if_neg (by omega)]
theorem fds_get (E : EV) (I : Mem) {c i k : Nat} (h : (fk (lk c))[i]? = some k) : (fds E I c)[i]? = some (fv E I c i k) := by
  have hl : i < (fk (lk c)).length := (List.getElem?_eq_some_iff.mp h).1
  unfold fds
  rw [List.getElem?_map, List.getElem?_range hl]
  show some (fv E I c i ((fk (lk c)).getD i 0)) = _
  rw [List.getD_eq_getElem?_getD, h]
  rfl
theorem fds_len (E : EV) (I : Mem) (c : Nat) : (fds E I c).length = (fk (lk c)).length := by
  unfold fds
  rw [List.length_map, List.length_range]
theorem fds_set (E : EV) (I : Mem) {c i k : Nat} {x : Int32} (h : (fk (lk c))[i]? = some k) (hk : k ≠ 1) : (fds E I c).set i (fv E (up2 I c i x) c i k) = fds E (up2 I c i x) c := by
  apply List.ext_getElem?
  intro j
  have hl : i < (fk (lk c)).length := (List.getElem?_eq_some_iff.mp h).1
  by_cases hj : j < (fk (lk c)).length
  · have hj2 : (fk (lk c))[j]? = some ((fk (lk c))[j]) := List.getElem?_eq_getElem hj
    rw [fds_get E (up2 I c i x) hj2]
    by_cases e : i = j
    · subst e
      rw [List.getElem?_set_self (by rw [fds_len]; exact hl)]
      rw [h] at hj2
      rw [Option.some.inj hj2]
    · rw [List.getElem?_set_ne e, fds_get E I hj2]
      have e2 : up2 I c i x c j = I c j := by
        unfold up2
        rw [upA_self]
        exact if_neg (fun q => e q.symm)
      unfold fv
      rw [e2]
  · rw [List.getElem?_eq_none (by rw [List.length_set, fds_len]; omega), List.getElem?_eq_none (by rw [fds_len]; omega)]
theorem up2_self (I : Mem) (c i : Nat) (x : Int32) : up2 I c i x c i = x := by
  unfold up2
  rw [upA_self]
  exact if_pos rfl
/-- a method: its name, its bytes, its locals, what it returns -/
abbrev MD : Type := MethodName × ByteArray × Nat × Option FieldType
/-- the words that stay when the tables warm -/
def lw_g : List Cond := lw_tbl.filter goodWord
def isNest : Cond → Bool
  | .methodLinkNest _ _ _ _ => true
  | _ => false
def lw_n : List Cond := lw_tbl.filter isNest
/-- the String constants of the reader: entry, text -/
def strT : List (Nat × String) := [(96, "rooms"), (102, "door"), (104, "cat"), (106, "sill"), (108, "person"), (110, "wish"), (112, "law")]
def strN : List Nat := [5, 4, 3, 4, 6, 4, 3]
def strB : List (List Int32) := [[114, 111, 111, 109, 115], [100, 111, 111, 114], [99, 97, 116], [115, 105, 108, 108], [112, 101, 114, 115, 111, 110], [119, 105, 115, 104], [108, 97, 119]]
/-- what holds of a method's start -/
def CF (E : EV) (s : State) : Prop :=
  (∀ w ∈ lw_g, w.before #[] s = true) ∧ (∀ w ∈ lw_n, va_Nw w s) ∧ E.2.2.2.2.2 ≤ s.heap.size ∧ va_K (eD E) vwCl (eTy E) s ∧
  (∀ i : Nat, i < 7 → vk_R RX8 (strT.getD i (0, "")).1 (strT.getD i (0, "")).2 (eAd E (1000 + i)) s) ∧
  vk_S 7 strN strB (fun i => eAd E (1000 + i)) (fun i => eAd E (1010 + i)) (eA E) s s.heap ∧ va_Z "java/lang/String" "COMPACT_STRINGS" "Z" (.int 1) (eA E) s s.heap
theorem good_word {w : Cond} (h : w ∈ lw_g) : (w.onTables && w.keeps) = true ∨ ∃ ty, w = .arrayClass ty := good_of_word (List.mem_filter.mp h).2
theorem CF.hts {E : EV} {s : State} (h : CF E s) (args : Array Value) : ∀ w ∈ lw_g, w.before args s = true := fun w hw => word_at (State.WarmedH.refl s) (good_word hw) (h.1 w hw)
theorem nest_warm {s U : State} (hW : s.WarmedH U.vm) {w : Cond} (hw : w ∈ lw_n) (h : va_Nw w s) : va_Nw w U := by
  have h2 := (List.mem_filter.mp hw).2
  cases w with
  | methodLinkNest a i x b => exact va_Nw.warmM hW h
  | _ => simp [isNest] at h2
theorem CF.call {E : EV} {s U : State} {H : Heap} {locs : List Loc} (h : CF E s) (hS : va_S (eA E) s.heap H locs) (hU : U.heap = H) (hW : s.WarmedH U.vm) : CF E U := by
  obtain ⟨h1, h2, h3, h4, h5, h6, h7⟩ := h
  refine ⟨fun w hw => word_at hW (good_word hw) (h1 w hw), fun w hw => nest_warm hW hw (h2 w hw), ?_, va_K.moved hW.alike h4, fun i hi => (h5 i hi).warm hW, ?_, ?_⟩
  · rw [hU]
    exact Nat.le_trans h3 hS.1
  · rw [hU]
    exact (h6.moved hW.alike).kept hS.2.1
  · rw [hU]
    exact (h7.moved hW.alike).kept hS.2.1
theorem CF.blind {E : EV} {U : State} (h : CF E U) (g : JFrame) (mk : MethodId) (a : Array Value) : CF E (U.calling g mk a) := by
  obtain ⟨h1, h2, h3, h4, h5, h6, h7⟩ := h
  have hW : U.WarmedH (U.calling g mk a).vm := State.WarmedH.refl U
  exact ⟨fun w hw => word_at hW (good_word hw) (h1 w hw), fun w hw => nest_warm hW hw (h2 w hw), h3, va_K.moved hW.alike h4, fun i hi => (h5 i hi).warm hW, h6.moved hW.alike, h7.moved hW.alike⟩
/-- a method's room -/
abbrev rmd (d : Nat) : Room := { frames := d, cells := 0, slots := 0, locals := 60 * d }
/-- a method's end: its answer, the memory behind it -/
def Qr (E : EV) (r : Option Value × Mem) : Array Value → State → Outcome → State → Prop := fun _ st oc t => (oc = .returned (r.1.map (tv E)) ∧ va_P (eD E) vwCl (wl E r.2) t.heap ∧ va_D (eA E) (wl E r.2)) ∧ va_F (eA E) st t
/-- A METHOD'S CONTRACT: with these arguments over this memory it answers so and leaves the memory so -/
def Gm (E : EV) (d : Nat) (k : MD) (av : List Value) (I : Mem) (r : Option Value × Mem) : Prop :=
  Met E.1 k.1 [.code k.1 k.2.1 k.2.2.1 k.2.2.2] (rmd d) (va_Pc (av.map (tv E)) (fun U => CF E U ∧ va_P (eD E) vwCl (wl E I) U.heap ∧ va_D (eA E) (wl E I))) (Qr E r) 0 0 (eA E)
/-- the locals as pairs -/
def asc (E : EV) : Nat → List (Option Value) → List (Nat × Value)
  | _, [] => []
  | i, none :: t => asc E (i + 1) t
  | i, some v :: t => (i, tv E v) :: asc E (i + 1) t
theorem asc_mem (E : EV) {q : Nat × Value} : ∀ (L : List (Option Value)) (i : Nat), q ∈ asc E i L ↔ ∃ k v, q = (i + k, tv E v) ∧ L[k]? = some (some v)
  | [], i => by simp [asc]
  | none :: t, i => by
    rw [asc, asc_mem E t (i + 1)]
    constructor
    · rintro ⟨k, v, h1, h2⟩
      exact ⟨k + 1, v, by rw [h1]; congr 1; omega, by simpa using h2⟩
    · rintro ⟨k, v, h1, h2⟩
      cases k with
      | zero => simp at h2
      | succ k => exact ⟨k, v, by rw [h1]; congr 1; omega, by simpa using h2⟩
  | some w :: t, i => by
    rw [asc, List.mem_cons, asc_mem E t (i + 1)]
    constructor
    · rintro (h | ⟨k, v, h1, h2⟩)
      · exact ⟨0, w, h, rfl⟩
      · exact ⟨k + 1, v, by rw [h1]; congr 1; omega, by simpa using h2⟩
    · rintro ⟨k, v, h1, h2⟩
      cases k with
      | zero =>
        left
        simp at h2
        rw [h1, h2]
        rfl
      | succ k => exact Or.inr ⟨k, v, by rw [h1]; congr 1; omega, by simpa using h2⟩
/-- what holds in a method's body -/
def Cx (E : EV) (k : MD) (p : Program) (s : State) (m : MethodId) (meth : Method) (c : Code) : Prop :=
  p.tables.exec = Jvm.exec ∧ c.code = k.2.1 ∧ meth.sig.returnType = k.2.2.2 ∧ c.maxLocals = k.2.2.1 ∧ s.vm.findClass k.1.cls = some m.cls ∧ meth.locks = false ∧ CF E s
/-- AT A PLACE OF A METHOD: from here, with these locals, this stack and this memory, it comes to the end r -/
def G (E : EV) (d : Nat) (k : MD) (pc : Nat) (L : List (Option Value)) (st : List Value) (I : Mem) (r : Option Value × Mem) : Prop :=
  ∀ (p : Program) (e : Env) (s : State) (m : MethodId) (args : Array Value) (below : List Frame) (meth : Method) (c : Code) (H : Heap) (locs : List Loc) (ls : Array Slot),
    Cx E k p s m meth c → va_P (eD E) vwCl (wl E I) H → va_D (eA E) (wl E I) → va_S (eA E) s.heap H locs → lv_has ls k.2.2.1 (asc E 0 L) →
    W p E.1 e (rmd d) s m args below meth c H locs 0 0 (MQ below (Qr E r) args s 0 0 (eA E)) (F0 m pc ls (st.map (tv E)))
/-- the locals at a method's entry -/
def ent : List Value → List (Option Value)
  | [] => []
  | v :: vs => if v.category = 2 then some v :: none :: ent vs else some v :: ent vs
theorem ent_args (E : EV) : ∀ (vs : List Value) (i : Nat), asc E i (ent vs) = lv_args i (vs.map (tv E))
  | [], i => rfl
  | v :: vs, i => by
    by_cases h : v.category = 2
    · have h2 : (tv E v).category = 2 := by rw [tv_cat]; exact h
      simp only [ent, if_pos h, List.map_cons, lv_args, if_pos h2, asc]
      rw [ent_args E vs]
    · have h2 : ¬ (tv E v).category = 2 := by rw [tv_cat]; exact h
      simp only [ent, if_neg h, List.map_cons, lv_args, if_neg h2, asc]
      rw [ent_args E vs]
theorem asc_app (E : EV) (n : Nat) : ∀ (L : List (Option Value)) (i : Nat), asc E i (L ++ List.replicate n none) = asc E i L
  | [], i => by
    induction n generalizing i with
    | zero => rfl
    | succ n ih =>
      simp only [List.nil_append, List.replicate_succ, asc] at ih ⊢
      exact ih (i + 1)
  | none :: t, i => by simp only [List.cons_append, asc]; exact asc_app E n t (i + 1)
  | some v :: t, i => by simp only [List.cons_append, asc]; rw [asc_app E n t (i + 1)]
theorem lg_sl_tv (E : EV) : ∀ vs : List Value, (lg_sl (vs.map (tv E))).length = (ent vs).length
  | [] => rfl
  | v :: vs => by
    have ih := lg_sl_tv E vs
    by_cases h : v.category = 2
    · have h2 : (tv E v).category = 2 := by rw [tv_cat]; exact h
      simp only [lg_sl, List.map_cons, List.flatMap_cons, List.length_append] at ih ⊢
      simp only [ent, if_pos h, List.length_cons]
      rw [ih]
      cases hv : tv E v <;> rw [hv] at h2 <;> simp_all [Value.category] <;> omega
    · have h2 : ¬ (tv E v).category = 2 := by rw [tv_cat]; exact h
      simp only [lg_sl, List.map_cons, List.flatMap_cons, List.length_append] at ih ⊢
      simp only [ent, if_neg h, List.length_cons]
      rw [ih]
      cases hv : tv E v <;> rw [hv] at h2 <;> simp_all [Value.category] <;> omega
end
section
section GR
variable {E : EV} {d : Nat} {k : MD} {pc : Nat} {L L' : List (Option Value)} {st : List Value} {I : Mem} {r : Option Value × Mem}
/-- a method's contract out of its body -/
theorem Gm.of {av : List Value} {L : List (Option Value)} (hy : plainName k.1.cls = true) (hL : ent av ++ List.replicate (k.2.2.1 - (ent av).length) none = L) (hn : (ent av).length ≤ k.2.2.1) (h : G E d k 0 L [] I r) : Gm E d k av I r := by
  subst hL
  refine Met.ofW (cc := k.2.1) (maxL := k.2.2.1) (ret := k.2.2.2) hy rfl ?_
  intro p e s m args below meth c s₁ B hml hv
  obtain ⟨rfl, hCF, hP, hD⟩ := hv
  have hl := lv_entry (av.map (tv E)) (n := k.2.2.1) (by rw [lg_sl_tv]; exact hn)
  rw [lg_entry_eq]
  refine h p e s m _ below meth c s.heap [] _ ⟨B.exec, B.bytes, B.returns, hml, findClass_of_methodNamed B.named, B.notSynchronized, hCF⟩ hP hD va_S.rf ?_
  rw [asc_app, ent_args]
  exact hl
/-- locals that are dead are forgotten -/
def lforget : List (Option Value) → List Nat → List (Option Value)
  | L, [] => L
  | L, i :: is => lforget (L.set i none) is
theorem lforget_get : ∀ (is : List Nat) (L : List (Option Value)) (j : Nat) (v : Value), (lforget L is)[j]? = some (some v) → L[j]? = some (some v)
  | [], L, j, v, h => h
  | i :: is, L, j, v, h => by
    have h2 := lforget_get is (L.set i none) j v h
    by_cases e : i = j
    · subst e
      by_cases hl : i < L.length
      · rw [List.getElem?_set_self hl] at h2; cases h2
      · rw [List.getElem?_eq_none (by rw [List.length_set]; omega)] at h2; cases h2
    · rwa [List.getElem?_set_ne e] at h2
theorem lv_has_mono {ls : Array Slot} {n : Nat} {l l' : List (Nat × Value)} (h : lv_has ls n l) (hs : ∀ q ∈ l', q ∈ l) : lv_has ls n l' := ⟨h.1, h.2.1, fun q hq => h.2.2 q (hs q hq)⟩
theorem G.forget (is : List Nat) (hL : lforget L is = L') (h : G E d k pc L' st I r) : G E d k pc L st I r := by
  intro p e s m args below meth c H locs ls C hP hD hS hl
  refine h p e s m args below meth c H locs ls C hP hD hS (lv_has_mono hl fun q hq => ?_)
  obtain ⟨j, v, h1, h2⟩ := (asc_mem E L' 0).mp hq
  subst hL
  exact (asc_mem E L 0).mpr ⟨j, v, h1, lforget_get is L j v h2⟩
theorem asc_at {ls : Array Slot} {n i : Nat} {v : Value} (hl : lv_has ls n (asc E 0 L)) (hi : L[i]? = some (some v)) : ls[i]? = some (.val (tv E v)) := hl.2.2 (i, tv E v) ((asc_mem E L 0).mpr ⟨i, v, by rw [Nat.zero_add], hi⟩)

theorem G.iconst {n : Int} {v : Int32} (hd : decode k.2.1 pc = .ok (.iconst n, 1)) (hv : Int32.ofInt n = v) (kk : G E d k (pc + 1) L (.int v :: st) I r) : G E d k pc L st I r := by
  intro p e s m args below meth c H locs ls C hP hD hS hl
  exact lv_iconst C.1 C.2.1 hd hv (kk p e s m args below meth c H locs ls C hP hD hS hl)
theorem G.bipush {n : Int} {v : Int32} (hd : decode k.2.1 pc = .ok (.bipush n, 2)) (hv : (Int8.ofInt n).toInt32 = v) (kk : G E d k (pc + 2) L (.int v :: st) I r) : G E d k pc L st I r := by
  intro p e s m args below meth c H locs ls C hP hD hS hl
  exact lv_bipush C.1 C.2.1 hd hv (kk p e s m args below meth c H locs ls C hP hD hS hl)
theorem G.sipush {n : Int} {v : Int32} (hd : decode k.2.1 pc = .ok (.sipush n, 3)) (hv : (Int16.ofInt n).toInt32 = v) (kk : G E d k (pc + 3) L (.int v :: st) I r) : G E d k pc L st I r := by
  intro p e s m args below meth c H locs ls C hP hD hS hl
  exact lv_sipush C.1 C.2.1 hd hv (kk p e s m args below meth c H locs ls C hP hD hS hl)
theorem G.lconst {n : Fin 2} {v : Int64} (hd : decode k.2.1 pc = .ok (.lconst n, 1)) (hv : Int64.ofNat n = v) (kk : G E d k (pc + 1) L (.long v :: st) I r) : G E d k pc L st I r := by
  intro p e s m args below meth c H locs ls C hP hD hS hl
  exact lv_lconst C.1 C.2.1 hd hv (kk p e s m args below meth c H locs ls C hP hD hS hl)
theorem G.ldc {idx : Nat} {v : Int32} (hd : decode k.2.1 pc = .ok (.ldc idx, 2)) (hw : Cond.constant k.1.cls idx v ∈ lw_g) (kk : G E d k (pc + 2) L (.int v :: st) I r) : G E d k pc L st I r := by
  intro p e s m args below meth c H locs ls C hP hD hS hl
  exact lv_ldc C.1 C.2.1 C.2.2.2.2.1 (C.2.2.2.2.2.2.hts args _ hw) hd (kk p e s m args below meth c H locs ls C hP hD hS hl)
theorem G.ldcw {idx : Nat} {v : Int32} (hd : decode k.2.1 pc = .ok (.ldc_w idx, 3)) (hw : Cond.constant k.1.cls idx v ∈ lw_g) (kk : G E d k (pc + 3) L (.int v :: st) I r) : G E d k pc L st I r := by
  intro p e s m args below meth c H locs ls C hP hD hS hl
  exact lv_ldcw C.1 C.2.1 C.2.2.2.2.1 (C.2.2.2.2.2.2.hts args _ hw) hd (kk p e s m args below meth c H locs ls C hP hD hS hl)
theorem G.ldc2 {idx : Nat} {v : Int64} (hd : decode k.2.1 pc = .ok (.ldc2_w idx, 3)) (hw : Cond.constantLong k.1.cls idx v ∈ lw_g) (kk : G E d k (pc + 3) L (.long v :: st) I r) : G E d k pc L st I r := by
  intro p e s m args below meth c H locs ls C hP hD hS hl
  exact lv_ldc2 C.1 C.2.1 C.2.2.2.2.1 (C.2.2.2.2.2.2.hts args _ hw) hd (kk p e s m args below meth c H locs ls C hP hD hS hl)
theorem G.iload_n {j : Fin 4} {i : Nat} {x : Int32} (hd : decode k.2.1 pc = .ok (.iload_n j, 1)) (hj : (j : Nat) = i) (hi : L[i]? = some (some (.int x))) (kk : G E d k (pc + 1) L (.int x :: st) I r) : G E d k pc L st I r := by
  intro p e s m args below meth c H locs ls C hP hD hS hl
  exact lv_iload_n C.1 C.2.1 hd hj (asc_at hl hi) (kk p e s m args below meth c H locs ls C hP hD hS hl)
theorem G.iload {i : Nat} {x : Int32} (hd : decode k.2.1 pc = .ok (.iload i, 2)) (hi : L[i]? = some (some (.int x))) (kk : G E d k (pc + 2) L (.int x :: st) I r) : G E d k pc L st I r := by
  intro p e s m args below meth c H locs ls C hP hD hS hl
  exact lv_iload C.1 C.2.1 hd (asc_at hl hi) (kk p e s m args below meth c H locs ls C hP hD hS hl)
theorem G.lload_n {j : Fin 4} {i : Nat} {x : Int64} (hd : decode k.2.1 pc = .ok (.lload_n j, 1)) (hj : (j : Nat) = i) (hi : L[i]? = some (some (.long x))) (kk : G E d k (pc + 1) L (.long x :: st) I r) : G E d k pc L st I r := by
  intro p e s m args below meth c H locs ls C hP hD hS hl
  exact lv_lload_n C.1 C.2.1 hd hj (asc_at hl hi) (kk p e s m args below meth c H locs ls C hP hD hS hl)
theorem G.lload {i : Nat} {x : Int64} (hd : decode k.2.1 pc = .ok (.lload i, 2)) (hi : L[i]? = some (some (.long x))) (kk : G E d k (pc + 2) L (.long x :: st) I r) : G E d k pc L st I r := by
  intro p e s m args below meth c H locs ls C hP hD hS hl
  exact lv_lload C.1 C.2.1 hd (asc_at hl hi) (kk p e s m args below meth c H locs ls C hP hD hS hl)
theorem G.aload_n {j : Fin 4} {i a : Nat} (hd : decode k.2.1 pc = .ok (.aload_n j, 1)) (hj : (j : Nat) = i) (hi : L[i]? = some (some (.ref a))) (kk : G E d k (pc + 1) L (.ref a :: st) I r) : G E d k pc L st I r := by
  intro p e s m args below meth c H locs ls C hP hD hS hl
  exact lv_aload_n C.1 C.2.1 hd hj (asc_at hl hi) (kk p e s m args below meth c H locs ls C hP hD hS hl)
theorem G.aload {i a : Nat} (hd : decode k.2.1 pc = .ok (.aload i, 2)) (hi : L[i]? = some (some (.ref a))) (kk : G E d k (pc + 2) L (.ref a :: st) I r) : G E d k pc L st I r := by
  intro p e s m args below meth c H locs ls C hP hD hS hl
  exact lv_aload C.1 C.2.1 hd (asc_at hl hi) (kk p e s m args below meth c H locs ls C hP hD hS hl)
/-- no long lies across the place -/
def okst : List (Option Value) → Nat → Bool
  | _, 0 => true
  | L, j + 1 => match L[j]? with
    | some (some v) => v.category == 1
    | _ => true
theorem asc_store {ls : Array Slot} {n i : Nat} {v : Value} (hi : i < L.length) (hok : okst L i = true) (h : lv_has ls n ((i, tv E v) :: (asc E 0 L).filter (fun q => !(q.1 == i) && !(q.1 + 1 == i && q.2.category == 2)))) : lv_has ls n (asc E 0 (L.set i (some v))) := by
  refine lv_has_mono h fun q hq => ?_
  obtain ⟨j, w, h1, h2⟩ := (asc_mem E _ 0).mp hq
  rw [Nat.zero_add] at h1
  by_cases e : i = j
  · subst e
    rw [List.getElem?_set_self (by omega)] at h2
    cases h2
    rw [h1]
    exact List.mem_cons_self
  · rw [List.getElem?_set_ne e] at h2
    refine List.mem_cons_of_mem _ (List.mem_filter.mpr ⟨(asc_mem E L 0).mpr ⟨j, w, by rw [Nat.zero_add]; exact h1, h2⟩, ?_⟩)
    rw [h1]
    have e2 : (j == i) = false := by rw [beq_eq_false_iff_ne]; exact fun z => e z.symm
    simp only [e2, Bool.not_false, Bool.true_and, Bool.not_eq_true']
    by_cases e3 : j + 1 = i
    · subst e3
      have hok2 : (match L[j]? with
        | some (some v) => v.category == 1
        | _ => true) = true := hok
      rw [h2] at hok2
      have hc : w.category = 1 := by simpa using hok2
      rw [tv_cat, hc]
      simp
    · have e4 : (j + 1 == i) = false := by rw [beq_eq_false_iff_ne]; exact e3
      simp only [e4, Bool.false_and]
theorem asc_store2 {ls : Array Slot} {n i : Nat} {v : Value} (hi : i + 1 < L.length) (hok : okst L i = true) (h : lv_has ls n ((i, tv E v) :: (asc E 0 L).filter (fun q => !(q.1 == i) && (!(q.1 == i + 1) && !(q.1 + 1 == i && q.2.category == 2))))) : lv_has ls n (asc E 0 ((L.set i (some v)).set (i + 1) none)) := by
  refine lv_has_mono h fun q hq => ?_
  obtain ⟨j, w, h1, h2⟩ := (asc_mem E _ 0).mp hq
  rw [Nat.zero_add] at h1
  by_cases e9 : i + 1 = j
  · subst e9
    rw [List.getElem?_set_self (by rw [List.length_set]; exact hi)] at h2
    cases h2
  rw [List.getElem?_set_ne e9] at h2
  by_cases e : i = j
  · subst e
    rw [List.getElem?_set_self (by omega)] at h2
    cases h2
    rw [h1]
    exact List.mem_cons_self
  · rw [List.getElem?_set_ne e] at h2
    refine List.mem_cons_of_mem _ (List.mem_filter.mpr ⟨(asc_mem E L 0).mpr ⟨j, w, by rw [Nat.zero_add]; exact h1, h2⟩, ?_⟩)
    rw [h1]
    have e2 : (j == i) = false := by rw [beq_eq_false_iff_ne]; exact fun z => e z.symm
    have e8 : (j == i + 1) = false := by rw [beq_eq_false_iff_ne]; exact fun z => e9 z.symm
    simp only [e2, e8, Bool.not_false, Bool.true_and, Bool.not_eq_true']
    by_cases e3 : j + 1 = i
    · subst e3
      have hok2 : (match L[j]? with
        | some (some v) => v.category == 1
        | _ => true) = true := hok
      rw [h2] at hok2
      have hc : w.category = 1 := by simpa using hok2
      rw [tv_cat, hc]
      simp
    · have e4 : (j + 1 == i) = false := by rw [beq_eq_false_iff_ne]; exact e3
      simp only [e4, Bool.false_and]
theorem G.istore_n {j : Fin 4} {i : Nat} {x : Int32} (hd : decode k.2.1 pc = .ok (.istore_n j, 1)) (hj : (j : Nat) = i) (hn : i < k.2.2.1) (hi : i < L.length) (hok : okst L i = true) (hL : L.set i (some (.int x)) = L') (kk : G E d k (pc + 1) L' st I r) : G E d k pc L (.int x :: st) I r := by
  intro p e s m args below meth c H locs ls C hP hD hS hl
  subst hL
  exact lv_istore_n C.1 C.2.1 hd hj hl hn rfl (fun ls' h' => kk p e s m args below meth c H locs ls' C hP hD hS (asc_store (E := E) (v := .int x) hi hok h'))
theorem G.astore_n {j : Fin 4} {i : Nat} {x : Nat} (hd : decode k.2.1 pc = .ok (.astore_n j, 1)) (hj : (j : Nat) = i) (hn : i < k.2.2.1) (hi : i < L.length) (hok : okst L i = true) (hL : L.set i (some (.ref x)) = L') (kk : G E d k (pc + 1) L' st I r) : G E d k pc L (.ref x :: st) I r := by
  intro p e s m args below meth c H locs ls C hP hD hS hl
  subst hL
  exact lv_astore_n C.1 C.2.1 hd hj hl hn rfl (fun ls' h' => kk p e s m args below meth c H locs ls' C hP hD hS (asc_store (E := E) (v := .ref x) hi hok h'))
theorem G.lstore_n {j : Fin 4} {i : Nat} {x : Int64} (hd : decode k.2.1 pc = .ok (.lstore_n j, 1)) (hj : (j : Nat) = i) (hn : i + 1 < k.2.2.1) (hi : i + 1 < L.length) (hok : okst L i = true) (hL : (L.set i (some (.long x))).set (i + 1) none = L') (kk : G E d k (pc + 1) L' st I r) : G E d k pc L (.long x :: st) I r := by
  intro p e s m args below meth c H locs ls C hP hD hS hl
  subst hL
  exact lv_lstore_n C.1 C.2.1 hd hj hl hn rfl (fun ls' h' => kk p e s m args below meth c H locs ls' C hP hD hS (asc_store2 (E := E) (v := .long x) hi hok h'))
theorem G.istore {i : Nat} {x : Int32} (hd : decode k.2.1 pc = .ok (.istore i, 2)) (hn : i < k.2.2.1) (hi : i < L.length) (hok : okst L i = true) (hL : L.set i (some (.int x)) = L') (kk : G E d k (pc + 2) L' st I r) : G E d k pc L (.int x :: st) I r := by
  intro p e s m args below meth c H locs ls C hP hD hS hl
  subst hL
  exact lv_istore C.1 C.2.1 hd hl hn rfl (fun ls' h' => kk p e s m args below meth c H locs ls' C hP hD hS (asc_store (E := E) (v := .int x) hi hok h'))
theorem G.astore {i : Nat} {x : Nat} (hd : decode k.2.1 pc = .ok (.astore i, 2)) (hn : i < k.2.2.1) (hi : i < L.length) (hok : okst L i = true) (hL : L.set i (some (.ref x)) = L') (kk : G E d k (pc + 2) L' st I r) : G E d k pc L (.ref x :: st) I r := by
  intro p e s m args below meth c H locs ls C hP hD hS hl
  subst hL
  exact lv_astore C.1 C.2.1 hd hl hn rfl (fun ls' h' => kk p e s m args below meth c H locs ls' C hP hD hS (asc_store (E := E) (v := .ref x) hi hok h'))
theorem G.lstore {i : Nat} {x : Int64} (hd : decode k.2.1 pc = .ok (.lstore i, 2)) (hn : i + 1 < k.2.2.1) (hi : i + 1 < L.length) (hok : okst L i = true) (hL : (L.set i (some (.long x))).set (i + 1) none = L') (kk : G E d k (pc + 2) L' st I r) : G E d k pc L (.long x :: st) I r := by
  intro p e s m args below meth c H locs ls C hP hD hS hl
  subst hL
  exact lv_lstore C.1 C.2.1 hd hl hn rfl (fun ls' h' => kk p e s m args below meth c H locs ls' C hP hD hS (asc_store2 (E := E) (v := .long x) hi hok h'))
theorem G.iinc {i : Nat} {n : Int} {x v : Int32} (hd : decode k.2.1 pc = .ok (.iinc i n, 3)) (hx : L[i]? = some (some (.int x))) (hv : x + Int32.ofInt n = v) (hn : i < k.2.2.1) (hok : okst L i = true) (hL : L.set i (some (.int v)) = L') (kk : G E d k (pc + 3) L' st I r) : G E d k pc L st I r := by
  intro p e s m args below meth c H locs ls C hP hD hS hl
  subst hL
  obtain ⟨q, hq⟩ := List.getElem?_of_mem ((asc_mem E L 0).mpr ⟨i, .int x, by rw [Nat.zero_add], hx⟩)
  exact lv_iinc C.1 C.2.1 hd hl hq hv hn rfl (fun ls' h' => kk p e s m args below meth c H locs ls' C hP hD hS (asc_store (E := E) (v := .int v) ((List.getElem?_eq_some_iff.mp hx).1) hok h'))
theorem G.iadd {x : Int32} {y : Int32} (hd : decode k.2.1 pc = .ok (.iadd, 1)) (kk : G E d k (pc + 1) L (.int (x + y) :: st) I r) : G E d k pc L (.int y :: .int x :: st) I r := by
  intro p e s m args below meth c H locs ls C hP hD hS hl
  exact lv_iadd C.1 C.2.1 hd  (kk p e s m args below meth c H locs ls C hP hD hS hl)
theorem G.isub {x : Int32} {y : Int32} (hd : decode k.2.1 pc = .ok (.isub, 1)) (kk : G E d k (pc + 1) L (.int (x - y) :: st) I r) : G E d k pc L (.int y :: .int x :: st) I r := by
  intro p e s m args below meth c H locs ls C hP hD hS hl
  exact lv_isub C.1 C.2.1 hd  (kk p e s m args below meth c H locs ls C hP hD hS hl)
theorem G.imul {x : Int32} {y : Int32} (hd : decode k.2.1 pc = .ok (.imul, 1)) (kk : G E d k (pc + 1) L (.int (x * y) :: st) I r) : G E d k pc L (.int y :: .int x :: st) I r := by
  intro p e s m args below meth c H locs ls C hP hD hS hl
  exact lv_imul C.1 C.2.1 hd  (kk p e s m args below meth c H locs ls C hP hD hS hl)
theorem G.iand {x : Int32} {y : Int32} (hd : decode k.2.1 pc = .ok (.iand, 1)) (kk : G E d k (pc + 1) L (.int (x &&& y) :: st) I r) : G E d k pc L (.int y :: .int x :: st) I r := by
  intro p e s m args below meth c H locs ls C hP hD hS hl
  exact lv_iand C.1 C.2.1 hd  (kk p e s m args below meth c H locs ls C hP hD hS hl)
theorem G.ior {x : Int32} {y : Int32} (hd : decode k.2.1 pc = .ok (.ior, 1)) (kk : G E d k (pc + 1) L (.int (x ||| y) :: st) I r) : G E d k pc L (.int y :: .int x :: st) I r := by
  intro p e s m args below meth c H locs ls C hP hD hS hl
  exact lv_ior C.1 C.2.1 hd  (kk p e s m args below meth c H locs ls C hP hD hS hl)
theorem G.ixor {x : Int32} {y : Int32} (hd : decode k.2.1 pc = .ok (.ixor, 1)) (kk : G E d k (pc + 1) L (.int (x ^^^ y) :: st) I r) : G E d k pc L (.int y :: .int x :: st) I r := by
  intro p e s m args below meth c H locs ls C hP hD hS hl
  exact lv_ixor C.1 C.2.1 hd  (kk p e s m args below meth c H locs ls C hP hD hS hl)
theorem G.ishl {x : Int32} {y : Int32} (hd : decode k.2.1 pc = .ok (.ishl, 1)) (kk : G E d k (pc + 1) L (.int (x <<< (y &&& 31)) :: st) I r) : G E d k pc L (.int y :: .int x :: st) I r := by
  intro p e s m args below meth c H locs ls C hP hD hS hl
  exact lv_ishl C.1 C.2.1 hd  (kk p e s m args below meth c H locs ls C hP hD hS hl)
theorem G.ishr {x : Int32} {y : Int32} (hd : decode k.2.1 pc = .ok (.ishr, 1)) (kk : G E d k (pc + 1) L (.int (x >>> (y &&& 31)) :: st) I r) : G E d k pc L (.int y :: .int x :: st) I r := by
  intro p e s m args below meth c H locs ls C hP hD hS hl
  exact lv_ishr C.1 C.2.1 hd  (kk p e s m args below meth c H locs ls C hP hD hS hl)
theorem G.iushr {x : Int32} {y : Int32} (hd : decode k.2.1 pc = .ok (.iushr, 1)) (kk : G E d k (pc + 1) L (.int ((x.toUInt32 >>> (y.toUInt32 &&& Int32.toUInt32 31)).toInt32) :: st) I r) : G E d k pc L (.int y :: .int x :: st) I r := by
  intro p e s m args below meth c H locs ls C hP hD hS hl
  exact lv_iushr C.1 C.2.1 hd rfl (kk p e s m args below meth c H locs ls C hP hD hS hl)
theorem G.ladd {x : Int64} {y : Int64} (hd : decode k.2.1 pc = .ok (.ladd, 1)) (kk : G E d k (pc + 1) L (.long (x + y) :: st) I r) : G E d k pc L (.long y :: .long x :: st) I r := by
  intro p e s m args below meth c H locs ls C hP hD hS hl
  exact lv_ladd C.1 C.2.1 hd  (kk p e s m args below meth c H locs ls C hP hD hS hl)
theorem G.lsub {x : Int64} {y : Int64} (hd : decode k.2.1 pc = .ok (.lsub, 1)) (kk : G E d k (pc + 1) L (.long (x - y) :: st) I r) : G E d k pc L (.long y :: .long x :: st) I r := by
  intro p e s m args below meth c H locs ls C hP hD hS hl
  exact lv_lsub C.1 C.2.1 hd  (kk p e s m args below meth c H locs ls C hP hD hS hl)
theorem G.lmul {x : Int64} {y : Int64} (hd : decode k.2.1 pc = .ok (.lmul, 1)) (kk : G E d k (pc + 1) L (.long (x * y) :: st) I r) : G E d k pc L (.long y :: .long x :: st) I r := by
  intro p e s m args below meth c H locs ls C hP hD hS hl
  exact lv_lmul C.1 C.2.1 hd  (kk p e s m args below meth c H locs ls C hP hD hS hl)
theorem G.land {x : Int64} {y : Int64} (hd : decode k.2.1 pc = .ok (.land, 1)) (kk : G E d k (pc + 1) L (.long (x &&& y) :: st) I r) : G E d k pc L (.long y :: .long x :: st) I r := by
  intro p e s m args below meth c H locs ls C hP hD hS hl
  exact lv_land C.1 C.2.1 hd  (kk p e s m args below meth c H locs ls C hP hD hS hl)
theorem G.lor {x : Int64} {y : Int64} (hd : decode k.2.1 pc = .ok (.lor, 1)) (kk : G E d k (pc + 1) L (.long (x ||| y) :: st) I r) : G E d k pc L (.long y :: .long x :: st) I r := by
  intro p e s m args below meth c H locs ls C hP hD hS hl
  exact lv_lor C.1 C.2.1 hd  (kk p e s m args below meth c H locs ls C hP hD hS hl)
theorem G.idiv {x : Int32} {y : Int32} (hd : decode k.2.1 pc = .ok (.idiv, 1)) (hne : ¬ y = 0) (kk : G E d k (pc + 1) L (.int (x / y) :: st) I r) : G E d k pc L (.int y :: .int x :: st) I r := by
  intro p e s m args below meth c H locs ls C hP hD hS hl
  exact lv_idiv C.1 C.2.1 hd hne (kk p e s m args below meth c H locs ls C hP hD hS hl)
theorem G.irem {x : Int32} {y : Int32} (hd : decode k.2.1 pc = .ok (.irem, 1)) (hne : ¬ y = 0) (kk : G E d k (pc + 1) L (.int (x - x / y * y) :: st) I r) : G E d k pc L (.int y :: .int x :: st) I r := by
  intro p e s m args below meth c H locs ls C hP hD hS hl
  exact lv_irem C.1 C.2.1 hd hne (kk p e s m args below meth c H locs ls C hP hD hS hl)
theorem G.ldiv {x : Int64} {y : Int64} (hd : decode k.2.1 pc = .ok (.ldiv, 1)) (hne : ¬ y = 0) (kk : G E d k (pc + 1) L (.long (x / y) :: st) I r) : G E d k pc L (.long y :: .long x :: st) I r := by
  intro p e s m args below meth c H locs ls C hP hD hS hl
  exact lv_ldiv C.1 C.2.1 hd hne (kk p e s m args below meth c H locs ls C hP hD hS hl)
theorem G.lrem {x : Int64} {y : Int64} (hd : decode k.2.1 pc = .ok (.lrem, 1)) (hne : ¬ y = 0) (kk : G E d k (pc + 1) L (.long (x - x / y * y) :: st) I r) : G E d k pc L (.long y :: .long x :: st) I r := by
  intro p e s m args below meth c H locs ls C hP hD hS hl
  exact lv_lrem C.1 C.2.1 hd hne (kk p e s m args below meth c H locs ls C hP hD hS hl)
theorem G.lshl {x : Int64} {y : Int32} (hd : decode k.2.1 pc = .ok (.lshl, 1)) (kk : G E d k (pc + 1) L (.long (x <<< (y.toInt64 &&& 63)) :: st) I r) : G E d k pc L (.int y :: .long x :: st) I r := by
  intro p e s m args below meth c H locs ls C hP hD hS hl
  exact lv_lshl C.1 C.2.1 hd rfl (kk p e s m args below meth c H locs ls C hP hD hS hl)
theorem G.lshr {x : Int64} {y : Int32} (hd : decode k.2.1 pc = .ok (.lshr, 1)) (kk : G E d k (pc + 1) L (.long (x >>> (y.toInt64 &&& 63)) :: st) I r) : G E d k pc L (.int y :: .long x :: st) I r := by
  intro p e s m args below meth c H locs ls C hP hD hS hl
  exact lv_lshr C.1 C.2.1 hd rfl (kk p e s m args below meth c H locs ls C hP hD hS hl)
theorem G.lcmp {x : Int64} {y : Int64} (hd : decode k.2.1 pc = .ok (.lcmp, 1)) (kk : G E d k (pc + 1) L (.int (lg_cmp x y) :: st) I r) : G E d k pc L (.long y :: .long x :: st) I r := by
  intro p e s m args below meth c H locs ls C hP hD hS hl
  exact W.lcmp C.1 C.2.1 hd  (kk p e s m args below meth c H locs ls C hP hD hS hl)
theorem G.i2l {x : Int32} (hd : decode k.2.1 pc = .ok (.i2l, 1)) (kk : G E d k (pc + 1) L (.long (x.toInt64) :: st) I r) : G E d k pc L (.int x :: st) I r := by
  intro p e s m args below meth c H locs ls C hP hD hS hl
  exact lv_i2l C.1 C.2.1 hd rfl (kk p e s m args below meth c H locs ls C hP hD hS hl)
theorem G.l2i {x : Int64} (hd : decode k.2.1 pc = .ok (.l2i, 1)) (kk : G E d k (pc + 1) L (.int (x.toInt32) :: st) I r) : G E d k pc L (.long x :: st) I r := by
  intro p e s m args below meth c H locs ls C hP hD hS hl
  exact lv_l2i C.1 C.2.1 hd rfl (kk p e s m args below meth c H locs ls C hP hD hS hl)
theorem G.i2c {x : Int32} (hd : decode k.2.1 pc = .ok (.i2c, 1)) (kk : G E d k (pc + 1) L (.int ((x.toUInt32 % 65536).toInt32) :: st) I r) : G E d k pc L (.int x :: st) I r := by
  intro p e s m args below meth c H locs ls C hP hD hS hl
  exact lv_i2c C.1 C.2.1 hd rfl (kk p e s m args below meth c H locs ls C hP hD hS hl)
theorem G.dup {v : Value} (hd : decode k.2.1 pc = .ok (.dup, 1)) (hv : v.category = 1) (kk : G E d k (pc + 1) L (v :: v :: st) I r) : G E d k pc L (v :: st) I r := by
  intro p e s m args below meth c H locs ls C hP hD hS hl
  exact lv_dup C.1 C.2.1 hd (by rw [tv_cat]; exact hv) (kk p e s m args below meth c H locs ls C hP hD hS hl)
theorem G.dup2 {v w : Value} (hd : decode k.2.1 pc = .ok (.dup2, 1)) (hv : v.category = 1) (hw : w.category = 1) (kk : G E d k (pc + 1) L (v :: w :: v :: w :: st) I r) : G E d k pc L (v :: w :: st) I r := by
  intro p e s m args below meth c H locs ls C hP hD hS hl
  exact lv_dup2_11 C.1 C.2.1 hd (by rw [tv_cat]; exact hv) (by rw [tv_cat]; exact hw) (kk p e s m args below meth c H locs ls C hP hD hS hl)
theorem G.pop {v : Value} (hd : decode k.2.1 pc = .ok (.pop, 1)) (hv : v.category = 1) (kk : G E d k (pc + 1) L st I r) : G E d k pc L (v :: st) I r := by
  intro p e s m args below meth c H locs ls C hP hD hS hl
  exact lv_pop C.1 C.2.1 hd (by rw [tv_cat]; exact hv) (kk p e s m args below meth c H locs ls C hP hD hS hl)
theorem G.goto {off : Int} {tgt : Nat} (hd : decode k.2.1 pc = .ok (.goto off, 3)) (ht : (pc : Int) + off = (tgt : Int)) (kk : G E d k tgt L st I r) : G E d k pc L st I r := by
  intro p e s m args below meth c H locs ls C hP hD hS hl
  exact lv_goto C.1 C.2.1 hd ht (kk p e s m args below meth c H locs ls C hP hD hS hl)
theorem G.if_eq {x : Int32} {off : Int} {tgt : Nat} (hd : decode k.2.1 pc = .ok (.ifCond .eq off, 3)) (ht : (pc : Int) + off = (tgt : Int)) (kt : x = 0 → G E d k tgt L st I r) (kf : ¬ x = 0 → G E d k (pc + 3) L st I r) : G E d k pc L (.int x :: st) I r := by
  intro p e s m args below meth c H locs ls C hP hD hS hl
  exact lv_if_eq C.1 C.2.1 hd ht (fun q => kt q p e s m args below meth c H locs ls C hP hD hS hl) (fun q => kf q p e s m args below meth c H locs ls C hP hD hS hl)
theorem G.icmp_eq {x y : Int32} {off : Int} {tgt : Nat} (hd : decode k.2.1 pc = .ok (.if_icmp .eq off, 3)) (ht : (pc : Int) + off = (tgt : Int)) (kt : x = y → G E d k tgt L st I r) (kf : ¬ x = y → G E d k (pc + 3) L st I r) : G E d k pc L (.int y :: .int x :: st) I r := by
  intro p e s m args below meth c H locs ls C hP hD hS hl
  exact lv_icmp_eq C.1 C.2.1 hd ht (fun q => kt q p e s m args below meth c H locs ls C hP hD hS hl) (fun q => kf q p e s m args below meth c H locs ls C hP hD hS hl)
theorem G.if_ne {x : Int32} {off : Int} {tgt : Nat} (hd : decode k.2.1 pc = .ok (.ifCond .ne off, 3)) (ht : (pc : Int) + off = (tgt : Int)) (kt : ¬ x = 0 → G E d k tgt L st I r) (kf : x = 0 → G E d k (pc + 3) L st I r) : G E d k pc L (.int x :: st) I r := by
  intro p e s m args below meth c H locs ls C hP hD hS hl
  exact lv_if_ne C.1 C.2.1 hd ht (fun q => kt q p e s m args below meth c H locs ls C hP hD hS hl) (fun q => kf q p e s m args below meth c H locs ls C hP hD hS hl)
theorem G.icmp_ne {x y : Int32} {off : Int} {tgt : Nat} (hd : decode k.2.1 pc = .ok (.if_icmp .ne off, 3)) (ht : (pc : Int) + off = (tgt : Int)) (kt : ¬ x = y → G E d k tgt L st I r) (kf : x = y → G E d k (pc + 3) L st I r) : G E d k pc L (.int y :: .int x :: st) I r := by
  intro p e s m args below meth c H locs ls C hP hD hS hl
  exact lv_icmp_ne C.1 C.2.1 hd ht (fun q => kt q p e s m args below meth c H locs ls C hP hD hS hl) (fun q => kf q p e s m args below meth c H locs ls C hP hD hS hl)
theorem G.if_lt {x : Int32} {off : Int} {tgt : Nat} (hd : decode k.2.1 pc = .ok (.ifCond .lt off, 3)) (ht : (pc : Int) + off = (tgt : Int)) (kt : x < 0 → G E d k tgt L st I r) (kf : ¬ x < 0 → G E d k (pc + 3) L st I r) : G E d k pc L (.int x :: st) I r := by
  intro p e s m args below meth c H locs ls C hP hD hS hl
  exact lv_if_lt C.1 C.2.1 hd ht (fun q => kt q p e s m args below meth c H locs ls C hP hD hS hl) (fun q => kf q p e s m args below meth c H locs ls C hP hD hS hl)
theorem G.icmp_lt {x y : Int32} {off : Int} {tgt : Nat} (hd : decode k.2.1 pc = .ok (.if_icmp .lt off, 3)) (ht : (pc : Int) + off = (tgt : Int)) (kt : x < y → G E d k tgt L st I r) (kf : ¬ x < y → G E d k (pc + 3) L st I r) : G E d k pc L (.int y :: .int x :: st) I r := by
  intro p e s m args below meth c H locs ls C hP hD hS hl
  exact lv_icmp_lt C.1 C.2.1 hd ht (fun q => kt q p e s m args below meth c H locs ls C hP hD hS hl) (fun q => kf q p e s m args below meth c H locs ls C hP hD hS hl)
theorem G.if_ge {x : Int32} {off : Int} {tgt : Nat} (hd : decode k.2.1 pc = .ok (.ifCond .ge off, 3)) (ht : (pc : Int) + off = (tgt : Int)) (kt : 0 ≤ x → G E d k tgt L st I r) (kf : ¬ 0 ≤ x → G E d k (pc + 3) L st I r) : G E d k pc L (.int x :: st) I r := by
  intro p e s m args below meth c H locs ls C hP hD hS hl
  exact lv_if_ge C.1 C.2.1 hd ht (fun q => kt q p e s m args below meth c H locs ls C hP hD hS hl) (fun q => kf q p e s m args below meth c H locs ls C hP hD hS hl)
theorem G.icmp_ge {x y : Int32} {off : Int} {tgt : Nat} (hd : decode k.2.1 pc = .ok (.if_icmp .ge off, 3)) (ht : (pc : Int) + off = (tgt : Int)) (kt : y ≤ x → G E d k tgt L st I r) (kf : ¬ y ≤ x → G E d k (pc + 3) L st I r) : G E d k pc L (.int y :: .int x :: st) I r := by
  intro p e s m args below meth c H locs ls C hP hD hS hl
  exact lv_icmp_ge C.1 C.2.1 hd ht (fun q => kt q p e s m args below meth c H locs ls C hP hD hS hl) (fun q => kf q p e s m args below meth c H locs ls C hP hD hS hl)
theorem G.if_gt {x : Int32} {off : Int} {tgt : Nat} (hd : decode k.2.1 pc = .ok (.ifCond .gt off, 3)) (ht : (pc : Int) + off = (tgt : Int)) (kt : 0 < x → G E d k tgt L st I r) (kf : ¬ 0 < x → G E d k (pc + 3) L st I r) : G E d k pc L (.int x :: st) I r := by
  intro p e s m args below meth c H locs ls C hP hD hS hl
  exact lv_if_gt C.1 C.2.1 hd ht (fun q => kt q p e s m args below meth c H locs ls C hP hD hS hl) (fun q => kf q p e s m args below meth c H locs ls C hP hD hS hl)
theorem G.icmp_gt {x y : Int32} {off : Int} {tgt : Nat} (hd : decode k.2.1 pc = .ok (.if_icmp .gt off, 3)) (ht : (pc : Int) + off = (tgt : Int)) (kt : y < x → G E d k tgt L st I r) (kf : ¬ y < x → G E d k (pc + 3) L st I r) : G E d k pc L (.int y :: .int x :: st) I r := by
  intro p e s m args below meth c H locs ls C hP hD hS hl
  exact lv_icmp_gt C.1 C.2.1 hd ht (fun q => kt q p e s m args below meth c H locs ls C hP hD hS hl) (fun q => kf q p e s m args below meth c H locs ls C hP hD hS hl)
theorem G.if_le {x : Int32} {off : Int} {tgt : Nat} (hd : decode k.2.1 pc = .ok (.ifCond .le off, 3)) (ht : (pc : Int) + off = (tgt : Int)) (kt : x ≤ 0 → G E d k tgt L st I r) (kf : ¬ x ≤ 0 → G E d k (pc + 3) L st I r) : G E d k pc L (.int x :: st) I r := by
  intro p e s m args below meth c H locs ls C hP hD hS hl
  exact lv_if_le C.1 C.2.1 hd ht (fun q => kt q p e s m args below meth c H locs ls C hP hD hS hl) (fun q => kf q p e s m args below meth c H locs ls C hP hD hS hl)
theorem G.icmp_le {x y : Int32} {off : Int} {tgt : Nat} (hd : decode k.2.1 pc = .ok (.if_icmp .le off, 3)) (ht : (pc : Int) + off = (tgt : Int)) (kt : x ≤ y → G E d k tgt L st I r) (kf : ¬ x ≤ y → G E d k (pc + 3) L st I r) : G E d k pc L (.int y :: .int x :: st) I r := by
  intro p e s m args below meth c H locs ls C hP hD hS hl
  exact lv_icmp_le C.1 C.2.1 hd ht (fun q => kt q p e s m args below meth c H locs ls C hP hD hS hl) (fun q => kf q p e s m args below meth c H locs ls C hP hD hS hl)
theorem G.tsw_out {dflt lo hi : Int} {offs : Array Int} {len : Nat} {x : Int32} {tgt : Nat} (hd : decode k.2.1 pc = .ok (.tableswitch dflt lo hi offs, len)) (h : x.toInt < lo ∨ hi < x.toInt) (ht : (pc : Int) + dflt = (tgt : Int)) (kk : G E d k tgt L st I r) : G E d k pc L (.int x :: st) I r := by
  intro p e s m args below meth c H locs ls C hP hD hS hl
  exact lv_tableOut C.1 C.2.1 hd h ht (kk p e s m args below meth c H locs ls C hP hD hS hl)
theorem G.tsw_in {dflt lo hi : Int} {offs : Array Int} {len : Nat} {x : Int32} {off : Int} {tgt : Nat} (hd : decode k.2.1 pc = .ok (.tableswitch dflt lo hi offs, len)) (h1 : ¬ x.toInt < lo) (h2 : ¬ hi < x.toInt) (ho : offs[(x.toInt - lo).toNat]? = some off) (ht : (pc : Int) + off = (tgt : Int)) (kk : G E d k tgt L st I r) : G E d k pc L (.int x :: st) I r := by
  intro p e s m args below meth c H locs ls C hP hD hS hl
  exact lv_tableIn C.1 C.2.1 hd h1 h2 ho ht (kk p e s m args below meth c H locs ls C hP hD hS hl)
/-- a field by its entry: class, slot, kind, type -/
def FL (own : String) (idx ci i f : Nat) (ty : FieldType) : Prop := ∃ (C : String) (T : u_T) (N : Nat) (ty0 : Nat → FieldType), vwCl[ci]? = some (C, T, N) ∧ (∀ w ∈ u_ws C T N, w ∈ lw_g) ∧ Cond.fieldLink own idx (T i).1 (T i).2.1 (T i).2.2.1 ∈ lw_g ∧ (fk ci)[i]? = some f ∧ i < N ∧ (∀ k, k < N → parseFieldDescriptor (T k).2.2.1 = some (ty0 k)) ∧ (∀ a, a < N → ∀ b, b < N → a ≠ b → (T a).2.1 ≠ (T b).2.1) ∧ parseFieldDescriptor (T i).2.2.1 = some ty ∧ (T i).2.2.2 = (f == 1) ∧ ci < 13
/-- an index within -/
def inb (i : Int32) (n : Nat) : Bool := !(decide (i < 0) || decide (n ≤ i.toNatClampNeg))
abbrev ix (i : Int32) : Nat := i.toNatClampNeg
theorem inb_in {i : Int32} {n : Nat} (h : inb i n = true) : vp_in i n := by
  intro q
  rcases q with q | q <;> simp [inb, q] at h
theorem w_get {a idx ci i f : Nat} {ty : FieldType} (hd : decode k.2.1 pc = .ok (.getfield idx, 3)) (fl : FL k.1.cls idx ci i f ty) (ha : a < NC) (hk : lk a = ci) {p : Program} {e : Env} {s : State} {m : MethodId} {args : Array Value} {below : List Frame} {meth : Method} {c : Code} {H : Heap} {locs : List Loc} {ls : Array Slot} {rest : List Value} {Q : State → Prop} (C : Cx E k p s m meth c) (hP : va_P (eD E) vwCl (wl E I) H)
    (kk : W p E.1 e (rmd d) s m args below meth c H locs 0 0 Q (F0 m (pc + 3) ls (fv E I a i f :: rest))) : W p E.1 e (rmd d) s m args below meth c H locs 0 0 Q (F0 m pc ls (.ref (eAd E a) :: rest)) := by
  obtain ⟨C9, T, N, ty0, h1, h2, h3, h4, h5, h6, h7, h8, h9, h10⟩ := fl
  subst hk
  exact va_get (D := eD E) (ci := lk a) (C := C9) (T := T) (N := N) C.1 C.2.1 (C.2.2.2.2.2.2.hts args) h2 C.2.2.2.2.1 C.2.2.2.2.2.2.2.2.2.1 hP a (by rw [wl_get E I ha, pic_r E I h10]) h1 i h5 (C.2.2.2.2.2.2.hts args _ h3) (fun _ h => h) (fds_get E I h4) hd kk
theorem G.getI {a idx ci i : Nat} {ty : FieldType} (hd : decode k.2.1 pc = .ok (.getfield idx, 3)) (fl : FL k.1.cls idx ci i 0 ty) (ha : a < NC) (hk : lk a = ci) (kk : G E d k (pc + 3) L (.int (I a i) :: st) I r) : G E d k pc L (.ref a :: st) I r := by
  intro p e s m args below meth c H locs ls C hP hD hS hl
  exact w_get hd fl ha hk C hP (kk p e s m args below meth c H locs ls C hP hD hS hl)
theorem G.getR {a idx ci i q : Nat} {ty : FieldType} (hd : decode k.2.1 pc = .ok (.getfield idx, 3)) (fl : FL k.1.cls idx ci i 1 ty) (ha : a < NC) (hk : lk a = ci) (hq : fin a i = some q) (kk : G E d k (pc + 3) L (.ref q :: st) I r) : G E d k pc L (.ref a :: st) I r := by
  intro p e s m args below meth c H locs ls C hP hD hS hl
  refine w_get hd fl ha hk C hP ?_
  have e1 : fv E I a i 1 = tv E (.ref q) := by
    unfold fv
    rw [if_neg (by decide), if_pos rfl, hq]
    rfl
  rw [e1]
  exact (kk p e s m args below meth c H locs ls C hP hD hS hl)
theorem G.getM {a idx ci i q : Nat} {ty : FieldType} (hd : decode k.2.1 pc = .ok (.getfield idx, 3)) (fl : FL k.1.cls idx ci i 2 ty) (ha : a < NC) (hk : lk a = ci) (hq : dec (I a i) = some q) (kk : G E d k (pc + 3) L (.ref q :: st) I r) : G E d k pc L (.ref a :: st) I r := by
  intro p e s m args below meth c H locs ls C hP hD hS hl
  refine w_get hd fl ha hk C hP ?_
  have e1 : fv E I a i 2 = tv E (.ref q) := by
    unfold fv
    rw [if_neg (by decide), if_neg (by decide), hq]
    rfl
  rw [e1]
  exact (kk p e s m args below meth c H locs ls C hP hD hS hl)
theorem pic_put (E : EV) (I : Mem) {a i f : Nat} {x : Int32} (h : lk a < 13) (hf : (fk (lk a))[i]? = some f) (h1 : f ≠ 1) : (Sum.inr (lk a, (fds E I a).set i (fv E (up2 I a i x) a i f)) : va_E) = pic E (up2 I a i x) a := by
  rw [pic_r E _ h, fds_set E I hf h1]
theorem w_put {a idx ci i f : Nat} {ty : FieldType} {x : Int32} {v : Value} (hd : decode k.2.1 pc = .ok (.putfield idx, 3)) (fl : FL k.1.cls idx ci i f ty) (h1 : f ≠ 1) (ha : a < NC) (hk : lk a = ci) (hv : fv E (up2 I a i x) a i f = v) (hn : narrow ty v = v) (hfit : fits ty v = true) {p : Program} {e : Env} {s : State} {m : MethodId} {args : Array Value} {below : List Frame} {meth : Method} {c : Code} {H : Heap} {locs : List Loc} {ls : Array Slot} {rest : List Value} {Q : State → Prop} (C : Cx E k p s m meth c) (hP : va_P (eD E) vwCl (wl E I) H) (hD : va_D (eA E) (wl E I)) (hS : va_S (eA E) s.heap H locs)
    (kk : ∀ (H1 : Heap) (locs1 : List Loc), va_P (eD E) vwCl (wl E (up2 I a i x)) H1 → va_D (eA E) (wl E (up2 I a i x)) → va_S (eA E) s.heap H1 locs1 → W p E.1 e (rmd d) s m args below meth c H1 locs1 0 0 Q (F0 m (pc + 3) ls rest)) : W p E.1 e (rmd d) s m args below meth c H locs 0 0 Q (F0 m pc ls (v :: .ref (eAd E a) :: rest)) := by
  obtain ⟨C9, T, N, ty0, g1, g2, g3, g4, g5, g6, g7, g8, g9, g10⟩ := fl
  subst hk
  refine va_put (D := eD E) (ci := lk a) (C := C9) (T := T) (N := N) (ty := ty) C.1 C.2.1 (C.2.2.2.2.2.2.hts args) g2 ty0 g6 g7 C.2.2.2.2.1 C.2.2.2.2.2.2.2.2.2.1 hP hD hS a (by rw [wl_get E I ha, pic_r E I g10]) g1 i g5 (C.2.2.2.2.2.2.hts args _ g3) (fun _ h => h) (by rw [g9]; exact beq_eq_false_iff_ne.mpr h1) g8 hn hfit (by rw [fds_len]; exact (List.getElem?_eq_some_iff.mp g4).1) hd (fun H1 locs1 hP1 hD1 hS1 => ?_)
  rw [← hv, pic_put E I g10 g4 h1, wl_set E I (up2 I a i x) ha (fun b hb => pic_upA_ne E I a _ b hb)] at hP1 hD1
  exact kk H1 locs1 hP1 hD1 hS1
theorem G.putI {a idx ci i : Nat} {x : Int32} (hd : decode k.2.1 pc = .ok (.putfield idx, 3)) (fl : FL k.1.cls idx ci i 0 .int) (ha : a < NC) (hk : lk a = ci) (kk : G E d k (pc + 3) L st (up2 I a i x) r) : G E d k pc L (.int x :: .ref a :: st) I r := by
  intro p e s m args below meth c H locs ls C hP hD hS hl
  refine w_put (x := x) (v := .int x) hd fl (by decide) ha hk ?_ rfl rfl C hP hD hS (fun H1 locs1 hP1 hD1 hS1 => kk p e s m args below meth c H1 locs1 ls C hP1 hD1 hS1 hl)
  unfold fv
  rw [if_pos rfl, up2_self]
theorem G.putM {a idx ci i q : Nat} {cn : String} (hd : decode k.2.1 pc = .ok (.putfield idx, 3)) (fl : FL k.1.cls idx ci i 2 (.object cn)) (ha : a < NC) (hk : lk a = ci) (hq : q < NC) (kk : G E d k (pc + 3) L st (up2 I a i (enc q)) r) : G E d k pc L (.ref q :: .ref a :: st) I r := by
  intro p e s m args below meth c H locs ls C hP hD hS hl
  refine w_put (x := enc q) (v := .ref (eAd E q)) hd fl (by decide) ha hk ?_ rfl rfl C hP hD hS (fun H1 locs1 hP1 hD1 hS1 => kk p e s m args below meth c H1 locs1 ls C hP1 hD1 hS1 hl)
  unfold fv
  rw [if_neg (by decide), if_neg (by decide), up2_self, dec_enc (by have : NC = 85 := rfl; omega)]
  rfl
theorem G.iald {a : Nat} {i : Int32} (hd : decode k.2.1 pc = .ok (.iaload, 1)) (ha : a < NC) (hk : lk a = 13) (hin : inb i (ln a) = true) (kk : G E d k (pc + 1) L (.int (I a (ix i)) :: st) I r) : G E d k pc L (.int i :: .ref a :: st) I r := by
  intro p e s m args below meth c H locs ls C hP hD hS hl
  exact va_iald C.1 C.2.1 C.2.2.2.2.2.2.2.2.2.1 hP a 0 (by rw [wl_get E I ha, pic_i E I hk]) rfl (inb_in hin) hd (kk p e s m args below meth c H locs ls C hP hD hS hl)
theorem G.zald {a : Nat} {i : Int32} (hd : decode k.2.1 pc = .ok (.baload, 1)) (ha : a < NC) (hk : lk a = 14) (hin : inb i (ln a) = true) (kk : G E d k (pc + 1) L (.int (I a (ix i)) :: st) I r) : G E d k pc L (.int i :: .ref a :: st) I r := by
  intro p e s m args below meth c H locs ls C hP hD hS hl
  exact va_zald C.1 C.2.1 C.2.2.2.2.2.2.2.2.2.1 hP a 1 (by rw [wl_get E I ha, pic_z E I hk]) rfl (inb_in hin) hd (kk p e s m args below meth c H locs ls C hP hD hS hl)
theorem wl_upi (E : EV) (I : Mem) {a : Nat} (ha : a < NC) (hk : lk a = 13) (f : Nat → Int32) : (wl E I).set a (eAd E a, .inl (eC E 0, ln a, .inl f)) = wl E (upA I a f) := by
  rw [← wl_set E I (upA I a f) ha (fun b hb => pic_upA_ne E I a f b hb), pic_i E _ hk, upA_self]
theorem wl_upz (E : EV) (I : Mem) {a : Nat} (ha : a < NC) (hk : lk a = 14) (f : Nat → Int32) : (wl E I).set a (eAd E a, .inl (eC E 1, ln a, .inl f)) = wl E (upA I a f) := by
  rw [← wl_set E I (upA I a f) ha (fun b hb => pic_upA_ne E I a f b hb), pic_z E _ hk, upA_self]
theorem G.iast {a : Nat} {i x : Int32} (hd : decode k.2.1 pc = .ok (.iastore, 1)) (ha : a < NC) (hk : lk a = 13) (hin : inb i (ln a) = true) (kk : G E d k (pc + 1) L st (up2 I a (ix i) x) r) : G E d k pc L (.int x :: .int i :: .ref a :: st) I r := by
  intro p e s m args below meth c H locs ls C hP hD hS hl
  refine va_iast C.1 C.2.1 C.2.2.2.2.2.2.2.2.2.1 hP hD hS a 0 (by rw [wl_get E I ha, pic_i E I hk]) rfl (inb_in hin) hd (fun H1 locs1 hP1 hD1 hS1 => ?_)
  rw [wl_upi E I ha hk] at hP1 hD1
  exact kk p e s m args below meth c H1 locs1 ls C hP1 hD1 hS1 hl
theorem G.zast {a : Nat} {i x v : Int32} (hd : decode k.2.1 pc = .ok (.bastore, 1)) (ha : a < NC) (hk : lk a = 14) (hin : inb i (ln a) = true) (hv : vp_nar .boolean x = v) (kk : G E d k (pc + 1) L st (up2 I a (ix i) v) r) : G E d k pc L (.int x :: .int i :: .ref a :: st) I r := by
  intro p e s m args below meth c H locs ls C hP hD hS hl
  refine va_zast C.1 C.2.1 C.2.2.2.2.2.2.2.2.2.1 hP hD hS a 1 (by rw [wl_get E I ha, pic_z E I hk]) rfl (inb_in hin) hd (fun H1 locs1 hP1 hD1 hS1 => ?_)
  rw [hv, wl_upz E I ha hk] at hP1 hD1
  exact kk p e s m args below meth c H1 locs1 ls C hP1 hD1 hS1 hl
theorem G.alen {a : Nat} {v : Int32} (hd : decode k.2.1 pc = .ok (.arraylength, 1)) (ha : a < NC) (hk : lk a = 13) (hv : nI (ln a) = v) (kk : G E d k (pc + 1) L (.int v :: st) I r) : G E d k pc L (.ref a :: st) I r := by
  intro p e s m args below meth c H locs ls C hP hD hS hl
  exact va_alen (x := (ln a, .inl (I a))) C.1 C.2.1 C.2.2.2.2.2.2.2.2.2.1 hP a 0 (by rw [wl_get E I ha, pic_i E I hk]) rfl hv hd (kk p e s m args below meth c H locs ls C hP hD hS hl)
theorem G.aaldH {a q : Nat} {i : Int32} (hd : decode k.2.1 pc = .ok (.aaload, 1)) (ha : a < NC) (hk : lk a = 15) (hin : inb i (ln a) = true) (hq : fin a (ix i) = some q) (kk : G E d k (pc + 1) L (.ref q :: st) I r) : G E d k pc L (.int i :: .ref a :: st) I r := by
  intro p e s m args below meth c H locs ls C hP hD hS hl
  refine va_aldq C.1 C.2.1 C.2.2.2.2.2.2.2.2.2.1 hP a 2 (by rw [wl_get E I ha, pic_h E I hk]) rfl (inb_in hin) hd ?_
  rw [hq]
  exact (kk p e s m args below meth c H locs ls C hP hD hS hl)
theorem G.aaldO {a q : Nat} {i : Int32} (hd : decode k.2.1 pc = .ok (.aaload, 1)) (ha : a < NC) (hk : lk a = 16) (hin : inb i (ln a) = true) (hq : fin a (ix i) = some q) (kk : G E d k (pc + 1) L (.ref q :: st) I r) : G E d k pc L (.int i :: .ref a :: st) I r := by
  intro p e s m args below meth c H locs ls C hP hD hS hl
  refine va_aldq C.1 C.2.1 C.2.2.2.2.2.2.2.2.2.1 hP a 3 (by rw [wl_get E I ha, pic_o E I hk]) rfl (inb_in hin) hd ?_
  rw [hq]
  exact (kk p e s m args below meth c H locs ls C hP hD hS hl)
theorem G.aaldA {a q : Nat} {i : Int32} (hd : decode k.2.1 pc = .ok (.aaload, 1)) (ha : a < NC) (hk : lk a = 17) (hin : inb i (ln a) = true) (hq : fin a (ix i) = some q) (kk : G E d k (pc + 1) L (.ref q :: st) I r) : G E d k pc L (.int i :: .ref a :: st) I r := by
  intro p e s m args below meth c H locs ls C hP hD hS hl
  have hin2 := inb_in hin
  have hlt : i.toNatClampNeg < ln a := Nat.not_le.mp fun q => hin2 (Or.inr q)
  have hcell := hP a _ (by rw [wl_get E I ha, pic_a E I hk])
  refine W.aald (v := va_rf ((fin a (ix i)).map (eAd E))) (ty := .array .int) C.1 C.2.1 hcell ((C.2.2.2.2.2.2.2.2.2.1.2 4 _ rfl).1 (ln a) (fun j => va_rf ((fin a j).map (eAd E)))) rfl (fun q => by cases q) (by show ¬ (i < 0 ∨ (arrV _ _ _).slots.size ≤ _); rw [arrV_size]; exact hin2) (by show (arrV _ _ _).slots[_]? = _; rw [arrV_read _ _ hlt]) rfl rfl hd ?_
  rw [hq]
  exact (kk p e s m args below meth c H locs ls C hP hD hS hl)
theorem Qr_end {E : EV} {s t : State} {args : Array Value} {H : Heap} {locs : List Loc} {I : Mem} {v : Option Value} (ht : t.heap = H) (hP : va_P (eD E) vwCl (wl E I) H) (hD : va_D (eA E) (wl E I)) (hS : va_S (eA E) s.heap H locs) : Qr E (v, I) args s (.returned (v.map (tv E))) t := ⟨⟨rfl, by rw [ht]; exact hP, hD⟩, hS.F ht⟩
theorem G.iret {v : Int32} (hd : decode k.2.1 pc = .ok (.ireturn, 1)) (hr : k.2.2.2 = some .int) : G E d k pc L [.int v] I (some (.int v), I) := by
  intro p e s m args below meth c H locs ls C hP hD hS hl
  exact W.iret (v := v) C.1 C.2.1 (C.2.2.1.trans hr) (fun t ht _ => Qr_end (v := some (.int v)) ht hP hD hS) hS.2.2 hd C.2.2.2.2.2.1
/-- 0 or 1 -/
def zb (v : Int32) : Bool := decide (v = 0) || decide (v = 1)
theorem G.zret {v : Int32} (hd : decode k.2.1 pc = .ok (.ireturn, 1)) (hr : k.2.2.2 = some .boolean) (hz : zb v = true) : G E d k pc L [.int v] I (some (.int v), I) := by
  intro p e s m args below meth c H locs ls C hP hD hS hl
  have hn : narrow .boolean (.int v) = .int v := by
    rcases (show v = 0 ∨ v = 1 by simpa [zb] using hz) with rfl | rfl <;> rfl
  exact W.zret (v := v) C.1 C.2.1 (C.2.2.1.trans hr) hn (fun t ht _ => Qr_end (v := some (.int v)) ht hP hD hS) hS.2.2 hd C.2.2.2.2.2.1
theorem G.nret {v : Int32} {ty : FieldType} (hd : decode k.2.1 pc = .ok (.ireturn, 1)) (hr : k.2.2.2 = some ty) (hn : narrow ty (.int v) = .int v) : G E d k pc L [.int v] I (some (.int v), I) := by
  intro p e s m args below meth c H locs ls C hP hD hS hl
  exact W.zret (v := v) C.1 C.2.1 (C.2.2.1.trans hr) hn (fun t ht _ => Qr_end (v := some (.int v)) ht hP hD hS) hS.2.2 hd C.2.2.2.2.2.1
theorem G.lret {v : Int64} (hd : decode k.2.1 pc = .ok (.lreturn, 1)) (hr : k.2.2.2 = some .long) : G E d k pc L [.long v] I (some (.long v), I) := by
  intro p e s m args below meth c H locs ls C hP hD hS hl
  exact W.lret (v := v) C.1 C.2.1 (C.2.2.1.trans hr) (fun t ht _ => Qr_end (v := some (.long v)) ht hP hD hS) hS.2.2 hd C.2.2.2.2.2.1
theorem G.vret (hd : decode k.2.1 pc = .ok (.return_, 1)) (hr : k.2.2.2 = none) : G E d k pc L [] I (none, I) := by
  intro p e s m args below meth c H locs ls C hP hD hS hl
  exact W.vret C.1 C.2.1 (C.2.2.1.trans hr) (fun t ht _ => Qr_end (v := none) ht hP hD hS) hS.2.2 hd C.2.2.2.2.2.1
end GR
end
section
section GC
variable {E : EV} {d : Nat} {k : MD} {pc : Nat} {L L' : List (Option Value)} {st : List Value} {I J : Mem} {r : Option Value × Mem} {v : Option Value} {k2 : MD} {av rest : List Value} {idx n b : Nat}
theorem w_back {p : Program} {l : Launch} {e : Env} {R : Room} {s : State} {m : MethodId} {args : Array Value} {below : List Frame} {meth : Method} {c : Code} {H : Heap} {locs : List Loc} {ls : Array Slot} {Q : State → Prop} {pc : Nat} {st0 rest : List Value} {a : Array Value} {v : Option Value} {J : Mem} (hr : va_Run p l e R s m args below meth c H locs 0 0 0 0 (F0 m pc ls st0) rest (Qr E (v, J) a) (eA E)) (hS : va_S (eA E) s.heap H locs)
    (kk : ∀ (H1 : Heap) (locs1 : List Loc), va_P (eD E) vwCl (wl E J) H1 → va_D (eA E) (wl E J) → va_S (eA E) s.heap H1 locs1 → W p l e R s m args below meth c H1 locs1 0 0 Q (F0 m (pc + 3) ls ((v.map (tv E)).toList ++ rest))) : W p l e R s m args below meth c H locs 0 0 Q (F0 m pc ls st0) := by
  intro T hT X
  obtain ⟨v1, st₀, t, T', L, h0, X', hL, e1, e2, ⟨⟨hv, hP1, hD1⟩, hz, hk⟩, st⟩ := hr T hT X
  cases hv
  rw [h0] at hz hk
  obtain ⟨t2, a1, b1⟩ := kk T'.heap (locs ++ L) (by rw [e1]; exact hP1) hD1 ⟨Nat.le_trans hS.1 (by rw [e1]; exact hz), fun q h1 h2 => by rw [e1, hk q (Nat.lt_of_lt_of_le h1 hS.1) h2]; exact hS.2.1 q h1 h2, fun q hq => by
      rcases List.mem_append.mp hq with h | h
      · exact hS.2.2 q h
      · exact hL q h⟩ T' rfl X'
  exact ⟨t2, st t2 a1, b1⟩
theorem Gm_blind (E : EV) (av : List Value) (I : Mem) : FrameBlind (va_Pc (av.map (tv E)) (fun U => CF E U ∧ va_P (eD E) vwCl (wl E I) U.heap ∧ va_D (eA E) (wl E I))) := fun a U g mk h => ⟨h.1, h.2.1.blind g mk a, h.2.2.1, h.2.2.2⟩
theorem Gm_pre {E : EV} {s : State} {H : Heap} {locs : List Loc} {I : Mem} (hC : CF E s) (hP : va_P (eD E) vwCl (wl E I) H) (hD : va_D (eA E) (wl E I)) (hS : va_S (eA E) s.heap H locs) (av : List Value) : ∀ U : State, U.heap = H → s.WarmedH U.vm → va_Pc (av.map (tv E)) (fun U => CF E U ∧ va_P (eD E) vwCl (wl E I) U.heap ∧ va_D (eA E) (wl E I)) (av.map (tv E)).toArray U := fun U hU hW => ⟨rfl, hC.call hS hU hW, by rw [hU]; exact hP, hD⟩
/-- a callee: it is no handle, its parameters, its locals -/
def MK (k2 : MD) (n : Nat) : Prop := Cond.code k2.1 k2.2.1 k2.2.2.1 k2.2.2.2 ∈ lw_g ∧ Cond.initialized k2.1.cls ∈ lw_g ∧ k2.1.cls ≠ "java/lang/invoke/MethodHandle" ∧ k2.1.cls ≠ "java/lang/invoke/VarHandle" ∧ (parseMethodDescriptor k2.1.desc).map (fun d => d.parameters.length) = some n ∧ k2.2.2.1 ≤ 41
def MS (own : String) (idx : Nat) (k2 : MD) (n : Nat) : Prop := MK k2 n ∧ Cond.methodLink own idx k2.1 ∈ lw_g ∧ Cond.static k2.1 ∈ lw_g
def MN (own : String) (idx : Nat) (k2 : MD) (n : Nat) : Prop := MK k2 n ∧ (∃ host, Cond.methodLinkNest own idx k2.1 host ∈ lw_n) ∧ Cond.static k2.1 ∈ lw_g
def MV (own : String) (idx ci : Nat) (k2 : MD) (n : Nat) : Prop := MK k2 n ∧ Cond.methodLink own idx k2.1 ∈ lw_g ∧ Cond.instanceMethod k2.1 ∈ lw_g ∧ Cond.selects k2.1.cls k2.1 k2.1 ∈ lw_g ∧ (∃ (T : u_T) (N : Nat), vwCl[ci]? = some (k2.1.cls, T, N)) ∧ ci < 13
def MO (own : String) (idx ci : Nat) (k2 : MD) (n : Nat) : Prop := MK k2 n ∧ ∃ (C owner : String) (x : MethodName) (T : u_T) (N : Nat) (b0 : ByteArray) (m0 : Nat) (r0 : Option FieldType), vwCl[ci]? = some (C, T, N) ∧ ci < 13 ∧ Cond.methodLink own idx x ∈ lw_g ∧ Cond.sameMethod x.cls owner x.name x.desc ∈ lw_g ∧ Cond.instanceMethod ⟨owner, x.name, x.desc⟩ ∈ lw_g ∧ Cond.selects C x k2.1 ∈ lw_g ∧ Cond.instanceMethod k2.1 ∈ lw_g ∧ Cond.code ⟨owner, x.name, x.desc⟩ b0 m0 r0 ∈ lw_g ∧ owner ≠ "java/lang/invoke/MethodHandle" ∧ owner ≠ "java/lang/invoke/VarHandle" ∧ (parseMethodDescriptor x.desc).map (fun d => d.parameters.length) = some n
def MP (own : String) (idx ci : Nat) (k2 : MD) (n : Nat) : Prop := MK k2 n ∧ Cond.methodLink own idx k2.1 ∈ lw_g ∧ Cond.sameMethod k2.1.cls k2.1.cls k2.1.name k2.1.desc ∈ lw_g ∧ Cond.superclass own k2.1.cls ∈ lw_g ∧ Cond.instanceMethod k2.1 ∈ lw_g ∧ k2.1.name ≠ "<init>" ∧ (∃ (C : String) (T : u_T) (N : Nat), vwCl[ci]? = some (C, T, N)) ∧ ci < 13
theorem mk_words {s : State} {args : Array Value} (hC : CF E s) (h : MK k2 n) : ∀ w ∈ [Cond.code k2.1 k2.2.1 k2.2.2.1 k2.2.2.2], ∀ (a' : Array Value) (U : State), s.WarmedH U.vm → w.before a' U = true := fun w hw a' U hW => by
  rw [List.mem_singleton] at hw
  rw [hw]
  exact word_at hW (good_word h.1) (hC.1 _ h.1)
theorem mk_len (h : MK k2 n) : ∀ sig, parseMethodDescriptor k2.1.desc = some sig → n = sig.parameters.length := fun sig hs => by
  have h2 := h.2.2.2.2.1
  rw [hs] at h2
  exact (Option.some.inj h2).symm
theorem mk_room (h : MK k2 n) : (rmd d).frames + 1 ≤ (rmd (d + 1)).frames ∧ 8 + (k2.2.2.1 + 11) + (rmd d).locals ≤ (rmd (d + 1)).locals := ⟨Nat.le_refl _, by have := h.2.2.2.2.2; show 8 + (k2.2.2.1 + 11) + 60 * d ≤ 60 * (d + 1); omega⟩
theorem st_rev (E : EV) (av rest : List Value) : (av.reverse ++ rest).map (tv E) = (av.map (tv E)).reverse ++ rest.map (tv E) := by rw [List.map_append, List.map_reverse]
theorem st_cat (E : EV) (rest : List Value) : ((rest.map (tv E)).map fun v => v.category).sum = (rest.map fun v => v.category).sum := by
  rw [List.map_map]
  congr 1
  apply List.map_congr_left
  intro v _
  exact tv_cat E v
theorem st_back (E : EV) (v : Option Value) (rest : List Value) : (v.map (tv E)).toList ++ rest.map (tv E) = (v.toList ++ rest).map (tv E) := by cases v <;> rfl
theorem G.callS (hd : decode k.2.1 pc = .ok (.invokestatic idx, 3)) (ms : MS k.1.cls idx k2 n) (hg : Gm E d k2 av I (v, J)) (hst : st = av.reverse ++ rest) (hn : av.length = n) (hW : (rest.map fun v => v.category).sum ≤ 8) (kk : G E (d + 1) k (pc + 3) L (v.toList ++ rest) J r) : G E (d + 1) k pc L st I r := by
  intro p e s m args below meth c H locs ls C hP hD hS hl
  obtain ⟨mk, m1, m2⟩ := ms
  have hts := C.2.2.2.2.2.2.hts args
  have hrun := va_runS (g := F0 m pc ls (st.map (tv E))) (nL := k.2.2.1) (As := av.map (tv E)) (rest := rest.map (tv E)) (n := n) (cells := 0) (slots := 0) (below := below) (e := e) (R := rmd (d + 1)) (locs := locs) (H := H) (bytes := k2.2.1) (maxL := k2.2.2.1) (ret := k2.2.2.2) (meth := meth) ⟨C.1, C.2.1, C.2.2.2.1, C.2.2.2.2.1, hts⟩ hg ⟨⟨rfl, rfl, (mk_room mk).1, (mk_room mk).2, mk_words (args := args) C.2.2.2.2.2.2 mk, List.mem_singleton_self _, hts _ mk.1, hts _ mk.2.1, ⟨mk.2.2.1, mk.2.2.2.1⟩, mk_len mk, hts _ m1⟩, hts _ m2⟩ ⟨Gm_blind E av I, Gm_pre C.2.2.2.2.2.2 hP hD hS av⟩ rfl (by rw [List.length_map]; exact hn) hl.1 (by rw [hst]; exact st_rev E av rest) (lv_room (by rw [st_cat]; exact hW)) hd ⟨Nat.le_refl _, Nat.le_refl _⟩
  refine w_back hrun hS (fun H1 locs1 hP1 hD1 hS1 => ?_)
  rw [st_back]
  exact kk p e s m args below meth c H1 locs1 ls C hP1 hD1 hS1 hl
theorem G.callN (hd : decode k.2.1 pc = .ok (.invokestatic idx, 3)) (ms : MN k.1.cls idx k2 n) (hg : Gm E d k2 av I (v, J)) (hst : st = av.reverse ++ rest) (hn : av.length = n) (hW : (rest.map fun v => v.category).sum ≤ 8) (kk : G E (d + 1) k (pc + 3) L (v.toList ++ rest) J r) : G E (d + 1) k pc L st I r := by
  intro p e s m args below meth c H locs ls C hP hD hS hl
  obtain ⟨mk, ⟨host, m1⟩, m2⟩ := ms
  have hts := C.2.2.2.2.2.2.hts args
  have hrun := va_runSN (g := F0 m pc ls (st.map (tv E))) (nL := k.2.2.1) (As := av.map (tv E)) (rest := rest.map (tv E)) (n := n) (cells := 0) (slots := 0) (below := below) (e := e) (R := rmd (d + 1)) (locs := locs) (H := H) (bytes := k2.2.1) (maxL := k2.2.2.1) (ret := k2.2.2.2) (meth := meth) (host := host) ⟨C.1, C.2.1, C.2.2.2.1, C.2.2.2.2.1, hts⟩ hg ⟨⟨⟨rfl, rfl, (mk_room mk).1, (mk_room mk).2, mk_words (args := args) C.2.2.2.2.2.2 mk, List.mem_singleton_self _⟩, hts _ mk.1, hts _ mk.2.1, ⟨mk.2.2.1, mk.2.2.2.1⟩, mk_len mk, va_Nw.use rfl (C.2.2.2.2.2.2.2.1 _ m1)⟩, hts _ m2, trivial⟩ ⟨Gm_blind E av I, Gm_pre C.2.2.2.2.2.2 hP hD hS av⟩ rfl (by rw [List.length_map]; exact hn) hl.1 (by rw [hst]; exact st_rev E av rest) (lv_room (by rw [st_cat]; exact hW)) hd ⟨Nat.le_refl _, Nat.le_refl _⟩
  refine w_back hrun hS (fun H1 locs1 hP1 hD1 hS1 => ?_)
  rw [st_back]
  exact kk p e s m args below meth c H1 locs1 ls C hP1 hD1 hS1 hl
theorem st_revV (E : EV) (b : Nat) (av rest : List Value) : (av.reverse ++ .ref b :: rest).map (tv E) = (av.map (tv E)).reverse ++ .ref (eAd E b) :: rest.map (tv E) := by rw [List.map_append, List.map_reverse]; rfl
theorem G.callV {ci : Nat} (hd : decode k.2.1 pc = .ok (.invokevirtual idx, 3)) (ms : MV k.1.cls idx ci k2 n) (hg : Gm E d k2 (.ref b :: av) I (v, J)) (hb : b < NC) (hk : lk b = ci) (hst : st = av.reverse ++ .ref b :: rest) (hn : av.length = n) (hW : (rest.map fun v => v.category).sum ≤ 8) (kk : G E (d + 1) k (pc + 3) L (v.toList ++ rest) J r) : G E (d + 1) k pc L st I r := by
  intro p e s m args below meth c H locs ls C hP hD hS hl
  obtain ⟨mk, m1, m2, m3, ⟨T, N, m4⟩, m5⟩ := ms
  subst hk
  have hts := C.2.2.2.2.2.2.hts args
  have hrun := va_runV (g := F0 m pc ls (st.map (tv E))) (nL := k.2.2.1) (b := eAd E b) (As := av.map (tv E)) (rest := rest.map (tv E)) (n := n) (cells := 0) (slots := 0) (below := below) (e := e) (R := rmd (d + 1)) (locs := locs) (H := H) (C := k2.1.cls) (bytes := k2.2.1) (maxL := k2.2.2.1) (ret := k2.2.2.2) (meth := meth) ⟨C.1, C.2.1, C.2.2.2.1, C.2.2.2.2.1, hts⟩ hg ⟨⟨rfl, rfl, (mk_room mk).1, (mk_room mk).2, mk_words (args := args) C.2.2.2.2.2.2 mk, List.mem_singleton_self _, hts _ mk.1, hts _ mk.2.1, ⟨mk.2.2.1, mk.2.2.2.1⟩, mk_len mk, hts _ m1⟩, hts _ m2, hts _ m3⟩ ⟨Gm_blind E _ I, va_recv C.2.2.2.2.2.2.2.2.2.1 hP m4 (by rw [wl_get E I hb, pic_r E I m5]), Gm_pre C.2.2.2.2.2.2 hP hD hS (.ref b :: av)⟩ rfl (by rw [List.length_map]; exact hn) hl.1 (by rw [hst]; exact st_revV E b av rest) (lv_room (by rw [st_cat]; exact hW)) hd ⟨Nat.le_refl _, Nat.le_refl _⟩
  refine w_back hrun hS (fun H1 locs1 hP1 hD1 hS1 => ?_)
  rw [st_back]
  exact kk p e s m args below meth c H1 locs1 ls C hP1 hD1 hS1 hl
theorem G.callO {ci : Nat} (hd : decode k.2.1 pc = .ok (.invokevirtual idx, 3)) (ms : MO k.1.cls idx ci k2 n) (hg : Gm E d k2 (.ref b :: av) I (v, J)) (hb : b < NC) (hk : lk b = ci) (hst : st = av.reverse ++ .ref b :: rest) (hn : av.length = n) (hW : (rest.map fun v => v.category).sum ≤ 8) (kk : G E (d + 1) k (pc + 3) L (v.toList ++ rest) J r) : G E (d + 1) k pc L st I r := by
  intro p e s m args below meth c H locs ls C hP hD hS hl
  obtain ⟨mk, C9, owner, x, T, N, b0, m0, r0, m4, m5, m1, m2, m3, m6, m7, m8, m9, m10, m11⟩ := ms
  subst hk
  have hts := C.2.2.2.2.2.2.hts args
  have hlen : ∀ sig, parseMethodDescriptor x.desc = some sig → n = sig.parameters.length := fun sig hs => by
    rw [hs] at m11
    exact (Option.some.inj m11).symm
  have hrun := va_runU (g := F0 m pc ls (st.map (tv E))) (nL := k.2.2.1) (b := eAd E b) (As := av.map (tv E)) (rest := rest.map (tv E)) (n := n) (cells := 0) (slots := 0) (below := below) (e := e) (R := rmd (d + 1)) (locs := locs) (H := H) (C := C9) (owner := owner) (x := x) (bytes := k2.2.1) (maxL := k2.2.2.1) (ret := k2.2.2.2) (meth := meth) ⟨C.1, C.2.1, C.2.2.2.1, C.2.2.2.2.1, hts⟩ hg ⟨⟨rfl, rfl, (mk_room mk).1, (mk_room mk).2, mk_words (args := args) C.2.2.2.2.2.2 mk, List.mem_singleton_self _⟩, hts _ mk.1, hts _ mk.2.1, ⟨m9, m10⟩, hlen, hts _ m1, hts _ m2, va_Decl.of (hts _ m3) (hts _ m8), hts _ m6, hts _ m7⟩ ⟨Gm_blind E _ I, va_recv C.2.2.2.2.2.2.2.2.2.1 hP m4 (by rw [wl_get E I hb, pic_r E I m5]), Gm_pre C.2.2.2.2.2.2 hP hD hS (.ref b :: av)⟩ rfl (by rw [List.length_map]; exact hn) hl.1 (by rw [hst]; exact st_revV E b av rest) (lv_room (by rw [st_cat]; exact hW)) hd ⟨Nat.le_refl _, Nat.le_refl _⟩
  refine w_back hrun hS (fun H1 locs1 hP1 hD1 hS1 => ?_)
  rw [st_back]
  exact kk p e s m args below meth c H1 locs1 ls C hP1 hD1 hS1 hl
theorem G.callP {ci : Nat} (hd : decode k.2.1 pc = .ok (.invokespecial idx, 3)) (ms : MP k.1.cls idx ci k2 n) (hg : Gm E d k2 (.ref b :: av) I (v, J)) (hb : b < NC) (hk : lk b = ci) (hst : st = av.reverse ++ .ref b :: rest) (hn : av.length = n) (hW : (rest.map fun v => v.category).sum ≤ 8) (kk : G E (d + 1) k (pc + 3) L (v.toList ++ rest) J r) : G E (d + 1) k pc L st I r := by
  intro p e s m args below meth c H locs ls C hP hD hS hl
  obtain ⟨mk, m1, m2, m3, m4, m5, ⟨C9, T, N, m6⟩, m7⟩ := ms
  subst hk
  have hts := C.2.2.2.2.2.2.hts args
  have hat : ClassAt s C9 (E.2.1 (lk b)) := by
    have h9 := C.2.2.2.2.2.2.2.2.2.1.1 _ _ m6
    exact h9.2
  have hrun := va_runSU (g := F0 m pc ls (st.map (tv E))) (nL := k.2.2.1) (b := eAd E b) (As := av.map (tv E)) (rest := rest.map (tv E)) (n := n) (cells := 0) (slots := 0) (below := below) (e := e) (R := rmd (d + 1)) (locs := locs) (H := H) (C := C9) (bytes := k2.2.1) (maxL := k2.2.2.1) (ret := k2.2.2.2) (meth := meth) hat ⟨C.1, C.2.1, C.2.2.2.1, C.2.2.2.2.1, hts⟩ hg ⟨⟨rfl, rfl, (mk_room mk).1, (mk_room mk).2, mk_words (args := args) C.2.2.2.2.2.2 mk, List.mem_singleton_self _⟩, hts _ m1, hts _ m2, hts _ m3, hts _ m4, hts _ mk.2.1, hts _ mk.1, m5, mk_len mk⟩ ⟨Gm_blind E _ I, va_recv C.2.2.2.2.2.2.2.2.2.1 hP m6 (by rw [wl_get E I hb, pic_r E I m7]), Gm_pre C.2.2.2.2.2.2 hP hD hS (.ref b :: av)⟩ rfl (by rw [List.length_map]; exact hn) hl.1 (by rw [hst]; exact st_revV E b av rest) (lv_room (by rw [st_cat]; exact hW)) hd ⟨Nat.le_refl _, Nat.le_refl _⟩
  refine w_back hrun hS (fun H1 locs1 hP1 hD1 hS1 => ?_)
  rw [st_back]
  exact kk p e s m args below meth c H1 locs1 ls C hP1 hD1 hS1 hl
/-- System.arraycopy of ints -/
def cpA (f g : Nat → Int32) (sp dp n : Nat) : Nat → Int32 := va_cpy f g sp dp n
/-- the places are within -/
def cpok (sp dp n : Int32) (n0 n1 : Nat) : Bool := !(decide (sp < 0)) && !(decide (dp < 0)) && !(decide (n < 0)) && decide (ix sp + ix n ≤ n0) && decide (ix dp + ix n ≤ n1)
def MA (own : String) (idx : Nat) : Prop := Cond.methodLink own idx arraycopyName ∈ lw_g ∧ Cond.native arraycopyName ∈ lw_g ∧ Cond.static arraycopyName ∈ lw_g ∧ Cond.initialized "java/lang/System" ∈ lw_g
theorem G.acopy {a a0 : Nat} {sp dp n : Int32} (hd : decode k.2.1 pc = .ok (.invokestatic idx, 3)) (ms : MA k.1.cls idx) (ha0 : a0 < NC) (hk0 : lk a0 = 13) (ha : a < NC) (hk : lk a = 13) (hok : cpok sp dp n (ln a0) (ln a) = true) (hW : (rest.map fun v => v.category).sum ≤ 8) (kk : G E (d + 1) k (pc + 3) L rest (upA I a (cpA (I a0) (I a) (ix sp) (ix dp) (ix n))) r) : G E (d + 1) k pc L (.int n :: .int dp :: .ref a :: .int sp :: .ref a0 :: rest) I r := by
  intro p e s m args below meth c H locs ls C hP hD hS hl
  have hts := C.2.2.2.2.2.2.hts args
  simp only [cpok, Bool.and_eq_true, Bool.not_eq_true', decide_eq_false_iff_not, decide_eq_true_eq] at hok
  obtain ⟨⟨⟨⟨o1, o2⟩, o3⟩, o4⟩, o5⟩ := hok
  have hR1 : 1 ≤ (rmd (d + 1)).frames := by show 1 ≤ d + 1; omega
  have hR2 : ((rest.map (tv E)).map fun v => v.category).sum + (nativeFrameWords "java/lang/System" "arraycopy" 5 + 11) ≤ (rmd (d + 1)).locals := by
    rw [st_cat]
    have h9 : nativeFrameWords "java/lang/System" "arraycopy" 5 + 11 ≤ 40 := by decide
    show _ ≤ 60 * (d + 1)
    omega
  refine va_copyi (R := rmd (d + 1)) (sp := sp) (dp := dp) (n := n) (rest := rest.map (tv E)) C.1 C.2.1 (C.2.2.2.1.trans hl.1.symm) C.2.2.2.2.1 (hts _ ms.1) (hts _ ms.2.1) (hts _ ms.2.2.1) (hts _ ms.2.2.2) C.2.2.2.2.2.2.2.2.2.1 hP hD hS a0 a 0 0 (ty := .int) (by rw [wl_get E I ha0, pic_i E I hk0]) (by rw [wl_get E I ha, pic_i E I hk]) rfl rfl rfl o1 o2 o3 o4 o5 (fun _ _ => rfl) hR1 hR2 hd (fun H1 locs1 hP1 hD1 hS1 => ?_)
  rw [wl_upi E I ha hk] at hP1 hD1
  exact kk p e s m args below meth c H1 locs1 ls C hP1 hD1 hS1 hl
end GC
end
