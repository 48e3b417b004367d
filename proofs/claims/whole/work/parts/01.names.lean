-- ===== PART A: goes FIRST, ahead of the names: the tables' words, and 'selects' of the private methods out of them =====
/-- a private method of a class that the tables say can be made, by its rows of tables_1 -/
def lw_okq (q : MethodName × Nat) : Prop := (q.1.cls ≠ "java/lang/invoke/MethodHandle" ∧ q.1.cls ≠ "java/lang/invoke/VarHandle") ∧ Cond.instantiable q.1.cls q.2 ∈ tables_1 ∧ Cond.privateMethod q.1 ∈ tables_1 ∧ Cond.instanceMethod q.1 ∈ tables_1
theorem lw_p0 : lw_okq (⟨"FloorTops$Summary", "goesBefore", "(II)Z"⟩, 8) := ⟨⟨by decide +kernel, by decide +kernel⟩, List.mem_of_getElem? (i := 39) (by decide +kernel), List.mem_of_getElem? (i := 316) (by decide +kernel), List.mem_of_getElem? (i := 317) (by decide +kernel)⟩
theorem lw_p1 : lw_okq (⟨"FloorTops$Summary", "takeCounter", "(I)V"⟩, 8) := ⟨⟨by decide +kernel, by decide +kernel⟩, List.mem_of_getElem? (i := 39) (by decide +kernel), List.mem_of_getElem? (i := 320) (by decide +kernel), List.mem_of_getElem? (i := 321) (by decide +kernel)⟩
theorem lw_p2 : lw_okq (⟨"FloorTops$State", "noteEviction", "(II)V"⟩, 6) := ⟨⟨by decide +kernel, by decide +kernel⟩, List.mem_of_getElem? (i := 25) (by decide +kernel), List.mem_of_getElem? (i := 327) (by decide +kernel), List.mem_of_getElem? (i := 328) (by decide +kernel)⟩
theorem lw_p3 : lw_okq (⟨"FloorTops$Text", "sign", "()C"⟩, 9) := ⟨⟨by decide +kernel, by decide +kernel⟩, List.mem_of_getElem? (i := 177) (by decide +kernel), List.mem_of_getElem? (i := 351) (by decide +kernel), List.mem_of_getElem? (i := 352) (by decide +kernel)⟩
theorem lw_p4 : lw_okq (⟨"FloorTops$Text", "readWeight", "()I"⟩, 9) := ⟨⟨by decide +kernel, by decide +kernel⟩, List.mem_of_getElem? (i := 177) (by decide +kernel), List.mem_of_getElem? (i := 356) (by decide +kernel), List.mem_of_getElem? (i := 357) (by decide +kernel)⟩
theorem lw_p5 : lw_okq (⟨"FloorTops$Text", "isDigit", "()Z"⟩, 9) := ⟨⟨by decide +kernel, by decide +kernel⟩, List.mem_of_getElem? (i := 177) (by decide +kernel), List.mem_of_getElem? (i := 360) (by decide +kernel), List.mem_of_getElem? (i := 361) (by decide +kernel)⟩
theorem lw_p6 : lw_okq (⟨"FloorTops$Text", "readNumber", "()I"⟩, 9) := ⟨⟨by decide +kernel, by decide +kernel⟩, List.mem_of_getElem? (i := 177) (by decide +kernel), List.mem_of_getElem? (i := 364) (by decide +kernel), List.mem_of_getElem? (i := 365) (by decide +kernel)⟩
theorem lw_p7 : lw_okq (⟨"FloorTops$Text", "takeDigit", "()I"⟩, 9) := ⟨⟨by decide +kernel, by decide +kernel⟩, List.mem_of_getElem? (i := 177) (by decide +kernel), List.mem_of_getElem? (i := 368) (by decide +kernel), List.mem_of_getElem? (i := 369) (by decide +kernel)⟩
theorem lw_p8 : lw_okq (⟨"FloorTops$Summary", "leaveOut", "()I"⟩, 8) := ⟨⟨by decide +kernel, by decide +kernel⟩, List.mem_of_getElem? (i := 39) (by decide +kernel), List.mem_of_getElem? (i := 420) (by decide +kernel), List.mem_of_getElem? (i := 421) (by decide +kernel)⟩
theorem lw_p9 : lw_okq (⟨"FloorTops$Summary", "nextLeftOut", "()I"⟩, 8) := ⟨⟨by decide +kernel, by decide +kernel⟩, List.mem_of_getElem? (i := 39) (by decide +kernel), List.mem_of_getElem? (i := 424) (by decide +kernel), List.mem_of_getElem? (i := 425) (by decide +kernel)⟩
theorem lw_p10 : lw_okq (⟨"FloorTops$Text", "wordBefore", "(I)I"⟩, 9) := ⟨⟨by decide +kernel, by decide +kernel⟩, List.mem_of_getElem? (i := 177) (by decide +kernel), List.mem_of_getElem? (i := 470) (by decide +kernel), List.mem_of_getElem? (i := 471) (by decide +kernel)⟩
theorem lw_p11 : lw_okq (⟨"FloorTops$Text", "beginsWith", "(Ljava/lang/String;I)Z"⟩, 9) := ⟨⟨by decide +kernel, by decide +kernel⟩, List.mem_of_getElem? (i := 177) (by decide +kernel), List.mem_of_getElem? (i := 475) (by decide +kernel), List.mem_of_getElem? (i := 476) (by decide +kernel)⟩
theorem lw_p12 : lw_okq (⟨"FloorTops$Text", "readArgument", "()I"⟩, 9) := ⟨⟨by decide +kernel, by decide +kernel⟩, List.mem_of_getElem? (i := 177) (by decide +kernel), List.mem_of_getElem? (i := 530) (by decide +kernel), List.mem_of_getElem? (i := 531) (by decide +kernel)⟩
theorem lw_p13 : lw_okq (⟨"FloorTops", "told", "(I)LFloorTops$Summary;"⟩, 6) := ⟨⟨by decide +kernel, by decide +kernel⟩, List.mem_of_getElem? (i := 17) (by decide +kernel), List.mem_of_getElem? (i := 560) (by decide +kernel), List.mem_of_getElem? (i := 561) (by decide +kernel)⟩
theorem lw_p14 : lw_okq (⟨"FloorTops$Summary", "placeOf", "(I)I"⟩, 8) := ⟨⟨by decide +kernel, by decide +kernel⟩, List.mem_of_getElem? (i := 39) (by decide +kernel), List.mem_of_getElem? (i := 598) (by decide +kernel), List.mem_of_getElem? (i := 599) (by decide +kernel)⟩
theorem lw_p15 : lw_okq (⟨"FloorTopsModel", "puts", "(III)V"⟩, 11) := ⟨⟨by decide +kernel, by decide +kernel⟩, List.mem_of_getElem? (i := 652) (by decide +kernel), List.mem_of_getElem? (i := 658) (by decide +kernel), List.mem_of_getElem? (i := 659) (by decide +kernel)⟩
def lw_privs_1 : List (MethodName × Nat) := [(⟨"FloorTops$Summary", "goesBefore", "(II)Z"⟩, 8), (⟨"FloorTops$Summary", "takeCounter", "(I)V"⟩, 8), (⟨"FloorTops$State", "noteEviction", "(II)V"⟩, 6), (⟨"FloorTops$Text", "sign", "()C"⟩, 9), (⟨"FloorTops$Text", "readWeight", "()I"⟩, 9), (⟨"FloorTops$Text", "isDigit", "()Z"⟩, 9), (⟨"FloorTops$Text", "readNumber", "()I"⟩, 9), (⟨"FloorTops$Text", "takeDigit", "()I"⟩, 9), (⟨"FloorTops$Summary", "leaveOut", "()I"⟩, 8), (⟨"FloorTops$Summary", "nextLeftOut", "()I"⟩, 8), (⟨"FloorTops$Text", "wordBefore", "(I)I"⟩, 9), (⟨"FloorTops$Text", "beginsWith", "(Ljava/lang/String;I)Z"⟩, 9), (⟨"FloorTops$Text", "readArgument", "()I"⟩, 9), (⟨"FloorTops", "told", "(I)LFloorTops$Summary;"⟩, 6), (⟨"FloorTops$Summary", "placeOf", "(I)I"⟩, 8), (⟨"FloorTopsModel", "puts", "(III)V"⟩, 11)]
theorem lw_r1 : ∀ q ∈ lw_privs_1, lw_okq q := List.forall_mem_cons.mpr ⟨lw_p0, List.forall_mem_cons.mpr ⟨lw_p1, List.forall_mem_cons.mpr ⟨lw_p2, List.forall_mem_cons.mpr ⟨lw_p3, List.forall_mem_cons.mpr ⟨lw_p4, List.forall_mem_cons.mpr ⟨lw_p5, List.forall_mem_cons.mpr ⟨lw_p6, List.forall_mem_cons.mpr ⟨lw_p7, List.forall_mem_cons.mpr ⟨lw_p8, List.forall_mem_cons.mpr ⟨lw_p9, List.forall_mem_cons.mpr ⟨lw_p10, List.forall_mem_cons.mpr ⟨lw_p11, List.forall_mem_cons.mpr ⟨lw_p12, List.forall_mem_cons.mpr ⟨lw_p13, List.forall_mem_cons.mpr ⟨lw_p14, List.forall_mem_cons.mpr ⟨lw_p15, fun _ h => absurd h List.not_mem_nil⟩⟩⟩⟩⟩⟩⟩⟩⟩⟩⟩⟩⟩⟩⟩⟩
theorem lw_p16 : lw_okq (⟨"FloorTopsModel", "of", "(II)I"⟩, 11) := ⟨⟨by decide +kernel, by decide +kernel⟩, List.mem_of_getElem? (i := 652) (by decide +kernel), List.mem_of_getElem? (i := 712) (by decide +kernel), List.mem_of_getElem? (i := 713) (by decide +kernel)⟩
theorem lw_p17 : lw_okq (⟨"FloorTopsModel", "record", "()V"⟩, 11) := ⟨⟨by decide +kernel, by decide +kernel⟩, List.mem_of_getElem? (i := 652) (by decide +kernel), List.mem_of_getElem? (i := 717) (by decide +kernel), List.mem_of_getElem? (i := 718) (by decide +kernel)⟩
theorem lw_p18 : lw_okq (⟨"FloorTopsModel", "comes", "(III)V"⟩, 11) := ⟨⟨by decide +kernel, by decide +kernel⟩, List.mem_of_getElem? (i := 652) (by decide +kernel), List.mem_of_getElem? (i := 721) (by decide +kernel), List.mem_of_getElem? (i := 722) (by decide +kernel)⟩
theorem lw_p19 : lw_okq (⟨"FloorTopsModel", "its", "(III)I"⟩, 11) := ⟨⟨by decide +kernel, by decide +kernel⟩, List.mem_of_getElem? (i := 652) (by decide +kernel), List.mem_of_getElem? (i := 725) (by decide +kernel), List.mem_of_getElem? (i := 726) (by decide +kernel)⟩
theorem lw_p20 : lw_okq (⟨"FloorTopsModel", "gives", "(IIII)V"⟩, 11) := ⟨⟨by decide +kernel, by decide +kernel⟩, List.mem_of_getElem? (i := 652) (by decide +kernel), List.mem_of_getElem? (i := 729) (by decide +kernel), List.mem_of_getElem? (i := 730) (by decide +kernel)⟩
theorem lw_p21 : lw_okq (⟨"FloorTopsModel", "has", "(II)Z"⟩, 11) := ⟨⟨by decide +kernel, by decide +kernel⟩, List.mem_of_getElem? (i := 652) (by decide +kernel), List.mem_of_getElem? (i := 733) (by decide +kernel), List.mem_of_getElem? (i := 734) (by decide +kernel)⟩
theorem lw_p22 : lw_okq (⟨"FloorTopsModel", "counters", "(I)I"⟩, 11) := ⟨⟨by decide +kernel, by decide +kernel⟩, List.mem_of_getElem? (i := 652) (by decide +kernel), List.mem_of_getElem? (i := 737) (by decide +kernel), List.mem_of_getElem? (i := 738) (by decide +kernel)⟩
theorem lw_p23 : lw_okq (⟨"FloorTopsModel", "evicts", "(I)V"⟩, 11) := ⟨⟨by decide +kernel, by decide +kernel⟩, List.mem_of_getElem? (i := 652) (by decide +kernel), List.mem_of_getElem? (i := 741) (by decide +kernel), List.mem_of_getElem? (i := 742) (by decide +kernel)⟩
theorem lw_p24 : lw_okq (⟨"FloorTopsModel", "least", "(I)I"⟩, 11) := ⟨⟨by decide +kernel, by decide +kernel⟩, List.mem_of_getElem? (i := 652) (by decide +kernel), List.mem_of_getElem? (i := 745) (by decide +kernel), List.mem_of_getElem? (i := 746) (by decide +kernel)⟩
theorem lw_p25 : lw_okq (⟨"FloorTopsModel", "drops", "(II)V"⟩, 11) := ⟨⟨by decide +kernel, by decide +kernel⟩, List.mem_of_getElem? (i := 652) (by decide +kernel), List.mem_of_getElem? (i := 749) (by decide +kernel), List.mem_of_getElem? (i := 750) (by decide +kernel)⟩
theorem lw_p26 : lw_okq (⟨"FloorTopsModel", "tells", "(III)V"⟩, 11) := ⟨⟨by decide +kernel, by decide +kernel⟩, List.mem_of_getElem? (i := 652) (by decide +kernel), List.mem_of_getElem? (i := 753) (by decide +kernel), List.mem_of_getElem? (i := 754) (by decide +kernel)⟩
theorem lw_p27 : lw_okq (⟨"FloorTopsModel", "flows", "(II)V"⟩, 11) := ⟨⟨by decide +kernel, by decide +kernel⟩, List.mem_of_getElem? (i := 652) (by decide +kernel), List.mem_of_getElem? (i := 761) (by decide +kernel), List.mem_of_getElem? (i := 762) (by decide +kernel)⟩
theorem lw_p28 : lw_okq (⟨"FloorTopsModel", "present", "()I"⟩, 11) := ⟨⟨by decide +kernel, by decide +kernel⟩, List.mem_of_getElem? (i := 652) (by decide +kernel), List.mem_of_getElem? (i := 765) (by decide +kernel), List.mem_of_getElem? (i := 766) (by decide +kernel)⟩
theorem lw_p29 : lw_okq (⟨"FloorTopsModel", "copies", "(II)V"⟩, 11) := ⟨⟨by decide +kernel, by decide +kernel⟩, List.mem_of_getElem? (i := 652) (by decide +kernel), List.mem_of_getElem? (i := 769) (by decide +kernel), List.mem_of_getElem? (i := 770) (by decide +kernel)⟩
theorem lw_p30 : lw_okq (⟨"FloorTopsModel", "empties", "(I)V"⟩, 11) := ⟨⟨by decide +kernel, by decide +kernel⟩, List.mem_of_getElem? (i := 652) (by decide +kernel), List.mem_of_getElem? (i := 773) (by decide +kernel), List.mem_of_getElem? (i := 774) (by decide +kernel)⟩
theorem lw_p31 : lw_okq (⟨"FloorTopsModel", "joins", "(II)I"⟩, 11) := ⟨⟨by decide +kernel, by decide +kernel⟩, List.mem_of_getElem? (i := 652) (by decide +kernel), List.mem_of_getElem? (i := 781) (by decide +kernel), List.mem_of_getElem? (i := 782) (by decide +kernel)⟩
def lw_privs_2 : List (MethodName × Nat) := [(⟨"FloorTopsModel", "of", "(II)I"⟩, 11), (⟨"FloorTopsModel", "record", "()V"⟩, 11), (⟨"FloorTopsModel", "comes", "(III)V"⟩, 11), (⟨"FloorTopsModel", "its", "(III)I"⟩, 11), (⟨"FloorTopsModel", "gives", "(IIII)V"⟩, 11), (⟨"FloorTopsModel", "has", "(II)Z"⟩, 11), (⟨"FloorTopsModel", "counters", "(I)I"⟩, 11), (⟨"FloorTopsModel", "evicts", "(I)V"⟩, 11), (⟨"FloorTopsModel", "least", "(I)I"⟩, 11), (⟨"FloorTopsModel", "drops", "(II)V"⟩, 11), (⟨"FloorTopsModel", "tells", "(III)V"⟩, 11), (⟨"FloorTopsModel", "flows", "(II)V"⟩, 11), (⟨"FloorTopsModel", "present", "()I"⟩, 11), (⟨"FloorTopsModel", "copies", "(II)V"⟩, 11), (⟨"FloorTopsModel", "empties", "(I)V"⟩, 11), (⟨"FloorTopsModel", "joins", "(II)I"⟩, 11)]
theorem lw_r2 : ∀ q ∈ lw_privs_2, lw_okq q := List.forall_mem_cons.mpr ⟨lw_p16, List.forall_mem_cons.mpr ⟨lw_p17, List.forall_mem_cons.mpr ⟨lw_p18, List.forall_mem_cons.mpr ⟨lw_p19, List.forall_mem_cons.mpr ⟨lw_p20, List.forall_mem_cons.mpr ⟨lw_p21, List.forall_mem_cons.mpr ⟨lw_p22, List.forall_mem_cons.mpr ⟨lw_p23, List.forall_mem_cons.mpr ⟨lw_p24, List.forall_mem_cons.mpr ⟨lw_p25, List.forall_mem_cons.mpr ⟨lw_p26, List.forall_mem_cons.mpr ⟨lw_p27, List.forall_mem_cons.mpr ⟨lw_p28, List.forall_mem_cons.mpr ⟨lw_p29, List.forall_mem_cons.mpr ⟨lw_p30, List.forall_mem_cons.mpr ⟨lw_p31, fun _ h => absurd h List.not_mem_nil⟩⟩⟩⟩⟩⟩⟩⟩⟩⟩⟩⟩⟩⟩⟩⟩
theorem lw_p32 : lw_okq (⟨"FloorTopsModel", "arrivals", "()I"⟩, 11) := ⟨⟨by decide +kernel, by decide +kernel⟩, List.mem_of_getElem? (i := 652) (by decide +kernel), List.mem_of_getElem? (i := 809) (by decide +kernel), List.mem_of_getElem? (i := 810) (by decide +kernel)⟩
theorem lw_p33 : lw_okq (⟨"FloorTopsModel", "takesArrival", "()Z"⟩, 11) := ⟨⟨by decide +kernel, by decide +kernel⟩, List.mem_of_getElem? (i := 652) (by decide +kernel), List.mem_of_getElem? (i := 813) (by decide +kernel), List.mem_of_getElem? (i := 814) (by decide +kernel)⟩
theorem lw_p34 : lw_okq (⟨"FloorTopsModel", "isBetween", "(II)Z"⟩, 11) := ⟨⟨by decide +kernel, by decide +kernel⟩, List.mem_of_getElem? (i := 652) (by decide +kernel), List.mem_of_getElem? (i := 817) (by decide +kernel), List.mem_of_getElem? (i := 818) (by decide +kernel)⟩
theorem lw_p35 : lw_okq (⟨"FloorTopsModel", "takes", "(I)Z"⟩, 11) := ⟨⟨by decide +kernel, by decide +kernel⟩, List.mem_of_getElem? (i := 652) (by decide +kernel), List.mem_of_getElem? (i := 821) (by decide +kernel), List.mem_of_getElem? (i := 822) (by decide +kernel)⟩
theorem lw_p36 : lw_okq (⟨"FloorTopsModel", "word", "()I"⟩, 11) := ⟨⟨by decide +kernel, by decide +kernel⟩, List.mem_of_getElem? (i := 652) (by decide +kernel), List.mem_of_getElem? (i := 833) (by decide +kernel), List.mem_of_getElem? (i := 834) (by decide +kernel)⟩
theorem lw_p37 : lw_okq (⟨"FloorTopsModel", "isWord", "(CCCCI)Z"⟩, 11) := ⟨⟨by decide +kernel, by decide +kernel⟩, List.mem_of_getElem? (i := 652) (by decide +kernel), List.mem_of_getElem? (i := 837) (by decide +kernel), List.mem_of_getElem? (i := 838) (by decide +kernel)⟩
theorem lw_p38 : lw_okq (⟨"FloorTopsModel", "takesNumber", "()Z"⟩, 11) := ⟨⟨by decide +kernel, by decide +kernel⟩, List.mem_of_getElem? (i := 652) (by decide +kernel), List.mem_of_getElem? (i := 841) (by decide +kernel), List.mem_of_getElem? (i := 842) (by decide +kernel)⟩
theorem lw_p39 : lw_okq (⟨"FloorTopsModel", "looks", "(I)I"⟩, 11) := ⟨⟨by decide +kernel, by decide +kernel⟩, List.mem_of_getElem? (i := 652) (by decide +kernel), List.mem_of_getElem? (i := 865) (by decide +kernel), List.mem_of_getElem? (i := 866) (by decide +kernel)⟩
theorem lw_p40 : lw_okq (⟨"FloorTopsModel", "greatestSlack", "(I)I"⟩, 11) := ⟨⟨by decide +kernel, by decide +kernel⟩, List.mem_of_getElem? (i := 652) (by decide +kernel), List.mem_of_getElem? (i := 869) (by decide +kernel), List.mem_of_getElem? (i := 870) (by decide +kernel)⟩
theorem lw_p41 : lw_okq (⟨"FloorTopsModel", "letters", "(II)I"⟩, 11) := ⟨⟨by decide +kernel, by decide +kernel⟩, List.mem_of_getElem? (i := 652) (by decide +kernel), List.mem_of_getElem? (i := 873) (by decide +kernel), List.mem_of_getElem? (i := 874) (by decide +kernel)⟩
theorem lw_p42 : lw_okq (⟨"FloorTopsModel", "upper", "(II)I"⟩, 11) := ⟨⟨by decide +kernel, by decide +kernel⟩, List.mem_of_getElem? (i := 652) (by decide +kernel), List.mem_of_getElem? (i := 881) (by decide +kernel), List.mem_of_getElem? (i := 882) (by decide +kernel)⟩
theorem lw_p43 : lw_okq (⟨"FloorTopsModel", "lower", "(II)I"⟩, 11) := ⟨⟨by decide +kernel, by decide +kernel⟩, List.mem_of_getElem? (i := 652) (by decide +kernel), List.mem_of_getElem? (i := 885) (by decide +kernel), List.mem_of_getElem? (i := 886) (by decide +kernel)⟩
theorem lw_p44 : lw_okq (⟨"FloorTopsModel", "ahead", "(IIZ)I"⟩, 11) := ⟨⟨by decide +kernel, by decide +kernel⟩, List.mem_of_getElem? (i := 652) (by decide +kernel), List.mem_of_getElem? (i := 897) (by decide +kernel), List.mem_of_getElem? (i := 898) (by decide +kernel)⟩
def lw_privs_3 : List (MethodName × Nat) := [(⟨"FloorTopsModel", "arrivals", "()I"⟩, 11), (⟨"FloorTopsModel", "takesArrival", "()Z"⟩, 11), (⟨"FloorTopsModel", "isBetween", "(II)Z"⟩, 11), (⟨"FloorTopsModel", "takes", "(I)Z"⟩, 11), (⟨"FloorTopsModel", "word", "()I"⟩, 11), (⟨"FloorTopsModel", "isWord", "(CCCCI)Z"⟩, 11), (⟨"FloorTopsModel", "takesNumber", "()Z"⟩, 11), (⟨"FloorTopsModel", "looks", "(I)I"⟩, 11), (⟨"FloorTopsModel", "greatestSlack", "(I)I"⟩, 11), (⟨"FloorTopsModel", "letters", "(II)I"⟩, 11), (⟨"FloorTopsModel", "upper", "(II)I"⟩, 11), (⟨"FloorTopsModel", "lower", "(II)I"⟩, 11), (⟨"FloorTopsModel", "ahead", "(IIZ)I"⟩, 11)]
theorem lw_r3 : ∀ q ∈ lw_privs_3, lw_okq q := List.forall_mem_cons.mpr ⟨lw_p32, List.forall_mem_cons.mpr ⟨lw_p33, List.forall_mem_cons.mpr ⟨lw_p34, List.forall_mem_cons.mpr ⟨lw_p35, List.forall_mem_cons.mpr ⟨lw_p36, List.forall_mem_cons.mpr ⟨lw_p37, List.forall_mem_cons.mpr ⟨lw_p38, List.forall_mem_cons.mpr ⟨lw_p39, List.forall_mem_cons.mpr ⟨lw_p40, List.forall_mem_cons.mpr ⟨lw_p41, List.forall_mem_cons.mpr ⟨lw_p42, List.forall_mem_cons.mpr ⟨lw_p43, List.forall_mem_cons.mpr ⟨lw_p44, fun _ h => absurd h List.not_mem_nil⟩⟩⟩⟩⟩⟩⟩⟩⟩⟩⟩⟩⟩
def lw_privs : List (MethodName × Nat) := lw_privs_1 ++ (lw_privs_2 ++ (lw_privs_3))
def lw_tbl : List Cond := k2_sels lw_privs ++ tables_1
theorem lw_privs_ok : ∀ q ∈ lw_privs, lw_okq q := by
  show ∀ q ∈ lw_privs_1 ++ (lw_privs_2 ++ (lw_privs_3)), lw_okq q
  exact List.forall_mem_append.mpr ⟨lw_r1, List.forall_mem_append.mpr ⟨lw_r2, lw_r3⟩⟩

theorem goodIn_r {big : List Cond} (ws : List Cond) (ps : List Nat) (hp : ws = ps.filterMap (fun i => big[i]?)) (h : ws.all goodWord = true) : GoodIn big ws := by
  intro w hw
  have h1 := List.all_eq_true.mp h w hw
  rw [hp] at hw
  obtain ⟨i, -, hi⟩ := List.mem_filterMap.mp hw
  have hm : w ∈ big := by first | exact List.mem_of_getElem? hi | exact List.getElem?_mem hi
  exact ⟨hm, good_of_word h1⟩
theorem goodIn_app {big a b : List Cond} (ha : GoodIn big a) (hb : GoodIn big b) : GoodIn big (a ++ b) := fun w h => (List.mem_append.mp h).elim (ha w) (hb w)
theorem goodIn_ca {big a b : List Cond} {c : Cond} (ha : GoodIn big (c :: a)) (hb : GoodIn big b) : GoodIn big (c :: (a ++ b)) := fun w h => (List.mem_cons.mp h).elim (fun e => ha w (List.mem_cons.mpr (Or.inl e))) (fun h => (List.mem_append.mp h).elim (fun h => ha w (List.mem_cons.mpr (Or.inr h))) (hb w))
theorem goodIn_sub {big ws : List Cond} (hm : ∀ w ∈ ws, w ∈ big) (h : ws.all goodWord = true) : GoodIn big ws := fun w hw => ⟨hm w hw, good_of_word (List.all_eq_true.mp h w hw)⟩

def RX0 : String := "FloorTops$History"
def TX0 : u_T := fun k => match k with
  | 0 => ("FloorTops$History", "states", "[LFloorTops$State;", true)
  | 1 => ("FloorTops$History", "next", "I", false)
  | _ => ("FloorTops$History", "known", "I", false)
def tyX0 : Nat → FieldType := fun k => match k with
  | 0 => .array (.object "FloorTops$State")
  | 1 => .int
  | _ => .int
abbrev wsX00 : List Cond := u_ws RX0 TX0 3
theorem nmX0 : ∀ a, a < 3 → ∀ b, b < 3 → a ≠ b → (TX0 a).2.1 ≠ (TX0 b).2.1 := by decide +kernel
theorem tyX0_ok : ∀ k, k < 3 → parseFieldDescriptor (TX0 k).2.2.1 = some (tyX0 k) := by decide +kernel
abbrev cX0_init : ByteArray := prog_2_method_1_code
def yX0_init : MethodName := ⟨RX0, "<init>", "()V"⟩
abbrev cX0_remember : ByteArray := prog_2_method_2_code
def yX0_remember : MethodName := ⟨RX0, "remember", "(LFloorTops$State;)V"⟩
abbrev cX0_takeBack : ByteArray := prog_2_method_3_code
def yX0_takeBack : MethodName := ⟨RX0, "takeBack", "(LFloorTops$State;)V"⟩
def RX1 : String := "FloorTops$Log"
def TX1 : u_T := fun k => match k with
  | 0 => ("FloorTops$Log", "kinds", "[I", true)
  | 1 => ("FloorTops$Log", "places", "[I", true)
  | 2 => ("FloorTops$Log", "values", "[I", true)
  | 3 => ("FloorTops$Log", "times", "[I", true)
  | 4 => ("FloorTops$Log", "next", "I", false)
  | _ => ("FloorTops$Log", "known", "I", false)
def tyX1 : Nat → FieldType := fun k => match k with
  | 0 => .array .int
  | 1 => .array .int
  | 2 => .array .int
  | 3 => .array .int
  | 4 => .int
  | _ => .int
abbrev wsX10 : List Cond := u_ws RX1 TX1 6
theorem nmX1 : ∀ a, a < 6 → ∀ b, b < 6 → a ≠ b → (TX1 a).2.1 ≠ (TX1 b).2.1 := by decide +kernel
theorem tyX1_ok : ∀ k, k < 6 → parseFieldDescriptor (TX1 k).2.2.1 = some (tyX1 k) := by decide +kernel
abbrev cX1_init : ByteArray := prog_3_method_1_code
def yX1_init : MethodName := ⟨RX1, "<init>", "()V"⟩
abbrev cX1_note : ByteArray := prog_3_method_2_code
def yX1_note : MethodName := ⟨RX1, "note", "(IIII)V"⟩
abbrev cX1_slotOf : ByteArray := prog_3_method_3_code
def yX1_slotOf : MethodName := ⟨RX1, "slotOf", "(I)I"⟩
abbrev cX1_become : ByteArray := prog_3_method_4_code
def yX1_become : MethodName := ⟨RX1, "become", "(LFloorTops$Log;)V"⟩
def RX2 : String := "FloorTops$State"
def TX2 : u_T := fun k => match k with
  | 0 => ("FloorTops$State", "summaries", "[LFloorTops$Summary;", true)
  | 1 => ("FloorTops$State", "window", "LFloorTops$Window;", true)
  | 2 => ("FloorTops$State", "log", "LFloorTops$Log;", true)
  | 3 => ("FloorTops$State", "time", "I", false)
  | 4 => ("FloorTops$State", "evictions", "I", false)
  | _ => ("FloorTops$State", "merges", "I", false)
def tyX2 : Nat → FieldType := fun k => match k with
  | 0 => .array (.object "FloorTops$Summary")
  | 1 => .object "FloorTops$Window"
  | 2 => .object "FloorTops$Log"
  | 3 => .int
  | 4 => .int
  | _ => .int
abbrev wsX20 : List Cond := u_ws RX2 TX2 6
theorem nmX2 : ∀ a, a < 6 → ∀ b, b < 6 → a ≠ b → (TX2 a).2.1 ≠ (TX2 b).2.1 := by decide +kernel
theorem tyX2_ok : ∀ k, k < 6 → parseFieldDescriptor (TX2 k).2.2.1 = some (tyX2 k) := by decide +kernel
abbrev cX2_init : ByteArray := prog_4_method_1_code
def yX2_init : MethodName := ⟨RX2, "<init>", "()V"⟩
abbrev cX2_bring : ByteArray := prog_4_method_2_code
def yX2_bring : MethodName := ⟨RX2, "bring", "(ILFloorTops$Summary;II)V"⟩
abbrev cX2_bringToWindow : ByteArray := prog_4_method_3_code
def yX2_bringToWindow : MethodName := ⟨RX2, "bringToWindow", "(II)V"⟩
abbrev cX2_noteEviction : ByteArray := prog_4_method_4_code
def yX2_noteEviction : MethodName := ⟨RX2, "noteEviction", "(II)V"⟩
abbrev cX2_join : ByteArray := prog_4_method_5_code
def yX2_join : MethodName := ⟨RX2, "join", "(II)I"⟩
abbrev cX2_resize : ByteArray := prog_4_method_6_code
def yX2_resize : MethodName := ⟨RX2, "resize", "(II)I"⟩
abbrev cX2_become : ByteArray := prog_4_method_7_code
def yX2_become : MethodName := ⟨RX2, "become", "(LFloorTops$State;)V"⟩
def RX3 : String := "FloorTops$Summary"
def TX3 : u_T := fun k => match k with
  | 0 => ("FloorTops$Summary", "size", "I", false)
  | 1 => ("FloorTops$Summary", "floor", "I", false)
  | 2 => ("FloorTops$Summary", "sum", "I", false)
  | 3 => ("FloorTops$Summary", "held", "I", false)
  | 4 => ("FloorTops$Summary", "counts", "[I", true)
  | 5 => ("FloorTops$Summary", "slacks", "[I", true)
  | 6 => ("FloorTops$Summary", "times", "[I", true)
  | _ => ("FloorTops$Summary", "came", "[I", true)
def tyX3 : Nat → FieldType := fun k => match k with
  | 0 => .int
  | 1 => .int
  | 2 => .int
  | 3 => .int
  | 4 => .array .int
  | 5 => .array .int
  | 6 => .array .int
  | _ => .array .int
abbrev wsX30 : List Cond := u_ws RX3 TX3 8
theorem nmX3 : ∀ a, a < 8 → ∀ b, b < 8 → a ≠ b → (TX3 a).2.1 ≠ (TX3 b).2.1 := by decide +kernel
theorem tyX3_ok : ∀ k, k < 8 → parseFieldDescriptor (TX3 k).2.2.1 = some (tyX3 k) := by decide +kernel
abbrev cX3_init : ByteArray := prog_5_method_1_code
def yX3_init : MethodName := ⟨RX3, "<init>", "()V"⟩
abbrev cX3_has : ByteArray := prog_5_method_2_code
def yX3_has : MethodName := ⟨RX3, "has", "(I)Z"⟩
abbrev cX3_counters : ByteArray := prog_5_method_3_code
def yX3_counters : MethodName := ⟨RX3, "counters", "()I"⟩
abbrev cX3_upper : ByteArray := prog_5_method_4_code
def yX3_upper : MethodName := ⟨RX3, "upper", "(I)I"⟩
abbrev cX3_lower : ByteArray := prog_5_method_5_code
def yX3_lower : MethodName := ⟨RX3, "lower", "(I)I"⟩
abbrev cX3_slackToMerge : ByteArray := prog_5_method_6_code
def yX3_slackToMerge : MethodName := ⟨RX3, "slackToMerge", "(I)I"⟩
abbrev cX3_needsRoomFor : ByteArray := prog_5_method_7_code
def yX3_needsRoomFor : MethodName := ⟨RX3, "needsRoomFor", "(I)Z"⟩
abbrev cX3_receive : ByteArray := prog_5_method_8_code
def yX3_receive : MethodName := ⟨RX3, "receive", "(III)I"⟩
abbrev cX3_nextEvicted : ByteArray := prog_5_method_9_code
def yX3_nextEvicted : MethodName := ⟨RX3, "nextEvicted", "()I"⟩
abbrev cX3_goesBefore : ByteArray := prog_5_method_10_code
def yX3_goesBefore : MethodName := ⟨RX3, "goesBefore", "(II)Z"⟩
abbrev cX3_evictNext : ByteArray := prog_5_method_11_code
def yX3_evictNext : MethodName := ⟨RX3, "evictNext", "()I"⟩
abbrev cX3_takeCounter : ByteArray := prog_5_method_12_code
def yX3_takeCounter : MethodName := ⟨RX3, "takeCounter", "(I)V"⟩
abbrev cX3_absorb : ByteArray := prog_5_method_13_code
def yX3_absorb : MethodName := ⟨RX3, "absorb", "(LFloorTops$Summary;I)I"⟩
abbrev cX3_leaveOut : ByteArray := prog_5_method_14_code
def yX3_leaveOut : MethodName := ⟨RX3, "leaveOut", "()I"⟩
abbrev cX3_nextLeftOut : ByteArray := prog_5_method_15_code
def yX3_nextLeftOut : MethodName := ⟨RX3, "nextLeftOut", "()I"⟩
abbrev cX3_become : ByteArray := prog_5_method_16_code
def yX3_become : MethodName := ⟨RX3, "become", "(LFloorTops$Summary;)V"⟩
abbrev cX3_wipe : ByteArray := prog_5_method_17_code
def yX3_wipe : MethodName := ⟨RX3, "wipe", "()V"⟩
abbrev cX3_greatestSlack : ByteArray := prog_5_method_18_code
def yX3_greatestSlack : MethodName := ⟨RX3, "greatestSlack", "()I"⟩
abbrev cX3_lettersThatCame : ByteArray := prog_5_method_19_code
def yX3_lettersThatCame : MethodName := ⟨RX3, "lettersThatCame", "()I"⟩
abbrev cX3_letterAt : ByteArray := prog_5_method_20_code
def yX3_letterAt : MethodName := ⟨RX3, "letterAt", "(I)I"⟩
abbrev cX3_placeOf : ByteArray := prog_5_method_21_code
def yX3_placeOf : MethodName := ⟨RX3, "placeOf", "(I)I"⟩
abbrev cX3_lettersAhead : ByteArray := prog_5_method_22_code
def yX3_lettersAhead : MethodName := ⟨RX3, "lettersAhead", "(IZ)I"⟩
def RX4 : String := "FloorTops$Text"
def TX4 : u_T := fun k => match k with
  | 0 => ("FloorTops$Text", "signs", "[C", true)
  | 1 => ("FloorTops$Text", "length", "I", false)
  | 2 => ("FloorTops$Text", "letters", "[I", true)
  | 3 => ("FloorTops$Text", "weights", "[I", true)
  | 4 => ("FloorTops$Text", "arrivals", "I", false)
  | 5 => ("FloorTops$Text", "word", "I", false)
  | 6 => ("FloorTops$Text", "firstNumber", "I", false)
  | 7 => ("FloorTops$Text", "secondNumber", "I", false)
  | _ => ("FloorTops$Text", "at", "I", false)
def tyX4 : Nat → FieldType := fun k => match k with
  | 0 => .array .char
  | 1 => .int
  | 2 => .array .int
  | 3 => .array .int
  | 4 => .int
  | 5 => .int
  | 6 => .int
  | 7 => .int
  | _ => .int
abbrev wsX40 : List Cond := u_ws RX4 TX4 9
theorem nmX4 : ∀ a, a < 9 → ∀ b, b < 9 → a ≠ b → (TX4 a).2.1 ≠ (TX4 b).2.1 := by decide +kernel
theorem tyX4_ok : ∀ k, k < 9 → parseFieldDescriptor (TX4 k).2.2.1 = some (tyX4 k) := by decide +kernel
abbrev cX4_init : ByteArray := prog_6_method_1_code
def yX4_init : MethodName := ⟨RX4, "<init>", "()V"⟩
abbrev cX4_put : ByteArray := prog_6_method_2_code
def yX4_put : MethodName := ⟨RX4, "put", "(C)V"⟩
abbrev cX4_sign : ByteArray := prog_6_method_3_code
def yX4_sign : MethodName := ⟨RX4, "sign", "()C"⟩
abbrev cX4_isDigit : ByteArray := prog_6_method_4_code
def yX4_isDigit : MethodName := ⟨RX4, "isDigit", "()Z"⟩
abbrev cX4_takeDigit : ByteArray := prog_6_method_5_code
def yX4_takeDigit : MethodName := ⟨RX4, "takeDigit", "()I"⟩
abbrev cX4_readArrivals : ByteArray := prog_6_method_6_code
def yX4_readArrivals : MethodName := ⟨RX4, "readArrivals", "()I"⟩
abbrev cX4_readWeight : ByteArray := prog_6_method_7_code
def yX4_readWeight : MethodName := ⟨RX4, "readWeight", "()I"⟩
abbrev cX4_readNumber : ByteArray := prog_6_method_8_code
def yX4_readNumber : MethodName := ⟨RX4, "readNumber", "()I"⟩
abbrev cX4_totalWeight : ByteArray := prog_6_method_9_code
def yX4_totalWeight : MethodName := ⟨RX4, "totalWeight", "()I"⟩
abbrev cX4_readCommand : ByteArray := prog_6_method_10_code
def yX4_readCommand : MethodName := ⟨RX4, "readCommand", "()I"⟩
abbrev cX4_readArgument : ByteArray := prog_6_method_11_code
def yX4_readArgument : MethodName := ⟨RX4, "readArgument", "()I"⟩
abbrev cX4_wordBefore : ByteArray := prog_6_method_12_code
def yX4_wordBefore : MethodName := ⟨RX4, "wordBefore", "(I)I"⟩
abbrev cX4_beginsWith : ByteArray := prog_6_method_13_code
def yX4_beginsWith : MethodName := ⟨RX4, "beginsWith", "(Ljava/lang/String;I)Z"⟩
def RX5 : String := "FloorTops$Window"
def TX5 : u_T := fun k => match k with
  | 0 => ("FloorTops$Window", "blocks", "[LFloorTops$Summary;", true)
  | 1 => ("FloorTops$Window", "present", "I", false)
  | 2 => ("FloorTops$Window", "kept", "I", false)
  | 3 => ("FloorTops$Window", "begun", "I", false)
  | _ => ("FloorTops$Window", "arrivals", "I", false)
def tyX5 : Nat → FieldType := fun k => match k with
  | 0 => .array (.object "FloorTops$Summary")
  | 1 => .int
  | 2 => .int
  | 3 => .int
  | _ => .int
abbrev wsX50 : List Cond := u_ws RX5 TX5 5
theorem nmX5 : ∀ a, a < 5 → ∀ b, b < 5 → a ≠ b → (TX5 a).2.1 ≠ (TX5 b).2.1 := by decide +kernel
theorem tyX5_ok : ∀ k, k < 5 → parseFieldDescriptor (TX5 k).2.2.1 = some (tyX5 k) := by decide +kernel
abbrev cX5_init : ByteArray := prog_7_method_1_code
def yX5_init : MethodName := ⟨RX5, "<init>", "()V"⟩
abbrev cX5_presentBlock : ByteArray := prog_7_method_2_code
def yX5_presentBlock : MethodName := ⟨RX5, "presentBlock", "()LFloorTops$Summary;"⟩
abbrev cX5_blockAt : ByteArray := prog_7_method_3_code
def yX5_blockAt : MethodName := ⟨RX5, "blockAt", "(I)LFloorTops$Summary;"⟩
abbrev cX5_arrivalsOf : ByteArray := prog_7_method_4_code
def yX5_arrivalsOf : MethodName := ⟨RX5, "arrivalsOf", "(I)I"⟩
abbrev cX5_beginBlock : ByteArray := prog_7_method_5_code
def yX5_beginBlock : MethodName := ⟨RX5, "beginBlock", "()V"⟩
abbrev cX5_look : ByteArray := prog_7_method_6_code
def yX5_look : MethodName := ⟨RX5, "look", "(LFloorTops$Summary;I)V"⟩
abbrev cX5_become : ByteArray := prog_7_method_7_code
def yX5_become : MethodName := ⟨RX5, "become", "(LFloorTops$Window;)V"⟩
def RX6 : String := "FloorTops"
def TX6 : u_T := fun k => match k with
  | 0 => ("FloorTops", "now", "LFloorTops$State;", true)
  | 1 => ("FloorTops", "history", "LFloorTops$History;", true)
  | 2 => ("FloorTops", "snapshot", "LFloorTops$State;", true)
  | 3 => ("FloorTops", "snapshotTaken", "Z", false)
  | 4 => ("FloorTops", "text", "LFloorTops$Text;", true)
  | _ => ("FloorTops", "whole", "LFloorTops$Summary;", true)
def tyX6 : Nat → FieldType := fun k => match k with
  | 0 => .object "FloorTops$State"
  | 1 => .object "FloorTops$History"
  | 2 => .object "FloorTops$State"
  | 3 => .boolean
  | 4 => .object "FloorTops$Text"
  | _ => .object "FloorTops$Summary"
abbrev wsX60 : List Cond := u_ws RX6 TX6 6
theorem nmX6 : ∀ a, a < 6 → ∀ b, b < 6 → a ≠ b → (TX6 a).2.1 ≠ (TX6 b).2.1 := by decide +kernel
theorem tyX6_ok : ∀ k, k < 6 → parseFieldDescriptor (TX6 k).2.2.1 = some (tyX6 k) := by decide +kernel
abbrev cX6_init : ByteArray := prog_1_method_1_code
def yX6_init : MethodName := ⟨RX6, "<init>", "()V"⟩
abbrev cX6_arrive : ByteArray := prog_1_method_2_code
def yX6_arrive : MethodName := ⟨RX6, "arrive", "(ICI)I"⟩
abbrev cX6_feed : ByteArray := prog_1_method_3_code
def yX6_feed : MethodName := ⟨RX6, "feed", "(I)I"⟩
abbrev cX6_flow : ByteArray := prog_1_method_4_code
def yX6_flow : MethodName := ⟨RX6, "flow", "(CI)I"⟩
abbrev cX6_flowAll : ByteArray := prog_1_method_5_code
def yX6_flowAll : MethodName := ⟨RX6, "flowAll", "()I"⟩
abbrev cX6_merge : ByteArray := prog_1_method_6_code
def yX6_merge : MethodName := ⟨RX6, "merge", "(II)I"⟩
abbrev cX6_copy : ByteArray := prog_1_method_7_code
def yX6_copy : MethodName := ⟨RX6, "copy", "(II)I"⟩
abbrev cX6_setSize : ByteArray := prog_1_method_8_code
def yX6_setSize : MethodName := ⟨RX6, "setSize", "(II)I"⟩
abbrev cX6_clear : ByteArray := prog_1_method_9_code
def yX6_clear : MethodName := ⟨RX6, "clear", "(I)I"⟩
abbrev cX6_type : ByteArray := prog_1_method_10_code
def yX6_type : MethodName := ⟨RX6, "type", "(C)I"⟩
abbrev cX6_clearText : ByteArray := prog_1_method_11_code
def yX6_clearText : MethodName := ⟨RX6, "clearText", "()I"⟩
abbrev cX6_perform : ByteArray := prog_1_method_12_code
def yX6_perform : MethodName := ⟨RX6, "perform", "()I"⟩
abbrev cX6_undo : ByteArray := prog_1_method_13_code
def yX6_undo : MethodName := ⟨RX6, "undo", "()I"⟩
abbrev cX6_keep : ByteArray := prog_1_method_14_code
def yX6_keep : MethodName := ⟨RX6, "keep", "()I"⟩
abbrev cX6_restore : ByteArray := prog_1_method_15_code
def yX6_restore : MethodName := ⟨RX6, "restore", "()I"⟩
abbrev cX6_summary : ByteArray := prog_1_method_16_code
def yX6_summary : MethodName := ⟨RX6, "summary", "(II)I"⟩
abbrev cX6_bound : ByteArray := prog_1_method_17_code
def yX6_bound : MethodName := ⟨RX6, "bound", "(ICI)I"⟩
abbrev cX6_top : ByteArray := prog_1_method_18_code
def yX6_top : MethodName := ⟨RX6, "top", "(III)I"⟩
abbrev cX6_first : ByteArray := prog_1_method_19_code
def yX6_first : MethodName := ⟨RX6, "first", "(IIZ)I"⟩
abbrev cX6_above : ByteArray := prog_1_method_20_code
def yX6_above : MethodName := ⟨RX6, "above", "(IIZ)I"⟩
abbrev cX6_rank : ByteArray := prog_1_method_21_code
def yX6_rank : MethodName := ⟨RX6, "rank", "(ICZ)I"⟩
abbrev cX6_alike : ByteArray := prog_1_method_22_code
def yX6_alike : MethodName := ⟨RX6, "alike", "(II)I"⟩
abbrev cX6_wouldEvict : ByteArray := prog_1_method_23_code
def yX6_wouldEvict : MethodName := ⟨RX6, "wouldEvict", "(IC)I"⟩
abbrev cX6_block : ByteArray := prog_1_method_24_code
def yX6_block : MethodName := ⟨RX6, "block", "(II)I"⟩
abbrev cX6_event : ByteArray := prog_1_method_25_code
def yX6_event : MethodName := ⟨RX6, "event", "(II)I"⟩
abbrev cX6_count : ByteArray := prog_1_method_26_code
def yX6_count : MethodName := ⟨RX6, "count", "(I)I"⟩
abbrev cX6_isSummary : ByteArray := prog_1_method_27_code
def yX6_isSummary : MethodName := ⟨RX6, "isSummary", "(I)Z"⟩
abbrev cX6_isWeight : ByteArray := prog_1_method_28_code
def yX6_isWeight : MethodName := ⟨RX6, "isWeight", "(I)Z"⟩
abbrev cX6_letterIndex : ByteArray := prog_1_method_29_code
def yX6_letterIndex : MethodName := ⟨RX6, "letterIndex", "(C)I"⟩
abbrev cX6_codeOf : ByteArray := prog_1_method_30_code
def yX6_codeOf : MethodName := ⟨RX6, "codeOf", "(I)I"⟩
abbrev cX6_told : ByteArray := prog_1_method_31_code
def yX6_told : MethodName := ⟨RX6, "told", "(I)LFloorTops$Summary;"⟩
def RX7 : String := "FloorTopsModel"
def TX7 : u_T := fun k => match k with
  | 0 => ("FloorTopsModel", "now", "[I", true)
  | 1 => ("FloorTopsModel", "history", "[I", true)
  | 2 => ("FloorTopsModel", "kept", "I", false)
  | 3 => ("FloorTopsModel", "slot", "[I", true)
  | 4 => ("FloorTopsModel", "isFilled", "Z", false)
  | 5 => ("FloorTopsModel", "typed", "I", false)
  | 6 => ("FloorTopsModel", "text", "[C", true)
  | 7 => ("FloorTopsModel", "at", "I", false)
  | 8 => ("FloorTopsModel", "letter", "I", false)
  | 9 => ("FloorTopsModel", "number", "I", false)
  | _ => ("FloorTopsModel", "weights", "I", false)
def tyX7 : Nat → FieldType := fun k => match k with
  | 0 => .array .int
  | 1 => .array .int
  | 2 => .int
  | 3 => .array .int
  | 4 => .boolean
  | 5 => .int
  | 6 => .array .char
  | 7 => .int
  | 8 => .int
  | 9 => .int
  | _ => .int
abbrev wsX70 : List Cond := u_ws RX7 TX7 11
theorem nmX7 : ∀ a, a < 11 → ∀ b, b < 11 → a ≠ b → (TX7 a).2.1 ≠ (TX7 b).2.1 := by decide +kernel
theorem tyX7_ok : ∀ k, k < 11 → parseFieldDescriptor (TX7 k).2.2.1 = some (tyX7 k) := by decide +kernel
abbrev cX7_init : ByteArray := prog_9_method_1_code
def yX7_init : MethodName := ⟨RX7, "<init>", "()V"⟩
abbrev cX7_in : ByteArray := prog_9_method_2_code
def yX7_in : MethodName := ⟨RX7, "in", "(III)Z"⟩
abbrev cX7_base : ByteArray := prog_9_method_3_code
def yX7_base : MethodName := ⟨RX7, "base", "(I)I"⟩
abbrev cX7_of : ByteArray := prog_9_method_4_code
def yX7_of : MethodName := ⟨RX7, "of", "(II)I"⟩
abbrev cX7_puts : ByteArray := prog_9_method_5_code
def yX7_puts : MethodName := ⟨RX7, "puts", "(III)V"⟩
abbrev cX7_its : ByteArray := prog_9_method_6_code
def yX7_its : MethodName := ⟨RX7, "its", "(III)I"⟩
abbrev cX7_gives : ByteArray := prog_9_method_7_code
def yX7_gives : MethodName := ⟨RX7, "gives", "(IIII)V"⟩
abbrev cX7_has : ByteArray := prog_9_method_8_code
def yX7_has : MethodName := ⟨RX7, "has", "(II)Z"⟩
abbrev cX7_isSummary : ByteArray := prog_9_method_9_code
def yX7_isSummary : MethodName := ⟨RX7, "isSummary", "(I)Z"⟩
abbrev cX7_isLetter : ByteArray := prog_9_method_10_code
def yX7_isLetter : MethodName := ⟨RX7, "isLetter", "(C)Z"⟩
abbrev cX7_counters : ByteArray := prog_9_method_11_code
def yX7_counters : MethodName := ⟨RX7, "counters", "(I)I"⟩
abbrev cX7_record : ByteArray := prog_9_method_12_code
def yX7_record : MethodName := ⟨RX7, "record", "()V"⟩
abbrev cX7_tells : ByteArray := prog_9_method_13_code
def yX7_tells : MethodName := ⟨RX7, "tells", "(III)V"⟩
abbrev cX7_least : ByteArray := prog_9_method_14_code
def yX7_least : MethodName := ⟨RX7, "least", "(I)I"⟩
abbrev cX7_drops : ByteArray := prog_9_method_15_code
def yX7_drops : MethodName := ⟨RX7, "drops", "(II)V"⟩
abbrev cX7_evicts : ByteArray := prog_9_method_16_code
def yX7_evicts : MethodName := ⟨RX7, "evicts", "(I)V"⟩
abbrev cX7_comes : ByteArray := prog_9_method_17_code
def yX7_comes : MethodName := ⟨RX7, "comes", "(III)V"⟩
abbrev cX7_empties : ByteArray := prog_9_method_18_code
def yX7_empties : MethodName := ⟨RX7, "empties", "(I)V"⟩
abbrev cX7_copies : ByteArray := prog_9_method_19_code
def yX7_copies : MethodName := ⟨RX7, "copies", "(II)V"⟩
abbrev cX7_joins : ByteArray := prog_9_method_20_code
def yX7_joins : MethodName := ⟨RX7, "joins", "(II)I"⟩
abbrev cX7_arrive : ByteArray := prog_9_method_21_code
def yX7_arrive : MethodName := ⟨RX7, "arrive", "(ICI)I"⟩
abbrev cX7_present : ByteArray := prog_9_method_22_code
def yX7_present : MethodName := ⟨RX7, "present", "()I"⟩
abbrev cX7_flows : ByteArray := prog_9_method_23_code
def yX7_flows : MethodName := ⟨RX7, "flows", "(II)V"⟩
abbrev cX7_flow : ByteArray := prog_9_method_24_code
def yX7_flow : MethodName := ⟨RX7, "flow", "(CI)I"⟩
abbrev cX7_merge : ByteArray := prog_9_method_25_code
def yX7_merge : MethodName := ⟨RX7, "merge", "(II)I"⟩
abbrev cX7_copy : ByteArray := prog_9_method_26_code
def yX7_copy : MethodName := ⟨RX7, "copy", "(II)I"⟩
abbrev cX7_setSize : ByteArray := prog_9_method_27_code
def yX7_setSize : MethodName := ⟨RX7, "setSize", "(II)I"⟩
abbrev cX7_clear : ByteArray := prog_9_method_28_code
def yX7_clear : MethodName := ⟨RX7, "clear", "(I)I"⟩
abbrev cX7_type : ByteArray := prog_9_method_29_code
def yX7_type : MethodName := ⟨RX7, "type", "(C)I"⟩
abbrev cX7_clearText : ByteArray := prog_9_method_30_code
def yX7_clearText : MethodName := ⟨RX7, "clearText", "()I"⟩
abbrev cX7_isBetween : ByteArray := prog_9_method_31_code
def yX7_isBetween : MethodName := ⟨RX7, "isBetween", "(II)Z"⟩
abbrev cX7_takes : ByteArray := prog_9_method_32_code
def yX7_takes : MethodName := ⟨RX7, "takes", "(I)Z"⟩
abbrev cX7_takesArrival : ByteArray := prog_9_method_33_code
def yX7_takesArrival : MethodName := ⟨RX7, "takesArrival", "()Z"⟩
abbrev cX7_arrivals : ByteArray := prog_9_method_34_code
def yX7_arrivals : MethodName := ⟨RX7, "arrivals", "()I"⟩
abbrev cX7_feed : ByteArray := prog_9_method_35_code
def yX7_feed : MethodName := ⟨RX7, "feed", "(I)I"⟩
abbrev cX7_flowAll : ByteArray := prog_9_method_36_code
def yX7_flowAll : MethodName := ⟨RX7, "flowAll", "()I"⟩
abbrev cX7_isWord : ByteArray := prog_9_method_37_code
def yX7_isWord : MethodName := ⟨RX7, "isWord", "(CCCCI)Z"⟩
abbrev cX7_word : ByteArray := prog_9_method_38_code
def yX7_word : MethodName := ⟨RX7, "word", "()I"⟩
abbrev cX7_takesNumber : ByteArray := prog_9_method_39_code
def yX7_takesNumber : MethodName := ⟨RX7, "takesNumber", "()Z"⟩
abbrev cX7_perform : ByteArray := prog_9_method_40_code
def yX7_perform : MethodName := ⟨RX7, "perform", "()I"⟩
abbrev cX7_undo : ByteArray := prog_9_method_41_code
def yX7_undo : MethodName := ⟨RX7, "undo", "()I"⟩
abbrev cX7_keep : ByteArray := prog_9_method_42_code
def yX7_keep : MethodName := ⟨RX7, "keep", "()I"⟩
abbrev cX7_restore : ByteArray := prog_9_method_43_code
def yX7_restore : MethodName := ⟨RX7, "restore", "()I"⟩
abbrev cX7_looks : ByteArray := prog_9_method_44_code
def yX7_looks : MethodName := ⟨RX7, "looks", "(I)I"⟩
abbrev cX7_greatestSlack : ByteArray := prog_9_method_45_code
def yX7_greatestSlack : MethodName := ⟨RX7, "greatestSlack", "(I)I"⟩
abbrev cX7_letters : ByteArray := prog_9_method_46_code
def yX7_letters : MethodName := ⟨RX7, "letters", "(II)I"⟩
abbrev cX7_summary : ByteArray := prog_9_method_47_code
def yX7_summary : MethodName := ⟨RX7, "summary", "(II)I"⟩
abbrev cX7_upper : ByteArray := prog_9_method_48_code
def yX7_upper : MethodName := ⟨RX7, "upper", "(II)I"⟩
abbrev cX7_lower : ByteArray := prog_9_method_49_code
def yX7_lower : MethodName := ⟨RX7, "lower", "(II)I"⟩
abbrev cX7_bound : ByteArray := prog_9_method_50_code
def yX7_bound : MethodName := ⟨RX7, "bound", "(ICI)I"⟩
abbrev cX7_top : ByteArray := prog_9_method_51_code
def yX7_top : MethodName := ⟨RX7, "top", "(III)I"⟩
abbrev cX7_ahead : ByteArray := prog_9_method_52_code
def yX7_ahead : MethodName := ⟨RX7, "ahead", "(IIZ)I"⟩
abbrev cX7_first : ByteArray := prog_9_method_53_code
def yX7_first : MethodName := ⟨RX7, "first", "(IIZ)I"⟩
abbrev cX7_above : ByteArray := prog_9_method_54_code
def yX7_above : MethodName := ⟨RX7, "above", "(IIZ)I"⟩
abbrev cX7_rank : ByteArray := prog_9_method_55_code
def yX7_rank : MethodName := ⟨RX7, "rank", "(ICZ)I"⟩
abbrev cX7_alike : ByteArray := prog_9_method_56_code
def yX7_alike : MethodName := ⟨RX7, "alike", "(II)I"⟩
abbrev cX7_wouldEvict : ByteArray := prog_9_method_57_code
def yX7_wouldEvict : MethodName := ⟨RX7, "wouldEvict", "(IC)I"⟩
abbrev cX7_block : ByteArray := prog_9_method_58_code
def yX7_block : MethodName := ⟨RX7, "block", "(II)I"⟩
abbrev cX7_event : ByteArray := prog_9_method_59_code
def yX7_event : MethodName := ⟨RX7, "event", "(II)I"⟩
abbrev cX7_count : ByteArray := prog_9_method_60_code
def yX7_count : MethodName := ⟨RX7, "count", "(I)I"⟩
def RJ6 : String := "java/lang/Integer"
def TJ6 : u_T := fun k => match k with
  | _ => ("", "", "", false)
def tyJ6 : Nat → FieldType := fun k => match k with
  | _ => .int
abbrev wsJ60 : List Cond := u_ws RJ6 TJ6 0
theorem nmJ6 : ∀ a, a < 0 → ∀ b, b < 0 → a ≠ b → (TJ6 a).2.1 ≠ (TJ6 b).2.1 := by decide +kernel
theorem tyJ6_ok : ∀ k, k < 0 → parseFieldDescriptor (TJ6 k).2.2.1 = some (tyJ6 k) := by decide +kernel
abbrev cJ6_bitCount_0f7a4 : ByteArray := prog_10_method_49_code
def yJ6_bitCount_0f7a4 : MethodName := ⟨RJ6, "bitCount", "(I)I"⟩
def RJ9 : String := "java/lang/Math"
def TJ9 : u_T := fun k => match k with
  | _ => ("", "", "", false)
def tyJ9 : Nat → FieldType := fun k => match k with
  | _ => .int
abbrev wsJ90 : List Cond := u_ws RJ9 TJ9 0
theorem nmJ9 : ∀ a, a < 0 → ∀ b, b < 0 → a ≠ b → (TJ9 a).2.1 ≠ (TJ9 b).2.1 := by decide +kernel
theorem tyJ9_ok : ∀ k, k < 0 → parseFieldDescriptor (TJ9 k).2.2.1 = some (tyJ9 k) := by decide +kernel
abbrev cJ9_max_7cf53 : ByteArray := prog_11_method_65_code
def yJ9_max_7cf53 : MethodName := ⟨RJ9, "max", "(II)I"⟩
abbrev cJ9_min_7cf53 : ByteArray := prog_11_method_69_code
def yJ9_min_7cf53 : MethodName := ⟨RJ9, "min", "(II)I"⟩
def RJ0 : String := "java/lang/String"
def TJ0 : u_T := fun k => match k with
  | _ => ("", "", "", false)
def tyJ0 : Nat → FieldType := fun k => match k with
  | _ => .int
abbrev wsJ00 : List Cond := u_ws RJ0 TJ0 0
theorem nmJ0 : ∀ a, a < 0 → ∀ b, b < 0 → a ≠ b → (TJ0 a).2.1 ≠ (TJ0 b).2.1 := by decide +kernel
theorem tyJ0_ok : ∀ k, k < 0 → parseFieldDescriptor (TJ0 k).2.2.1 = some (tyJ0 k) := by decide +kernel
abbrev cJ0_length_8abf5 : ByteArray := prog_12_method_54_code
def yJ0_length_8abf5 : MethodName := ⟨RJ0, "length", "()I"⟩
abbrev cJ0_charAt_5068e : ByteArray := prog_12_method_56_code
def yJ0_charAt_5068e : MethodName := ⟨RJ0, "charAt", "(I)C"⟩
abbrev cJ0_coder_7d493 : ByteArray := prog_12_method_152_code
def yJ0_coder_7d493 : MethodName := ⟨RJ0, "coder", "()B"⟩
abbrev cJ0_isLatin1_aae02 : ByteArray := prog_12_method_154_code
def yJ0_isLatin1_aae02 : MethodName := ⟨RJ0, "isLatin1", "()Z"⟩
abbrev cJ0_checkIndex_df160 : ByteArray := prog_12_method_155_code
def yJ0_checkIndex_df160 : MethodName := ⟨RJ0, "checkIndex", "(II)V"⟩
def RJ1 : String := "java/lang/StringLatin1"
def TJ1 : u_T := fun k => match k with
  | _ => ("", "", "", false)
def tyJ1 : Nat → FieldType := fun k => match k with
  | _ => .int
abbrev wsJ10 : List Cond := u_ws RJ1 TJ1 0
theorem nmJ1 : ∀ a, a < 0 → ∀ b, b < 0 → a ≠ b → (TJ1 a).2.1 ≠ (TJ1 b).2.1 := by decide +kernel
theorem tyJ1_ok : ∀ k, k < 0 → parseFieldDescriptor (TJ1 k).2.2.1 = some (tyJ1 k) := by decide +kernel
abbrev cJ1_charAt_3b067 : ByteArray := prog_13_method_2_code
def yJ1_charAt_3b067 : MethodName := ⟨RJ1, "charAt", "([BI)C"⟩
def RJ2 : String := "java/lang/StringUTF16"
def TJ2 : u_T := fun k => match k with
  | _ => ("", "", "", false)
def tyJ2 : Nat → FieldType := fun k => match k with
  | _ => .int
abbrev wsJ20 : List Cond := u_ws RJ2 TJ2 0
theorem nmJ2 : ∀ a, a < 0 → ∀ b, b < 0 → a ≠ b → (TJ2 a).2.1 ≠ (TJ2 b).2.1 := by decide +kernel
theorem tyJ2_ok : ∀ k, k < 0 → parseFieldDescriptor (TJ2 k).2.2.1 = some (tyJ2 k) := by decide +kernel
abbrev cJ2_getChar_3b067 : ByteArray := prog_14_method_5_code
def yJ2_getChar_3b067 : MethodName := ⟨RJ2, "getChar", "([BI)C"⟩
abbrev cJ2_length_9d52b : ByteArray := prog_14_method_6_code
def yJ2_length_9d52b : MethodName := ⟨RJ2, "length", "([B)I"⟩
abbrev cJ2_charAt_3b067 : ByteArray := prog_14_method_83_code
def yJ2_charAt_3b067 : MethodName := ⟨RJ2, "charAt", "([BI)C"⟩
abbrev cJ2_checkIndex_2214a : ByteArray := prog_14_method_91_code
def yJ2_checkIndex_2214a : MethodName := ⟨RJ2, "checkIndex", "(I[B)V"⟩
def RJ10 : String := "java/lang/System"
def TJ10 : u_T := fun k => match k with
  | _ => ("", "", "", false)
def tyJ10 : Nat → FieldType := fun k => match k with
  | _ => .int
abbrev wsJ100 : List Cond := u_ws RJ10 TJ10 0
theorem nmJ10 : ∀ a, a < 0 → ∀ b, b < 0 → a ≠ b → (TJ10 a).2.1 ≠ (TJ10 b).2.1 := by decide +kernel
theorem tyJ10_ok : ∀ k, k < 0 → parseFieldDescriptor (TJ10 k).2.2.1 = some (tyJ10 k) := by decide +kernel
def RJ3 : String := "jdk/internal/util/Preconditions"
def TJ3 : u_T := fun k => match k with
  | _ => ("", "", "", false)
def tyJ3 : Nat → FieldType := fun k => match k with
  | _ => .int
abbrev wsJ30 : List Cond := u_ws RJ3 TJ3 0
theorem nmJ3 : ∀ a, a < 0 → ∀ b, b < 0 → a ≠ b → (TJ3 a).2.1 ≠ (TJ3 b).2.1 := by decide +kernel
theorem tyJ3_ok : ∀ k, k < 0 → parseFieldDescriptor (TJ3 k).2.2.1 = some (tyJ3 k) := by decide +kernel
abbrev cJ3_checkIndex_8e157 : ByteArray := prog_16_method_11_code
def yJ3_checkIndex_8e157 : MethodName := ⟨RJ3, "checkIndex", "(IILjava/util/function/BiFunction;)I"⟩
def RL : String := "FloorTopsLaw"
abbrev cL_law : ByteArray := code
def yL_law : MethodName := ⟨RL, "law", "([I)Z"⟩
def wsL_law_r1 : List Cond := [Cond.classLink RL 7 RX6, Cond.instantiable RX6 6, Cond.initialized RX6, Cond.classLink RL 10 RX7, Cond.instantiable RX7 11, Cond.initialized RX7, Cond.methodLink RL 9 yX6_init, Cond.instanceMethod yX6_init, Cond.code yX6_init cX6_init 1 none, Cond.methodLink RX6 1 objectInit, Cond.instanceMethod objectInit, Cond.code objectInit ⟨#[0xb1]⟩ 1 none, Cond.classLink RX6 7 RX2, Cond.instantiable RX2 6, Cond.initialized RX2, Cond.fieldLink RX6 10 "FloorTops" "now" "LFloorTops$State;", Cond.classLink RX6 16 RX0, Cond.instantiable RX0 3, Cond.initialized RX0, Cond.fieldLink RX6 19 "FloorTops" "history" "LFloorTops$History;", Cond.fieldLink RX6 23 "FloorTops" "snapshot" "LFloorTops$State;", Cond.fieldLink RX6 26 "FloorTops" "snapshotTaken" "Z", Cond.classLink RX6 30 RX4, Cond.instantiable RX4 9]
def wsL_law_r2 : List Cond := [Cond.initialized RX4, Cond.fieldLink RX6 33 "FloorTops" "text" "LFloorTops$Text;", Cond.classLink RX6 37 RX3, Cond.instantiable RX3 8, Cond.initialized RX3, Cond.fieldLink RX6 40 "FloorTops" "whole" "LFloorTops$Summary;", Cond.methodLink RX6 9 yX2_init, Cond.instanceMethod yX2_init, Cond.code yX2_init cX2_init 2 none, Cond.methodLink RX2 3 objectInit, Cond.classLink RX2 9 RX3, Cond.fieldLink RX2 11 "FloorTops$State" "summaries" "[LFloorTops$Summary;", Cond.classLink RX2 17 RX5, Cond.instantiable RX5 5, Cond.initialized RX5, Cond.fieldLink RX2 20 "FloorTops$State" "window" "LFloorTops$Window;", Cond.classLink RX2 24 RX1, Cond.instantiable RX1 6, Cond.initialized RX1, Cond.fieldLink RX2 27 "FloorTops$State" "log" "LFloorTops$Log;", Cond.fieldLink RX2 31 "FloorTops$State" "time" "I", Cond.fieldLink RX2 35 "FloorTops$State" "evictions" "I", Cond.fieldLink RX2 38 "FloorTops$State" "merges" "I", Cond.methodLink RX2 19 yX5_init]
def wsL_law_r3 : List Cond := [Cond.instanceMethod yX5_init, Cond.code yX5_init cX5_init 2 none, Cond.methodLink RX5 3 objectInit, Cond.classLink RX5 9 RX3, Cond.fieldLink RX5 11 "FloorTops$Window" "blocks" "[LFloorTops$Summary;", Cond.fieldLink RX5 17 "FloorTops$Window" "present" "I", Cond.fieldLink RX5 21 "FloorTops$Window" "kept" "I", Cond.fieldLink RX5 24 "FloorTops$Window" "begun" "I", Cond.fieldLink RX5 27 "FloorTops$Window" "arrivals" "I", Cond.instanceMethod yX3_init, Cond.code yX3_init cX3_init 1 none, Cond.methodLink RX3 3 objectInit, Cond.fieldLink RX3 9 "FloorTops$Summary" "size" "I", Cond.fieldLink RX3 15 "FloorTops$Summary" "floor" "I", Cond.fieldLink RX3 18 "FloorTops$Summary" "sum" "I", Cond.fieldLink RX3 21 "FloorTops$Summary" "held" "I", Cond.arrayClass .int, Cond.fieldLink RX3 24 "FloorTops$Summary" "counts" "[I", Cond.fieldLink RX3 28 "FloorTops$Summary" "slacks" "[I", Cond.fieldLink RX3 31 "FloorTops$Summary" "times" "[I", Cond.fieldLink RX3 34 "FloorTops$Summary" "came" "[I", Cond.instanceMethod yX1_init, Cond.code yX1_init cX1_init 1 none, Cond.methodLink RX1 3 objectInit]
def wsL_law_r4 : List Cond := [Cond.fieldLink RX1 9 "FloorTops$Log" "kinds" "[I", Cond.fieldLink RX1 15 "FloorTops$Log" "places" "[I", Cond.fieldLink RX1 18 "FloorTops$Log" "values" "[I", Cond.fieldLink RX1 21 "FloorTops$Log" "times" "[I", Cond.fieldLink RX1 24 "FloorTops$Log" "next" "I", Cond.fieldLink RX1 28 "FloorTops$Log" "known" "I", Cond.methodLink RX6 18 yX0_init, Cond.instanceMethod yX0_init, Cond.code yX0_init cX0_init 2 none, Cond.methodLink RX0 3 objectInit, Cond.classLink RX0 9 RX2, Cond.fieldLink RX0 11 "FloorTops$History" "states" "[LFloorTops$State;", Cond.fieldLink RX0 17 "FloorTops$History" "next" "I", Cond.fieldLink RX0 21 "FloorTops$History" "known" "I", Cond.methodLink RX0 24 yX2_init, Cond.instanceMethod yX4_init, Cond.code yX4_init cX4_init 1 none, Cond.methodLink RX4 3 objectInit, Cond.arrayClass .char, Cond.fieldLink RX4 9 "FloorTops$Text" "signs" "[C", Cond.fieldLink RX4 15 "FloorTops$Text" "length" "I", Cond.fieldLink RX4 19 "FloorTops$Text" "letters" "[I", Cond.fieldLink RX4 23 "FloorTops$Text" "weights" "[I", Cond.fieldLink RX4 26 "FloorTops$Text" "arrivals" "I"]
def wsL_law_r5 : List Cond := [Cond.fieldLink RX4 29 "FloorTops$Text" "word" "I", Cond.fieldLink RX4 32 "FloorTops$Text" "firstNumber" "I", Cond.fieldLink RX4 35 "FloorTops$Text" "secondNumber" "I", Cond.fieldLink RX4 38 "FloorTops$Text" "at" "I", Cond.methodLink RL 12 yX7_init, Cond.instanceMethod yX7_init, Cond.code yX7_init cX7_init 2 none, Cond.methodLink RX7 1 objectInit, Cond.fieldLink RX7 7 "FloorTopsModel" "now" "[I", Cond.fieldLink RX7 13 "FloorTopsModel" "history" "[I", Cond.fieldLink RX7 16 "FloorTopsModel" "slot" "[I", Cond.fieldLink RX7 19 "FloorTopsModel" "text" "[C", Cond.methodLink RX7 23 yX7_puts, Cond.instanceMethod yX7_puts, Cond.selects RX7 yX7_puts yX7_puts, Cond.code yX7_puts cX7_puts 4 none, Cond.methodLink RX7 27 yX7_base, Cond.static yX7_base, Cond.code yX7_base cX7_base 1 (some .int), Cond.methodLink RL 13 yX6_arrive, Cond.instanceMethod yX6_arrive, Cond.selects RX6 yX6_arrive yX6_arrive, Cond.code yX6_arrive cX6_arrive 6 (some .int), Cond.fieldLink RX6 55 "FloorTops$State" "summaries" "[LFloorTops$Summary;"]
def wsL_law_r6 : List Cond := [Cond.fieldLink RX6 59 "FloorTops$Summary" "sum" "I", Cond.constant RX6 63 (1000000), Cond.methodLink RX6 44 yX6_letterIndex, Cond.static yX6_letterIndex, Cond.code yX6_letterIndex cX6_letterIndex 1 (some .int), Cond.methodLink RX6 48 yX6_isSummary, Cond.static yX6_isSummary, Cond.code yX6_isSummary cX6_isSummary 1 (some .boolean), Cond.methodLink RX6 52 yX6_isWeight, Cond.static yX6_isWeight, Cond.code yX6_isWeight cX6_isWeight 1 (some .boolean), Cond.methodLink RX6 64 yX0_remember, Cond.instanceMethod yX0_remember, Cond.selects RX0 yX0_remember yX0_remember, Cond.code yX0_remember cX0_remember 2 none, Cond.methodLink RX0 29 Lib.Math.min.name, Cond.static Lib.Math.min.name, Cond.initialized "java/lang/Math", Cond.code Lib.Math.min.name Lib.Math.min.code 2 (some .int), Cond.methodLink RX0 25 yX2_become, Cond.instanceMethod yX2_become, Cond.selects RX2 yX2_become yX2_become, Cond.code yX2_become cX2_become 3 none, Cond.methodLink RX2 92 yX3_become]
def wsL_law_r7 : List Cond := [Cond.instanceMethod yX3_become, Cond.selects RX3 yX3_become yX3_become, Cond.code yX3_become cX3_become 2 none, Cond.methodLink RX3 86 arraycopyName, Cond.native arraycopyName, Cond.static arraycopyName, Cond.initialized "java/lang/System", Cond.methodLink RX2 96 yX5_become, Cond.instanceMethod yX5_become, Cond.selects RX5 yX5_become yX5_become, Cond.code yX5_become cX5_become 3 none, Cond.methodLink RX5 48 yX3_become, Cond.methodLink RX2 99 yX1_become, Cond.instanceMethod yX1_become, Cond.selects RX1 yX1_become yX1_become, Cond.code yX1_become cX1_become 2 none, Cond.methodLink RX1 37 arraycopyName, Cond.methodLink RX6 68 yX2_bring, Cond.instanceMethod yX2_bring, Cond.selects RX2 yX2_bring yX2_bring, Cond.code yX2_bring cX2_bring 5 none, Cond.methodLink RX2 42 yX3_receive, Cond.instanceMethod yX3_receive, Cond.selects RX3 yX3_receive yX3_receive]
def wsL_law_r8 : List Cond := [Cond.code yX3_receive cX3_receive 5 (some .int), Cond.methodLink RX3 43 yX3_has, Cond.instanceMethod yX3_has, Cond.selects RX3 yX3_has yX3_has, Cond.code yX3_has cX3_has 2 (some .boolean), Cond.methodLink RX3 51 yX3_needsRoomFor, Cond.instanceMethod yX3_needsRoomFor, Cond.selects RX3 yX3_needsRoomFor yX3_needsRoomFor, Cond.code yX3_needsRoomFor cX3_needsRoomFor 2 (some .boolean), Cond.methodLink RX3 47 yX3_counters, Cond.instanceMethod yX3_counters, Cond.selects RX3 yX3_counters yX3_counters, Cond.code yX3_counters cX3_counters 1 (some .int), Cond.methodLink RX3 37 yJ6_bitCount_0f7a4, Cond.static yJ6_bitCount_0f7a4, Cond.initialized RJ6, Cond.code yJ6_bitCount_0f7a4 cJ6_bitCount_0f7a4 1 (some .int), Cond.constant RJ6 265 (1431655765), Cond.constant RJ6 266 (858993459), Cond.constant RJ6 267 (252645135), Cond.methodLink RX3 54 yX3_evictNext, Cond.instanceMethod yX3_evictNext, Cond.selects RX3 yX3_evictNext yX3_evictNext, Cond.code yX3_evictNext cX3_evictNext 2 (some .int)]
def wsL_law_r9 : List Cond := [Cond.methodLink RX3 61 yX3_nextEvicted, Cond.instanceMethod yX3_nextEvicted, Cond.selects RX3 yX3_nextEvicted yX3_nextEvicted, Cond.code yX3_nextEvicted cX3_nextEvicted 3 (some .int), Cond.methodLink RX3 57 yX3_goesBefore, Cond.instanceMethod yX3_goesBefore, Cond.selects RX3 yX3_goesBefore yX3_goesBefore, Cond.code yX3_goesBefore cX3_goesBefore 3 (some .boolean), Cond.methodLink RX3 64 yX3_takeCounter, Cond.instanceMethod yX3_takeCounter, Cond.selects RX3 yX3_takeCounter yX3_takeCounter, Cond.code yX3_takeCounter cX3_takeCounter 2 none, Cond.methodLink RX3 68 Lib.Math.max.name, Cond.static Lib.Math.max.name, Cond.code Lib.Math.max.name Lib.Math.max.code 2 (some .int), Cond.methodLink RX2 46 yX2_noteEviction, Cond.instanceMethod yX2_noteEviction, Cond.selects RX2 yX2_noteEviction yX2_noteEviction, Cond.code yX2_noteEviction cX2_noteEviction 3 none, Cond.static yX6_codeOf, Cond.code yX6_codeOf cX6_codeOf 1 (some .int), Cond.methodLink RX2 59 yX1_note, Cond.instanceMethod yX1_note, Cond.selects RX1 yX1_note yX1_note]
def wsL_law_r10 : List Cond := [Cond.code yX1_note cX1_note 6 none, Cond.methodLink RX1 31 Lib.Math.min.name, Cond.methodLink RX6 72 yX3_upper, Cond.instanceMethod yX3_upper, Cond.selects RX3 yX3_upper yX3_upper, Cond.code yX3_upper cX3_upper 2 (some .int), Cond.methodLink RL 17 yX7_arrive, Cond.instanceMethod yX7_arrive, Cond.selects RX7 yX7_arrive yX7_arrive, Cond.code yX7_arrive cX7_arrive 4 (some .int), Cond.constant RX7 80 (1000000), Cond.methodLink RX7 72 yX7_isSummary, Cond.static yX7_isSummary, Cond.code yX7_isSummary cX7_isSummary 1 (some .boolean), Cond.methodLink RX7 35 yX7_in, Cond.static yX7_in, Cond.code yX7_in cX7_in 3 (some .boolean), Cond.methodLink RX7 76 yX7_isLetter, Cond.static yX7_isLetter, Cond.code yX7_isLetter cX7_isLetter 1 (some .boolean), Cond.methodLink RX7 47 yX7_of, Cond.instanceMethod yX7_of, Cond.selects RX7 yX7_of yX7_of, Cond.code yX7_of cX7_of 3 (some .int)]
def wsL_law_r11 : List Cond := [Cond.methodLink RX7 81 yX7_record, Cond.instanceMethod yX7_record, Cond.selects RX7 yX7_record yX7_record, Cond.code yX7_record cX7_record 2 none, Cond.fieldLink RX7 39 "FloorTopsModel" "kept" "I", Cond.methodLink RX7 84 yX7_comes, Cond.instanceMethod yX7_comes, Cond.selects RX7 yX7_comes yX7_comes, Cond.code yX7_comes cX7_comes 4 none, Cond.methodLink RX7 31 yX7_its, Cond.instanceMethod yX7_its, Cond.selects RX7 yX7_its yX7_its, Cond.code yX7_its cX7_its 4 (some .int), Cond.methodLink RX7 51 yX7_gives, Cond.instanceMethod yX7_gives, Cond.selects RX7 yX7_gives yX7_gives, Cond.code yX7_gives cX7_gives 5 none, Cond.methodLink RX7 43 yX7_has, Cond.instanceMethod yX7_has, Cond.selects RX7 yX7_has yX7_has, Cond.code yX7_has cX7_has 3 (some .boolean), Cond.methodLink RX7 65 yX7_counters, Cond.instanceMethod yX7_counters, Cond.selects RX7 yX7_counters yX7_counters]
def wsL_law_r12 : List Cond := [Cond.code yX7_counters cX7_counters 4 (some .int), Cond.methodLink RX7 68 yX7_evicts, Cond.instanceMethod yX7_evicts, Cond.selects RX7 yX7_evicts yX7_evicts, Cond.code yX7_evicts cX7_evicts 3 none, Cond.methodLink RX7 55 yX7_least, Cond.instanceMethod yX7_least, Cond.selects RX7 yX7_least yX7_least, Cond.code yX7_least cX7_least 5 (some .int), Cond.methodLink RX7 58 yX7_drops, Cond.instanceMethod yX7_drops, Cond.selects RX7 yX7_drops yX7_drops, Cond.code yX7_drops cX7_drops 4 none, Cond.methodLink RX7 62 yX7_tells, Cond.instanceMethod yX7_tells, Cond.selects RX7 yX7_tells yX7_tells, Cond.code yX7_tells cX7_tells 5 none, Cond.methodLink RL 18 yX6_feed, Cond.instanceMethod yX6_feed, Cond.selects RX6 yX6_feed yX6_feed, Cond.code yX6_feed cX6_feed 5 (some .int), Cond.fieldLink RX6 83 "FloorTops$Text" "arrivals" "I", Cond.fieldLink RX6 86 "FloorTops$Text" "letters" "[I", Cond.fieldLink RX6 90 "FloorTops$Text" "weights" "[I"]
def wsL_law_r13 : List Cond := [Cond.methodLink RX6 76 yX4_readArrivals, Cond.instanceMethod yX4_readArrivals, Cond.selects RX4 yX4_readArrivals yX4_readArrivals, Cond.code yX4_readArrivals cX4_readArrivals 4 (some .int), Cond.methodLink RX4 41 yX4_sign, Cond.instanceMethod yX4_sign, Cond.selects RX4 yX4_sign yX4_sign, Cond.code yX4_sign cX4_sign 1 (some .char), Cond.methodLink RX4 49 yX4_readWeight, Cond.instanceMethod yX4_readWeight, Cond.selects RX4 yX4_readWeight yX4_readWeight, Cond.code yX4_readWeight cX4_readWeight 1 (some .int), Cond.methodLink RX4 53 yX4_isDigit, Cond.instanceMethod yX4_isDigit, Cond.selects RX4 yX4_isDigit yX4_isDigit, Cond.code yX4_isDigit cX4_isDigit 1 (some .boolean), Cond.methodLink RX4 57 yX4_readNumber, Cond.instanceMethod yX4_readNumber, Cond.selects RX4 yX4_readNumber yX4_readNumber, Cond.code yX4_readNumber cX4_readNumber 2 (some .int), Cond.methodLink RX4 60 yX4_takeDigit, Cond.instanceMethod yX4_takeDigit, Cond.selects RX4 yX4_takeDigit yX4_takeDigit, Cond.code yX4_takeDigit cX4_takeDigit 2 (some .int)]
def wsL_law_r14 : List Cond := [Cond.methodLink RX6 80 yX4_totalWeight, Cond.instanceMethod yX4_totalWeight, Cond.selects RX4 yX4_totalWeight yX4_totalWeight, Cond.code yX4_totalWeight cX4_totalWeight 3 (some .int), Cond.methodLink RL 22 yX7_feed, Cond.instanceMethod yX7_feed, Cond.selects RX7 yX7_feed yX7_feed, Cond.code yX7_feed cX7_feed 4 (some .int), Cond.fieldLink RX7 106 "FloorTopsModel" "at" "I", Cond.fieldLink RX7 118 "FloorTopsModel" "weights" "I", Cond.fieldLink RX7 112 "FloorTopsModel" "letter" "I", Cond.fieldLink RX7 115 "FloorTopsModel" "number" "I", Cond.methodLink RX7 128 yX7_arrivals, Cond.instanceMethod yX7_arrivals, Cond.selects RX7 yX7_arrivals yX7_arrivals, Cond.code yX7_arrivals cX7_arrivals 3 (some .int), Cond.fieldLink RX7 103 "FloorTopsModel" "typed" "I", Cond.methodLink RX7 121 yX7_takesArrival, Cond.instanceMethod yX7_takesArrival, Cond.selects RX7 yX7_takesArrival yX7_takesArrival, Cond.code yX7_takesArrival cX7_takesArrival 1 (some .boolean), Cond.methodLink RX7 109 yX7_isBetween, Cond.instanceMethod yX7_isBetween, Cond.selects RX7 yX7_isBetween yX7_isBetween]
def wsL_law_r15 : List Cond := [Cond.code yX7_isBetween cX7_isBetween 3 (some .boolean), Cond.methodLink RX7 125 yX7_takes, Cond.instanceMethod yX7_takes, Cond.selects RX7 yX7_takes yX7_takes, Cond.code yX7_takes cX7_takes 3 (some .boolean), Cond.methodLink RL 23 yX6_flow, Cond.instanceMethod yX6_flow, Cond.selects RX6 yX6_flow yX6_flow, Cond.code yX6_flow cX6_flow 4 (some .int), Cond.fieldLink RX6 97 "FloorTops$State" "window" "LFloorTops$Window;", Cond.fieldLink RX6 101 "FloorTops$Window" "arrivals" "I", Cond.methodLink RX6 93 yX2_bringToWindow, Cond.instanceMethod yX2_bringToWindow, Cond.selects RX2 yX2_bringToWindow yX2_bringToWindow, Cond.code yX2_bringToWindow cX2_bringToWindow 3 none, Cond.fieldLink RX2 50 "FloorTops$Window" "arrivals" "I", Cond.fieldLink RX2 56 "FloorTops$Window" "begun" "I", Cond.methodLink RX2 53 yX5_beginBlock, Cond.instanceMethod yX5_beginBlock, Cond.selects RX5 yX5_beginBlock yX5_beginBlock, Cond.code yX5_beginBlock cX5_beginBlock 1 none, Cond.methodLink RX5 31 Lib.Math.min.name, Cond.methodLink RX5 37 yX5_presentBlock, Cond.instanceMethod yX5_presentBlock]
def wsL_law_r16 : List Cond := [Cond.selects RX5 yX5_presentBlock yX5_presentBlock, Cond.code yX5_presentBlock cX5_presentBlock 1 (some (.object "FloorTops$Summary")), Cond.methodLink RX5 41 yX3_wipe, Cond.instanceMethod yX3_wipe, Cond.selects RX3 yX3_wipe yX3_wipe, Cond.code yX3_wipe cX3_wipe 2 none, Cond.methodLink RX2 63 yX5_presentBlock, Cond.methodLink RX2 67 yX2_bring, Cond.methodLink RL 27 yX7_flow, Cond.instanceMethod yX7_flow, Cond.selects RX7 yX7_flow yX7_flow, Cond.code yX7_flow cX7_flow 3 (some .int), Cond.methodLink RX7 97 yX7_flows, Cond.instanceMethod yX7_flows, Cond.selects RX7 yX7_flows yX7_flows, Cond.code yX7_flows cX7_flows 4 none, Cond.methodLink RX7 87 yX7_present, Cond.instanceMethod yX7_present, Cond.selects RX7 yX7_present yX7_present, Cond.code yX7_present cX7_present 1 (some .int), Cond.methodLink RX7 91 yX7_copies, Cond.instanceMethod yX7_copies, Cond.selects RX7 yX7_copies yX7_copies, Cond.code yX7_copies cX7_copies 4 none]
def wsL_law_r17 : List Cond := [Cond.methodLink RX7 94 yX7_empties, Cond.instanceMethod yX7_empties, Cond.selects RX7 yX7_empties yX7_empties, Cond.code yX7_empties cX7_empties 3 none, Cond.methodLink RL 28 yX6_flowAll, Cond.instanceMethod yX6_flowAll, Cond.selects RX6 yX6_flowAll yX6_flowAll, Cond.code yX6_flowAll cX6_flowAll 3 (some .int), Cond.methodLink RL 32 yX7_flowAll, Cond.instanceMethod yX7_flowAll, Cond.selects RX7 yX7_flowAll yX7_flowAll, Cond.code yX7_flowAll cX7_flowAll 3 (some .int), Cond.methodLink RL 33 yX6_merge, Cond.instanceMethod yX6_merge, Cond.selects RX6 yX6_merge yX6_merge, Cond.code yX6_merge cX6_merge 3 (some .int), Cond.methodLink RX6 104 yX2_join, Cond.instanceMethod yX2_join, Cond.selects RX2 yX2_join yX2_join, Cond.code yX2_join cX2_join 4 (some .int), Cond.methodLink RX2 75 yX3_absorb, Cond.instanceMethod yX3_absorb, Cond.selects RX3 yX3_absorb yX3_absorb, Cond.code yX3_absorb cX3_absorb 7 (some .int)]
def wsL_law_r18 : List Cond := [Cond.methodLink RX3 74 yX3_upper, Cond.methodLink RX3 77 yX3_slackToMerge, Cond.instanceMethod yX3_slackToMerge, Cond.selects RX3 yX3_slackToMerge yX3_slackToMerge, Cond.code yX3_slackToMerge cX3_slackToMerge 2 (some .int), Cond.methodLink RX3 80 yX3_leaveOut, Cond.instanceMethod yX3_leaveOut, Cond.selects RX3 yX3_leaveOut yX3_leaveOut, Cond.code yX3_leaveOut cX3_leaveOut 4 (some .int), Cond.methodLink RX3 83 yX3_nextLeftOut, Cond.instanceMethod yX3_nextLeftOut, Cond.selects RX3 yX3_nextLeftOut yX3_nextLeftOut, Cond.code yX3_nextLeftOut cX3_nextLeftOut 3 (some .int), Cond.methodLink RX2 79 yX3_wipe, Cond.methodLink RL 37 yX7_merge, Cond.instanceMethod yX7_merge, Cond.selects RX7 yX7_merge yX7_merge, Cond.code yX7_merge cX7_merge 4 (some .int), Cond.methodLink RX7 100 yX7_joins, Cond.instanceMethod yX7_joins, Cond.selects RX7 yX7_joins yX7_joins, Cond.code yX7_joins cX7_joins 8 (some .int), Cond.methodLink RL 38 yX6_copy, Cond.instanceMethod yX6_copy]
def wsL_law_r19 : List Cond := [Cond.selects RX6 yX6_copy yX6_copy, Cond.code yX6_copy cX6_copy 3 (some .int), Cond.methodLink RX6 108 yX3_become, Cond.methodLink RX6 112 yX3_counters, Cond.methodLink RL 41 yX7_copy, Cond.instanceMethod yX7_copy, Cond.selects RX7 yX7_copy yX7_copy, Cond.code yX7_copy cX7_copy 3 (some .int), Cond.methodLink RL 42 yX6_setSize, Cond.instanceMethod yX6_setSize, Cond.selects RX6 yX6_setSize yX6_setSize, Cond.code yX6_setSize cX6_setSize 3 (some .int), Cond.fieldLink RX6 115 "FloorTops$Summary" "size" "I", Cond.methodLink RX6 118 yX2_resize, Cond.instanceMethod yX2_resize, Cond.selects RX2 yX2_resize yX2_resize, Cond.code yX2_resize cX2_resize 6 (some .int), Cond.fieldLink RX2 82 "FloorTops$Summary" "size" "I", Cond.methodLink RX2 85 yX3_counters, Cond.methodLink RX2 89 yX3_evictNext, Cond.methodLink RL 45 yX7_setSize, Cond.instanceMethod yX7_setSize, Cond.selects RX7 yX7_setSize yX7_setSize, Cond.code yX7_setSize cX7_setSize 4 (some .int)]
def wsL_law_r20 : List Cond := [Cond.methodLink RL 46 yX6_clear, Cond.instanceMethod yX6_clear, Cond.selects RX6 yX6_clear yX6_clear, Cond.code yX6_clear cX6_clear 3 (some .int), Cond.methodLink RX6 121 yX3_wipe, Cond.methodLink RL 49 yX7_clear, Cond.instanceMethod yX7_clear, Cond.selects RX7 yX7_clear yX7_clear, Cond.code yX7_clear cX7_clear 3 (some .int), Cond.methodLink RL 50 yX6_type, Cond.instanceMethod yX6_type, Cond.selects RX6 yX6_type yX6_type, Cond.code yX6_type cX6_type 2 (some .int), Cond.fieldLink RX6 124 "FloorTops$Text" "length" "I", Cond.methodLink RX6 127 yX4_put, Cond.instanceMethod yX4_put, Cond.selects RX4 yX4_put yX4_put, Cond.code yX4_put cX4_put 2 none, Cond.methodLink RL 54 yX7_type, Cond.instanceMethod yX7_type, Cond.selects RX7 yX7_type yX7_type, Cond.code yX7_type cX7_type 2 (some .int), Cond.methodLink RL 55 yX6_clearText, Cond.instanceMethod yX6_clearText]
def wsL_law_r21 : List Cond := [Cond.selects RX6 yX6_clearText yX6_clearText, Cond.code yX6_clearText cX6_clearText 2 (some .int), Cond.methodLink RL 58 yX7_clearText, Cond.instanceMethod yX7_clearText, Cond.selects RX7 yX7_clearText yX7_clearText, Cond.code yX7_clearText cX7_clearText 2 (some .int), Cond.methodLink RL 59 yX6_perform, Cond.instanceMethod yX6_perform, Cond.selects RX6 yX6_perform yX6_perform, Cond.code yX6_perform cX6_perform 2 (some .int), Cond.fieldLink RX6 134 "FloorTops$Text" "word" "I", Cond.fieldLink RX6 137 "FloorTops$Text" "firstNumber" "I", Cond.fieldLink RX6 140 "FloorTops$Text" "secondNumber" "I", Cond.methodLink RX6 131 yX4_readCommand, Cond.instanceMethod yX4_readCommand, Cond.selects RX4 yX4_readCommand yX4_readCommand, Cond.code yX4_readCommand cX4_readCommand 2 (some .int), Cond.methodLink RX4 63 yX4_wordBefore, Cond.instanceMethod yX4_wordBefore, Cond.selects RX4 yX4_wordBefore yX4_wordBefore, Cond.code yX4_wordBefore cX4_wordBefore 2 (some .int), Cond.methodLink RX4 72 yX4_beginsWith, Cond.instanceMethod yX4_beginsWith, Cond.selects RX4 yX4_beginsWith yX4_beginsWith]
def wsL_law_r22 : List Cond := [Cond.code yX4_beginsWith cX4_beginsWith 5 (some .boolean), Cond.methodLink RX4 82 yJ0_length_8abf5, Cond.instanceMethod yJ0_length_8abf5, Cond.selects RJ0 yJ0_length_8abf5 yJ0_length_8abf5, Cond.initialized RJ0, Cond.code yJ0_length_8abf5 cJ0_length_8abf5 1 (some .int), Cond.fieldLink RJ0 9 "java/lang/String" "value" "[B", Cond.methodLink RJ0 335 yJ0_coder_7d493, Cond.instanceMethod yJ0_coder_7d493, Cond.selects RJ0 yJ0_coder_7d493 yJ0_coder_7d493, Cond.code yJ0_coder_7d493 cJ0_coder_7d493 1 (some .byte), Cond.fieldLink RJ0 38 "java/lang/String" "COMPACT_STRINGS" "Z", Cond.fieldLink RJ0 15 "java/lang/String" "coder" "B", Cond.methodLink RX4 86 yJ0_charAt_5068e, Cond.instanceMethod yJ0_charAt_5068e, Cond.selects RJ0 yJ0_charAt_5068e yJ0_charAt_5068e, Cond.code yJ0_charAt_5068e cJ0_charAt_5068e 2 (some .char), Cond.methodLink RJ0 492 yJ0_isLatin1_aae02, Cond.instanceMethod yJ0_isLatin1_aae02, Cond.selects RJ0 yJ0_isLatin1_aae02 yJ0_isLatin1_aae02, Cond.code yJ0_isLatin1_aae02 cJ0_isLatin1_aae02 1 (some .boolean), Cond.methodLink RJ0 495 yJ1_charAt_3b067, Cond.static yJ1_charAt_3b067, Cond.initialized RJ1]
def wsL_law_r23 : List Cond := [Cond.code yJ1_charAt_3b067 cJ1_charAt_3b067 2 (some .char), Cond.methodLink RJ1 9 yJ0_checkIndex_df160, Cond.static yJ0_checkIndex_df160, Cond.code yJ0_checkIndex_df160 cJ0_checkIndex_df160 2 none, Cond.fieldLink RJ0 1053 "jdk/internal/util/Preconditions" "SIOOBE_FORMATTER" "Ljava/util/function/BiFunction;", Cond.methodLink RJ0 1059 yJ3_checkIndex_8e157, Cond.static yJ3_checkIndex_8e157, Cond.initialized RJ3, Cond.code yJ3_checkIndex_8e157 cJ3_checkIndex_8e157 3 (some .int), Cond.methodLink RJ0 498 yJ2_charAt_3b067, Cond.static yJ2_charAt_3b067, Cond.initialized RJ2, Cond.code yJ2_charAt_3b067 cJ2_charAt_3b067 2 (some .char), Cond.methodLink RJ2 67 yJ2_checkIndex_2214a, Cond.static yJ2_checkIndex_2214a, Cond.code yJ2_checkIndex_2214a cJ2_checkIndex_2214a 2 none, Cond.methodLink RJ2 48 yJ2_length_9d52b, Cond.static yJ2_length_9d52b, Cond.code yJ2_length_9d52b cJ2_length_9d52b 1 (some .int), Cond.methodLink RJ2 414 yJ0_checkIndex_df160, Cond.methodLink RJ2 71 yJ2_getChar_3b067, Cond.static yJ2_getChar_3b067, Cond.code yJ2_getChar_3b067 cJ2_getChar_3b067 2 (some .char), Cond.fieldLink RJ2 44 "java/lang/StringUTF16" "$assertionsDisabled" "Z"]
def wsL_law_r24 : List Cond := [Cond.fieldLink RJ2 59 "java/lang/StringUTF16" "HI_BYTE_SHIFT" "I", Cond.fieldLink RJ2 63 "java/lang/StringUTF16" "LO_BYTE_SHIFT" "I", Cond.methodLink RX4 67 yX4_readArgument, Cond.instanceMethod yX4_readArgument, Cond.selects RX4 yX4_readArgument yX4_readArgument, Cond.code yX4_readArgument cX4_readArgument 1 (some .int), Cond.methodLink RX6 143 yX6_merge, Cond.methodLink RX6 146 yX6_copy, Cond.methodLink RX6 149 yX6_setSize, Cond.methodLink RX6 152 yX6_clear, Cond.methodLink RL 62 yX7_perform, Cond.instanceMethod yX7_perform, Cond.selects RX7 yX7_perform yX7_perform, Cond.code yX7_perform cX7_perform 3 (some .int), Cond.methodLink RX7 135 yX7_word, Cond.instanceMethod yX7_word, Cond.selects RX7 yX7_word yX7_word, Cond.code yX7_word cX7_word 1 (some .int), Cond.methodLink RX7 131 yX7_isWord, Cond.instanceMethod yX7_isWord, Cond.selects RX7 yX7_isWord yX7_isWord, Cond.code yX7_isWord cX7_isWord 6 (some .boolean), Cond.methodLink RX7 138 yX7_takesNumber, Cond.instanceMethod yX7_takesNumber]
def wsL_law_r25 : List Cond := [Cond.selects RX7 yX7_takesNumber yX7_takesNumber, Cond.code yX7_takesNumber cX7_takesNumber 1 (some .boolean), Cond.methodLink RX7 141 yX7_merge, Cond.methodLink RX7 144 yX7_copy, Cond.methodLink RX7 147 yX7_setSize, Cond.methodLink RX7 150 yX7_clear, Cond.methodLink RL 63 yX6_undo, Cond.instanceMethod yX6_undo, Cond.selects RX6 yX6_undo yX6_undo, Cond.code yX6_undo cX6_undo 1 (some .int), Cond.fieldLink RX6 155 "FloorTops$History" "known" "I", Cond.methodLink RX6 158 yX0_takeBack, Cond.instanceMethod yX0_takeBack, Cond.selects RX0 yX0_takeBack yX0_takeBack, Cond.code yX0_takeBack cX0_takeBack 2 none, Cond.methodLink RL 66 yX7_undo, Cond.instanceMethod yX7_undo, Cond.selects RX7 yX7_undo yX7_undo, Cond.code yX7_undo cX7_undo 2 (some .int), Cond.methodLink RL 67 yX6_keep, Cond.instanceMethod yX6_keep, Cond.selects RX6 yX6_keep yX6_keep, Cond.code yX6_keep cX6_keep 1 (some .int), Cond.fieldLink RX6 163 "FloorTops$State" "time" "I"]
def wsL_law_r26 : List Cond := [Cond.methodLink RX6 161 yX2_become, Cond.methodLink RL 70 yX7_keep, Cond.instanceMethod yX7_keep, Cond.selects RX7 yX7_keep yX7_keep, Cond.code yX7_keep cX7_keep 2 (some .int), Cond.fieldLink RX7 153 "FloorTopsModel" "isFilled" "Z", Cond.methodLink RL 71 yX6_restore, Cond.instanceMethod yX6_restore, Cond.selects RX6 yX6_restore yX6_restore, Cond.code yX6_restore cX6_restore 1 (some .int), Cond.methodLink RL 74 yX7_restore, Cond.instanceMethod yX7_restore, Cond.selects RX7 yX7_restore yX7_restore, Cond.code yX7_restore cX7_restore 2 (some .int), Cond.methodLink RL 75 yX6_summary, Cond.instanceMethod yX6_summary, Cond.selects RX6 yX6_summary yX6_summary, Cond.code yX6_summary cX6_summary 4 (some .int), Cond.fieldLink RX6 170 "FloorTops$Summary" "floor" "I", Cond.fieldLink RX6 179 "FloorTops$Summary" "held" "I", Cond.methodLink RX6 166 yX6_told, Cond.instanceMethod yX6_told, Cond.selects RX6 yX6_told yX6_told, Cond.code yX6_told cX6_told 2 (some (.object "FloorTops$Summary"))]
def wsL_law_r27 : List Cond := [Cond.methodLink RX6 256 yX5_look, Cond.instanceMethod yX5_look, Cond.selects RX5 yX5_look yX5_look, Cond.code yX5_look cX5_look 4 none, Cond.methodLink RX5 44 yX5_blockAt, Cond.instanceMethod yX5_blockAt, Cond.selects RX5 yX5_blockAt yX5_blockAt, Cond.code yX5_blockAt cX5_blockAt 2 (some (.object "FloorTops$Summary")), Cond.methodLink RX5 52 yX3_absorb, Cond.methodLink RX6 173 yX3_greatestSlack, Cond.instanceMethod yX3_greatestSlack, Cond.selects RX3 yX3_greatestSlack yX3_greatestSlack, Cond.code yX3_greatestSlack cX3_greatestSlack 3 (some .int), Cond.methodLink RX6 176 yX3_lettersThatCame, Cond.instanceMethod yX3_lettersThatCame, Cond.selects RX3 yX3_lettersThatCame yX3_lettersThatCame, Cond.code yX3_lettersThatCame cX3_lettersThatCame 3 (some .int), Cond.methodLink RL 78 yX7_summary, Cond.instanceMethod yX7_summary, Cond.selects RX7 yX7_summary yX7_summary, Cond.code yX7_summary cX7_summary 4 (some .int), Cond.methodLink RX7 157 yX7_looks, Cond.instanceMethod yX7_looks, Cond.selects RX7 yX7_looks yX7_looks]
def wsL_law_r28 : List Cond := [Cond.code yX7_looks cX7_looks 3 (some .int), Cond.methodLink RX7 160 yX7_greatestSlack, Cond.instanceMethod yX7_greatestSlack, Cond.selects RX7 yX7_greatestSlack yX7_greatestSlack, Cond.code yX7_greatestSlack cX7_greatestSlack 4 (some .int), Cond.methodLink RX7 163 yX7_letters, Cond.instanceMethod yX7_letters, Cond.selects RX7 yX7_letters yX7_letters, Cond.code yX7_letters cX7_letters 5 (some .int), Cond.methodLink RL 79 yX6_bound, Cond.instanceMethod yX6_bound, Cond.selects RX6 yX6_bound yX6_bound, Cond.code yX6_bound cX6_bound 6 (some .int), Cond.fieldLink RX6 185 "FloorTops$Summary" "came" "[I", Cond.fieldLink RX6 191 "FloorTops$Summary" "slacks" "[I", Cond.fieldLink RX6 194 "FloorTops$Summary" "times" "[I", Cond.methodLink RX6 182 yX3_lower, Cond.instanceMethod yX3_lower, Cond.selects RX3 yX3_lower yX3_lower, Cond.code yX3_lower cX3_lower 2 (some .int), Cond.methodLink RX6 188 yX3_has, Cond.methodLink RL 82 yX7_bound, Cond.instanceMethod yX7_bound, Cond.selects RX7 yX7_bound yX7_bound]
def wsL_law_r29 : List Cond := [Cond.code yX7_bound cX7_bound 6 (some .int), Cond.methodLink RX7 166 yX7_upper, Cond.instanceMethod yX7_upper, Cond.selects RX7 yX7_upper yX7_upper, Cond.code yX7_upper cX7_upper 3 (some .int), Cond.methodLink RX7 169 yX7_lower, Cond.instanceMethod yX7_lower, Cond.selects RX7 yX7_lower yX7_lower, Cond.code yX7_lower cX7_lower 3 (some .int), Cond.methodLink RL 83 yX6_top, Cond.instanceMethod yX6_top, Cond.selects RX6 yX6_top yX6_top, Cond.code yX6_top cX6_top 6 (some .int), Cond.fieldLink RX6 203 "FloorTops$Summary" "counts" "[I", Cond.methodLink RX6 197 yX3_letterAt, Cond.instanceMethod yX3_letterAt, Cond.selects RX3 yX3_letterAt yX3_letterAt, Cond.code yX3_letterAt cX3_letterAt 3 (some .int), Cond.methodLink RX3 92 yX3_placeOf, Cond.instanceMethod yX3_placeOf, Cond.selects RX3 yX3_placeOf yX3_placeOf, Cond.code yX3_placeOf cX3_placeOf 4 (some .int), Cond.methodLink RX6 200 yX6_codeOf, Cond.methodLink RL 87 yX7_top]
def wsL_law_r30 : List Cond := [Cond.instanceMethod yX7_top, Cond.selects RX7 yX7_top yX7_top, Cond.code yX7_top cX7_top 9 (some .int), Cond.methodLink RL 88 yX6_first, Cond.instanceMethod yX6_first, Cond.selects RX6 yX6_first yX6_first, Cond.code yX6_first cX6_first 7 (some .int), Cond.methodLink RX6 206 yX3_lettersAhead, Cond.instanceMethod yX3_lettersAhead, Cond.selects RX3 yX3_lettersAhead yX3_lettersAhead, Cond.code yX3_lettersAhead cX3_lettersAhead 7 (some .int), Cond.methodLink RX3 95 yX3_lower, Cond.methodLink RL 92 yX7_first, Cond.instanceMethod yX7_first, Cond.selects RX7 yX7_first yX7_first, Cond.code yX7_first cX7_first 7 (some .int), Cond.methodLink RX7 172 yX7_ahead, Cond.instanceMethod yX7_ahead, Cond.selects RX7 yX7_ahead yX7_ahead, Cond.code yX7_ahead cX7_ahead 7 (some .int), Cond.methodLink RL 93 yX6_above, Cond.instanceMethod yX6_above, Cond.selects RX6 yX6_above yX6_above, Cond.code yX6_above cX6_above 8 (some .int)]
def wsL_law_r31 : List Cond := [Cond.constantLong RX6 210 (100), Cond.methodLink RL 96 yX7_above, Cond.instanceMethod yX7_above, Cond.selects RX7 yX7_above yX7_above, Cond.code yX7_above cX7_above 8 (some .int), Cond.methodLink RL 97 yX6_rank, Cond.instanceMethod yX6_rank, Cond.selects RX6 yX6_rank yX6_rank, Cond.code yX6_rank cX6_rank 6 (some .int), Cond.methodLink RL 101 yX7_rank, Cond.instanceMethod yX7_rank, Cond.selects RX7 yX7_rank yX7_rank, Cond.code yX7_rank cX7_rank 5 (some .int), Cond.methodLink RL 102 yX6_alike, Cond.instanceMethod yX6_alike, Cond.selects RX6 yX6_alike yX6_alike, Cond.code yX6_alike cX6_alike 7 (some .int), Cond.methodLink RL 105 yX7_alike, Cond.instanceMethod yX7_alike, Cond.selects RX7 yX7_alike yX7_alike, Cond.code yX7_alike cX7_alike 7 (some .int), Cond.methodLink RL 106 yX6_wouldEvict, Cond.instanceMethod yX6_wouldEvict, Cond.selects RX6 yX6_wouldEvict yX6_wouldEvict]
def wsL_law_r32 : List Cond := [Cond.code yX6_wouldEvict cX6_wouldEvict 6 (some .int), Cond.methodLink RX6 212 yX3_needsRoomFor, Cond.methodLink RX6 215 yX3_nextEvicted, Cond.methodLink RL 110 yX7_wouldEvict, Cond.instanceMethod yX7_wouldEvict, Cond.selects RX7 yX7_wouldEvict yX7_wouldEvict, Cond.code yX7_wouldEvict cX7_wouldEvict 4 (some .int), Cond.methodLink RL 111 yX6_block, Cond.instanceMethod yX6_block, Cond.selects RX6 yX6_block yX6_block, Cond.code yX6_block cX6_block 4 (some .int), Cond.fieldLink RX6 218 "FloorTops$Window" "kept" "I", Cond.methodLink RX6 221 yX5_blockAt, Cond.methodLink RX6 224 yX5_arrivalsOf, Cond.instanceMethod yX5_arrivalsOf, Cond.selects RX5 yX5_arrivalsOf yX5_arrivalsOf, Cond.code yX5_arrivalsOf cX5_arrivalsOf 2 (some .int), Cond.methodLink RL 114 yX7_block, Cond.instanceMethod yX7_block, Cond.selects RX7 yX7_block yX7_block, Cond.code yX7_block cX7_block 4 (some .int), Cond.methodLink RL 115 yX6_event, Cond.instanceMethod yX6_event, Cond.selects RX6 yX6_event yX6_event]
def wsL_law_r33 : List Cond := [Cond.code yX6_event cX6_event 4 (some .int), Cond.fieldLink RX6 227 "FloorTops$State" "log" "LFloorTops$Log;", Cond.fieldLink RX6 231 "FloorTops$Log" "known" "I", Cond.fieldLink RX6 237 "FloorTops$Log" "kinds" "[I", Cond.fieldLink RX6 240 "FloorTops$Log" "places" "[I", Cond.fieldLink RX6 243 "FloorTops$Log" "values" "[I", Cond.fieldLink RX6 246 "FloorTops$Log" "times" "[I", Cond.methodLink RX6 234 yX1_slotOf, Cond.instanceMethod yX1_slotOf, Cond.selects RX1 yX1_slotOf yX1_slotOf, Cond.code yX1_slotOf cX1_slotOf 2 (some .int), Cond.methodLink RL 118 yX7_event, Cond.instanceMethod yX7_event, Cond.selects RX7 yX7_event yX7_event, Cond.code yX7_event cX7_event 3 (some .int), Cond.methodLink RL 119 yX6_count, Cond.instanceMethod yX6_count, Cond.selects RX6 yX6_count yX6_count, Cond.code yX6_count cX6_count 2 (some .int), Cond.fieldLink RX6 247 "FloorTops$State" "evictions" "I", Cond.fieldLink RX6 250 "FloorTops$State" "merges" "I", Cond.fieldLink RX6 253 "FloorTops$Window" "begun" "I", Cond.methodLink RL 122 yX7_count, Cond.instanceMethod yX7_count]
def wsL_law_r34 : List Cond := [Cond.selects RX7 yX7_count yX7_count, Cond.code yX7_count cX7_count 2 (some .int)]
def wsL_law : List Cond := (wsL_law_r1 ++ (wsL_law_r2 ++ (wsL_law_r3 ++ (wsL_law_r4 ++ (wsL_law_r5 ++ (wsL_law_r6 ++ (wsL_law_r7 ++ (wsL_law_r8 ++ (wsL_law_r9 ++ (wsL_law_r10 ++ (wsL_law_r11 ++ (wsL_law_r12 ++ (wsL_law_r13 ++ (wsL_law_r14 ++ (wsL_law_r15 ++ (wsL_law_r16 ++ (wsL_law_r17 ++ (wsL_law_r18 ++ (wsL_law_r19 ++ (wsL_law_r20 ++ (wsL_law_r21 ++ (wsL_law_r22 ++ (wsL_law_r23 ++ (wsL_law_r24 ++ (wsL_law_r25 ++ (wsL_law_r26 ++ (wsL_law_r27 ++ (wsL_law_r28 ++ (wsL_law_r29 ++ (wsL_law_r30 ++ (wsL_law_r31 ++ (wsL_law_r32 ++ (wsL_law_r33 ++ wsL_law_r34))))))))))))))))))))))))))))))))) ++ wsX60 ++ wsX70 ++ wsX20 ++ wsX00 ++ wsX40 ++ wsX30 ++ wsX50 ++ wsX10 ++ ([] : List Cond)
set_option maxRecDepth 20000 in
theorem inlX0 : ∀ w ∈ wsX00, w ∈ wsL_law := fun _ h => List.mem_append_left _ (List.mem_append_left _ (List.mem_append_left _ (List.mem_append_left _ (List.mem_append_left _ (List.mem_append_right _ h)))))
theorem inlX1 : ∀ w ∈ wsX10, w ∈ wsL_law := fun _ h => List.mem_append_left _ (List.mem_append_right _ h)
theorem inlX2 : ∀ w ∈ wsX20, w ∈ wsL_law := fun _ h => List.mem_append_left _ (List.mem_append_left _ (List.mem_append_left _ (List.mem_append_left _ (List.mem_append_left _ (List.mem_append_left _ (List.mem_append_right _ h))))))
theorem inlX3 : ∀ w ∈ wsX30, w ∈ wsL_law := fun _ h => List.mem_append_left _ (List.mem_append_left _ (List.mem_append_left _ (List.mem_append_right _ h)))
theorem inlX4 : ∀ w ∈ wsX40, w ∈ wsL_law := fun _ h => List.mem_append_left _ (List.mem_append_left _ (List.mem_append_left _ (List.mem_append_left _ (List.mem_append_right _ h))))
theorem inlX5 : ∀ w ∈ wsX50, w ∈ wsL_law := fun _ h => List.mem_append_left _ (List.mem_append_left _ (List.mem_append_right _ h))
theorem inlX6 : ∀ w ∈ wsX60, w ∈ wsL_law := fun _ h => List.mem_append_left _ (List.mem_append_left _ (List.mem_append_left _ (List.mem_append_left _ (List.mem_append_left _ (List.mem_append_left _ (List.mem_append_left _ (List.mem_append_left _ (List.mem_append_right _ h))))))))
theorem inlX7 : ∀ w ∈ wsX70, w ∈ wsL_law := fun _ h => List.mem_append_left _ (List.mem_append_left _ (List.mem_append_left _ (List.mem_append_left _ (List.mem_append_left _ (List.mem_append_left _ (List.mem_append_left _ (List.mem_append_right _ h)))))))
theorem inJ6 : ∀ w ∈ wsJ60, w ∈ lw_tbl := by decide +kernel
theorem inJ9 : ∀ w ∈ wsJ90, w ∈ lw_tbl := by decide +kernel
theorem inJ0 : ∀ w ∈ wsJ00, w ∈ lw_tbl := by decide +kernel
theorem inJ1 : ∀ w ∈ wsJ10, w ∈ lw_tbl := by decide +kernel
theorem inJ2 : ∀ w ∈ wsJ20, w ∈ lw_tbl := by decide +kernel
theorem inJ10 : ∀ w ∈ wsJ100, w ∈ lw_tbl := by decide +kernel
theorem inJ3 : ∀ w ∈ wsJ30, w ∈ lw_tbl := by decide +kernel
abbrev vwCl : List vw_C := [(RX0, TX0, 3), (RX1, TX1, 6), (RX2, TX2, 6), (RX3, TX3, 8), (RX4, TX4, 9), (RX5, TX5, 5), (RX6, TX6, 6), (RX7, TX7, 11)]
abbrev wA : List Cond := wsL_law
