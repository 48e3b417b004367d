section
-- ===== PART A: goes FIRST, ahead of the names: the tables' words, and 'selects' of the private methods out of them =====
/-- a private method of a class that the tables say can be made, by its rows of tables_1 -/
def lw_okq (q : MethodName × Nat) : Prop := (q.1.cls ≠ "java/lang/invoke/MethodHandle" ∧ q.1.cls ≠ "java/lang/invoke/VarHandle") ∧ Cond.instantiable q.1.cls q.2 ∈ tables_1 ∧ Cond.privateMethod q.1 ∈ tables_1 ∧ Cond.instanceMethod q.1 ∈ tables_1
theorem lw_p0 : lw_okq (⟨"FloorTops$Summary", "goesBefore", "(II)Z"⟩, 8) := ⟨⟨by decide +kernel, by decide +kernel⟩, List.mem_of_getElem? (i := 39) (by decide +kernel), List.mem_of_getElem? (i := 316) (by decide +kernel), List.mem_of_getElem? (i := 317) (by decide +kernel)⟩
theorem lw_p1 : lw_okq (⟨"FloorTops$Summary", "takeCounter", "(I)V"⟩, 8) := ⟨⟨by decide +kernel, by decide +kernel⟩, List.mem_of_getElem? (i := 39) (by decide +kernel), List.mem_of_getElem? (i := 320) (by decide +kernel), List.mem_of_getElem? (i := 321) (by decide +kernel)⟩
theorem lw_p2 : lw_okq (⟨"FloorTops$State", "noteEviction", "(II)V"⟩, 6) := ⟨⟨by decide +kernel, by decide +kernel⟩, List.mem_of_getElem? (i := 25) (by decide +kernel), List.mem_of_getElem? (i := 327) (by decide +kernel), List.mem_of_getElem? (i := 328) (by decide +kernel)⟩
theorem lw_p3 : lw_okq (⟨"FloorTops$Text", "sign", "()C"⟩, 9) := ⟨⟨by decide +kernel, by decide +kernel⟩, List.mem_of_getElem? (i := 177) (by decide +kernel), List.mem_of_getElem? (i := 351) (by decide +kernel), List.mem_of_getElem? (i := 352) (by decide +kernel)⟩
theorem lw_p4 : lw_okq (⟨"FloorTops$Text", "readWeight", "()I"⟩, 9) := ⟨⟨by decide +kernel, by decide +kernel⟩, List.mem_of_getElem? (i := 177) (by decide +kernel), List.mem_of_getElem? (i := 356) (by decide +kernel), List.mem_of_getElem? (i := 357) (by decide +kernel)⟩
theorem lw_p5 : lw_okq (⟨"FloorTops$Text", "isDigit", "()Z"⟩, 9) := ⟨⟨by decide +kernel, by decide +kernel⟩, List.mem_of_getElem? (i := 177) (by decide +kernel), List.mem_of_getElem? (i := 360) (by decide +kernel), List.mem_of_getElem? (i := 361) (by decide +kernel)⟩
theorem lw_p6 : lw_okq (⟨"FloorTops$Text", "readNumber", "()I"⟩, 9) := ⟨⟨by decide +kernel, by decide +kernel⟩, List.mem_of_getElem? (i := 177) (by decide +kernel), List.mem_of_getElem? (i := 364) (by decide +kernel), List.mem_of_getElem? (i := 365) (by decide +kernel)⟩
theorem lw_p7 : lw_okq (⟨"FloorTops$Text", "takeDigit", "()I"⟩, 9) := ⟨⟨by decide +kernel, by decide +kernel⟩, List.mem_of_getElem? (i := 177) (by decide +kernel), List.mem_of_getElem? (i := 368) (by decide +kernel), List.mem_of_getElem? (i := 369) (by decide +kernel)⟩
theorem lw_p8 : lw_okq (⟨"FloorTops$Summary", "leaveOut", "()I"⟩, 8) := ⟨⟨by decide +kernel, by decide +kernel⟩, List.mem_of_getElem? (i := 39) (by decide +kernel), List.mem_of_getElem? (i := 420) (by decide +kernel), List.mem_of_getElem? (i := 421) (by decide +kernel)⟩
theorem lw_p9 : lw_okq (⟨"FloorTops$Summary", "nextLeftOut", "()I"⟩, 8) := ⟨⟨by decide +kernel, by decide +kernel⟩, List.mem_of_getElem? (i := 39) (by decide +kernel), List.mem_of_getElem? (i := 424) (by decide +kernel), List.mem_of_getElem? (i := 425) (by decide +kernel)⟩
theorem lw_p10 : lw_okq (⟨"FloorTops$Text", "wordBefore", "(I)I"⟩, 9) := ⟨⟨by decide +kernel, by decide +kernel⟩, List.mem_of_getElem? (i := 177) (by decide +kernel), List.mem_of_getElem? (i := 470) (by decide +kernel), List.mem_of_getElem? (i := 471) (by decide +kernel)⟩
theorem lw_p11 : lw_okq (⟨"FloorTops$Text", "beginsWith", "(Ljava/lang/String;I)Z"⟩, 9) := ⟨⟨by decide +kernel, by decide +kernel⟩, List.mem_of_getElem? (i := 177) (by decide +kernel), List.mem_of_getElem? (i := 475) (by decide +kernel), List.mem_of_getElem? (i := 476) (by decide +kernel)⟩
theorem lw_p12 : lw_okq (⟨"FloorTops$Text", "readArgument", "()I"⟩, 9) := ⟨⟨by decide +kernel, by decide +kernel⟩, List.mem_of_getElem? (i := 177) (by decide +kernel), List.mem_of_getElem? (i := 530) (by decide +kernel), List.mem_of_getElem? (i := 531) (by decide +kernel)⟩
theorem lw_p13 : lw_okq (⟨"FloorTops", "told", "(I)LFloorTops$Summary;"⟩, 6) := ⟨⟨by decide +kernel, by decide +kernel⟩, List.mem_of_getElem? (i := 17) (by decide +kernel), List.mem_of_getElem? (i := 560) (by decide +kernel), List.mem_of_getElem? (i := 561) (by decide +kernel)⟩
theorem lw_p14 : lw_okq (⟨"FloorTops$Summary", "placeOf", "(I)I"⟩, 8) := ⟨⟨by decide +kernel, by decide +kernel⟩, List.mem_of_getElem? (i := 39) (by decide +kernel), List.mem_of_getElem? (i := 598) (by decide +kernel), List.mem_of_getElem? (i := 599) (by decide +kernel)⟩
theorem lw_p15 : lw_okq (⟨"FloorTopsModel", "puts", "(III)V"⟩, 11) := ⟨⟨by decide +kernel, by decide +kernel⟩, List.mem_of_getElem? (i := 652) (by decide +kernel), List.mem_of_getElem? (i := 658) (by decide +kernel), List.mem_of_getElem? (i := 659) (by decide +kernel)⟩
def lw_privs_1 : List (MethodName × Nat) := [(⟨"FloorTops$Summary", "goesBefore", "(II)Z"⟩, 8), (⟨"FloorTops$Summary", "takeCounter", "(I)V"⟩, 8), (⟨"FloorTops$State", "noteEviction", "(II)V"⟩, 6), (⟨"FloorTops$Text", "sign", "()C"⟩, 9), (⟨"FloorTops$Text", "readWeight", "()I"⟩, 9), (⟨"FloorTops$Text", "isDigit", "()Z"⟩, 9), (⟨"FloorTops$Text", "readNumber", "()I"⟩, 9), (⟨"FloorTops$Text", "takeDigit", "()I"⟩, 9), (⟨"FloorTops$Summary", "leaveOut", "()I"⟩, 8), (⟨"FloorTops$Summary", "nextLeftOut", "()I"⟩, 8), (⟨"FloorTops$Text", "wordBefore", "(I)I"⟩, 9), (⟨"FloorTops$Text", "beginsWith", "(Ljava/lang/String;I)Z"⟩, 9), (⟨"FloorTops$Text", "readArgument", "()I"⟩, 9), (⟨"FloorTops", "told", "(I)LFloorTops$Summary;"⟩, 6), (⟨"FloorTops$Summary", "placeOf", "(I)I"⟩, 8), (⟨"FloorTopsModel", "puts", "(III)V"⟩, 11)]
theorem lw_r1 : ∀ q ∈ lw_privs_1, lw_okq q := List.forall_mem_cons.mpr ⟨lw_p0, List.forall_mem_cons.mpr ⟨lw_p1, List.forall_mem_cons.mpr ⟨lw_p2, List.forall_mem_cons.mpr ⟨lw_p3, List.forall_mem_cons.mpr ⟨lw_p4, List.forall_mem_cons.mpr ⟨lw_p5, List.forall_mem_cons.mpr ⟨lw_p6, List.forall_mem_cons.mpr ⟨lw_p7, List.forall_mem_cons.mpr ⟨lw_p8, List.forall_mem_cons.mpr ⟨lw_p9, List.forall_mem_cons.mpr ⟨lw_p10, List.forall_mem_cons.mpr ⟨lw_p11, List.forall_mem_cons.mpr ⟨lw_p12, List.forall_mem_cons.mpr ⟨lw_p13, List.forall_mem_cons.mpr ⟨lw_p14, List.forall_mem_cons.mpr ⟨lw_p15, fun _ h => absurd h List.not_mem_nil⟩⟩⟩⟩⟩⟩⟩⟩⟩⟩⟩⟩⟩⟩⟩⟩
theorem lw_p16 : lw_okq (⟨"FloorTopsModel", "of", "(II)I"⟩, 11) := ⟨⟨by decide +kernel, by decide +kernel⟩, List.mem_of_getElem? (i := 652) (by decide +kernel), List.mem_of_getElem? (i := 712) (by decide +kernel), List.mem_of_getElem? (i := 713) (by decide +kernel)⟩
theorem lw_p17 : lw_okq (⟨"FloorTopsModel", "record", "()V"⟩, 11) := ⟨⟨by decide +kernel, by decide +kernel⟩, List.mem_of_getElem? (i := 652) (by decide +kernel), List.mem_of_getElem? (i := 717) (by decide +kernel), List.mem_of_getElem? (i := 718) (by decide +kernel)⟩
theorem lw_p18 : lw_okq (⟨"FloorTopsModel", "comes", "(III)V"⟩, 11) := ⟨⟨by decide +kernel, by decide +kernel⟩, List.mem_of_getElem? (i := 652) (by decide +kernel), List.mem_of_getElem? (i := 721) (by decide +kernel), List.mem_of_getElem? (i := 722) (by decide +kernel)⟩
theorem lw_p19 : lw_okq (⟨"FloorTopsModel", "its", "(III)I"⟩, 11) := ⟨⟨by decide +kernel, by decide +kernel⟩, List.mem_of_getElem? (i := 652) (by decide +kernel), List.mem_of_getElem? (i := 725) (by decide +kernel), List.mem_of_getElem? (i := 726) (by decide +kernel)⟩
theorem lw_p20 : lw_okq (⟨"FloorTopsModel", "gives", "(IIII)V"⟩, 11) := ⟨⟨by decide +kernel, by decide +kernel⟩, List.mem_of_getElem? (i := 652) (by decide +kernel), List.mem_of_getElem? (i := 729) (by decide +kernel), List.mem_of_getElem? (i := 730) (by decide +kernel)⟩
theorem lw_p21 : lw_okq (⟨"FloorTopsModel", "has", "(II)Z"⟩, 11) := ⟨⟨by decide +kernel, by decide +kernel⟩, List.mem_of_getElem? (i := 652) (by decide +kernel), List.mem_of_getElem? (i := 733) (by decide +kernel), List.mem_of_getElem? (i := 734) (by decide +kernel)⟩
theorem lw_p22 : lw_okq (⟨"FloorTopsModel", "counters", "(I)I"⟩, 11) := ⟨⟨by decide +kernel, by decide +kernel⟩, List.mem_of_getElem? (i := 652) (by decide +kernel), List.mem_of_getElem? (i := 737) (by decide +kernel), List.mem_of_getElem? (i := 738) (by decide +kernel)⟩
theorem lw_p23 : lw_okq (⟨"FloorTopsModel", "evicts", "(I)V"⟩, 11) := ⟨⟨by decide +kernel, by decide +kernel⟩, List.mem_of_getElem? (i := 652) (by decide +kernel), List.mem_of_getElem? (i := 741) (by decide +kernel), List.mem_of_getElem? (i := 742) (by decide +kernel)⟩
theorem lw_p24 : lw_okq (⟨"FloorTopsModel", "least", "(I)I"⟩, 11) := ⟨⟨by decide +kernel, by decide +kernel⟩, List.mem_of_getElem? (i := 652) (by decide +kernel), List.mem_of_getElem? (i := 745) (by decide +kernel), List.mem_of_getElem? (i := 746) (by decide +kernel)⟩
theorem lw_p25 : lw_okq (⟨"FloorTopsModel", "drops", "(II)V"⟩, 11) := ⟨⟨by decide +kernel, by decide +kernel⟩, List.mem_of_getElem? (i := 652) (by decide +kernel), List.mem_of_getElem? (i := 749) (by decide +kernel), List.mem_of_getElem? (i := 750) (by decide +kernel)⟩
theorem lw_p26 : lw_okq (⟨"FloorTopsModel", "tells", "(III)V"⟩, 11) := ⟨⟨by decide +kernel, by decide +kernel⟩, List.mem_of_getElem? (i := 652) (by decide +kernel), List.mem_of_getElem? (i := 753) (by decide +kernel), List.mem_of_getElem? (i := 754) (by decide +kernel)⟩
theorem lw_p27 : lw_okq (⟨"FloorTopsModel", "flows", "(II)V"⟩, 11) := ⟨⟨by decide +kernel, by decide +kernel⟩, List.mem_of_getElem? (i := 652) (by decide +kernel), List.mem_of_getElem? (i := 761) (by decide +kernel), List.mem_of_getElem? (i := 762) (by decide +kernel)⟩
theorem lw_p28 : lw_okq (⟨"FloorTopsModel", "present", "()I"⟩, 11) := ⟨⟨by decide +kernel, by decide +kernel⟩, List.mem_of_getElem? (i := 652) (by decide +kernel), List.mem_of_getElem? (i := 765) (by decide +kernel), List.mem_of_getElem? (i := 766) (by decide +kernel)⟩
theorem lw_p29 : lw_okq (⟨"FloorTopsModel", "copies", "(II)V"⟩, 11) := ⟨⟨by decide +kernel, by decide +kernel⟩, List.mem_of_getElem? (i := 652) (by decide +kernel), List.mem_of_getElem? (i := 769) (by decide +kernel), List.mem_of_getElem? (i := 770) (by decide +kernel)⟩
theorem lw_p30 : lw_okq (⟨"FloorTopsModel", "empties", "(I)V"⟩, 11) := ⟨⟨by decide +kernel, by decide +kernel⟩, List.mem_of_getElem? (i := 652) (by decide +kernel), List.mem_of_getElem? (i := 773) (by decide +kernel), List.mem_of_getElem? (i := 774) (by decide +kernel)⟩
theorem lw_p31 : lw_okq (⟨"FloorTopsModel", "joins", "(II)I"⟩, 11) := ⟨⟨by decide +kernel, by decide +kernel⟩, List.mem_of_getElem? (i := 652) (by decide +kernel), List.mem_of_getElem? (i := 781) (by decide +kernel), List.mem_of_getElem? (i := 782) (by decide +kernel)⟩
def lw_privs_2 : List (MethodName × Nat) := [(⟨"FloorTopsModel", "of", "(II)I"⟩, 11), (⟨"FloorTopsModel", "record", "()V"⟩, 11), (⟨"FloorTopsModel", "comes", "(III)V"⟩, 11), (⟨"FloorTopsModel", "its", "(III)I"⟩, 11), (⟨"FloorTopsModel", "gives", "(IIII)V"⟩, 11), (⟨"FloorTopsModel", "has", "(II)Z"⟩, 11), (⟨"FloorTopsModel", "counters", "(I)I"⟩, 11), (⟨"FloorTopsModel", "evicts", "(I)V"⟩, 11), (⟨"FloorTopsModel", "least", "(I)I"⟩, 11), (⟨"FloorTopsModel", "drops", "(II)V"⟩, 11), (⟨"FloorTopsModel", "tells", "(III)V"⟩, 11), (⟨"FloorTopsModel", "flows", "(II)V"⟩, 11), (⟨"FloorTopsModel", "present", "()I"⟩, 11), (⟨"FloorTopsModel", "copies", "(II)V"⟩, 11), (⟨"FloorTopsModel", "empties", "(I)V"⟩, 11), (⟨"FloorTopsModel", "joins", "(II)I"⟩, 11)]
theorem lw_r2 : ∀ q ∈ lw_privs_2, lw_okq q := List.forall_mem_cons.mpr ⟨lw_p16, List.forall_mem_cons.mpr ⟨lw_p17, List.forall_mem_cons.mpr ⟨lw_p18, List.forall_mem_cons.mpr ⟨lw_p19, List.forall_mem_cons.mpr ⟨lw_p20, List.forall_mem_cons.mpr ⟨lw_p21, List.forall_mem_cons.mpr ⟨lw_p22, List.forall_mem_cons.mpr ⟨lw_p23, List.forall_mem_cons.mpr ⟨lw_p24, List.forall_mem_cons.mpr ⟨lw_p25, List.forall_mem_cons.mpr ⟨lw_p26, List.forall_mem_cons.mpr ⟨lw_p27, List.forall_mem_cons.mpr ⟨lw_p28, List.forall_mem_cons.mpr ⟨lw_p29, List.forall_mem_cons.mpr ⟨lw_p30, List.forall_mem_cons.mpr ⟨lw_p31, fun _ h => absurd h List.not_mem_nil⟩⟩⟩⟩⟩⟩⟩⟩⟩⟩⟩⟩⟩⟩⟩⟩
theorem lw_p32 : lw_okq (⟨"FloorTopsModel", "arrivals", "()I"⟩, 11) := ⟨⟨by decide +kernel, by decide +kernel⟩, List.mem_of_getElem? (i := 652) (by decide +kernel), List.mem_of_getElem? (i := 809) (by decide +kernel), List.mem_of_getElem? (i := 810) (by decide +kernel)⟩
theorem lw_p33 : lw_okq (⟨"FloorTopsModel", "takesArrival", "()Z"⟩, 11) := ⟨⟨by decide +kernel, by decide +kernel⟩, List.mem_of_getElem? (i := 652) (by decide +kernel), List.mem_of_getElem? (i := 813) (by decide +kernel), List.mem_of_getElem? (i := 814) (by decide +kernel)⟩
theorem lw_p34 : lw_okq (⟨"FloorTopsModel", "isBetween", "(II)Z"⟩, 11) := ⟨⟨by decide +kernel, by decide +kernel⟩, List.mem_of_getElem? (i := 652) (by decide +kernel), List.mem_of_getElem? (i := 817) (by decide +kernel), List.mem_of_getElem? (i := 818) (by decide +kernel)⟩
theorem lw_p35 : lw_okq (⟨"FloorTopsModel", "takes", "(I)Z"⟩, 11) := ⟨⟨by decide +kernel, by decide +kernel⟩, List.mem_of_getElem? (i := 652) (by decide +kernel), List.mem_of_getElem? (i := 821) (by decide +kernel), List.mem_of_getElem? (i := 822) (by decide +kernel)⟩
theorem lw_p36 : lw_okq (⟨"FloorTopsModel", "word", "()I"⟩, 11) := ⟨⟨by decide +kernel, by decide +kernel⟩, List.mem_of_getElem? (i := 652) (by decide +kernel), List.mem_of_getElem? (i := 833) (by decide +kernel), List.mem_of_getElem? (i := 834) (by decide +kernel)⟩
theorem lw_p37 : lw_okq (⟨"FloorTopsModel", "isWord", "(CCCCI)Z"⟩, 11) := ⟨⟨by decide +kernel, by decide +kernel⟩, List.mem_of_getElem? (i := 652) (by decide +kernel), List.mem_of_getElem? (i := 837) (by decide +kernel), List.mem_of_getElem? (i := 838) (by decide +kernel)⟩
theorem lw_p38 : lw_okq (⟨"FloorTopsModel", "takesNumber", "()Z"⟩, 11) := ⟨⟨by decide +kernel, by decide +kernel⟩, List.mem_of_getElem? (i := 652) (by decide +kernel), List.mem_of_getElem? (i := 841) (by decide +kernel), List.mem_of_getElem? (i := 842) (by decide +kernel)⟩
theorem lw_p39 : lw_okq (⟨"FloorTopsModel", "looks", "(I)I"⟩, 11) := ⟨⟨by decide +kernel, by decide +kernel⟩, List.mem_of_getElem? (i := 652) (by decide +kernel), List.mem_of_getElem? (i := 865) (by decide +kernel), List.mem_of_getElem? (i := 866) (by decide +kernel)⟩
theorem lw_p40 : lw_okq (⟨"FloorTopsModel", "greatestSlack", "(I)I"⟩, 11) := ⟨⟨by decide +kernel, by decide +kernel⟩, List.mem_of_getElem? (i := 652) (by decide +kernel), List.mem_of_getElem? (i := 869) (by decide +kernel), List.mem_of_getElem? (i := 870) (by decide +kernel)⟩
theorem lw_p41 : lw_okq (⟨"FloorTopsModel", "letters", "(II)I"⟩, 11) := ⟨⟨by decide +kernel, by decide +kernel⟩, List.mem_of_getElem? (i := 652) (by decide +kernel), List.mem_of_getElem? (i := 873) (by decide +kernel), List.mem_of_getElem? (i := 874) (by decide +kernel)⟩
theorem lw_p42 : lw_okq (⟨"FloorTopsModel", "upper", "(II)I"⟩, 11) := ⟨⟨by decide +kernel, by decide +kernel⟩, List.mem_of_getElem? (i := 652) (by decide +kernel), List.mem_of_getElem? (i := 881) (by decide +kernel), List.mem_of_getElem? (i := 882) (by decide +kernel)⟩
theorem lw_p43 : lw_okq (⟨"FloorTopsModel", "lower", "(II)I"⟩, 11) := ⟨⟨by decide +kernel, by decide +kernel⟩, List.mem_of_getElem? (i := 652) (by decide +kernel), List.mem_of_getElem? (i := 885) (by decide +kernel), List.mem_of_getElem? (i := 886) (by decide +kernel)⟩
theorem lw_p44 : lw_okq (⟨"FloorTopsModel", "ahead", "(IIZ)I"⟩, 11) := ⟨⟨by decide +kernel, by decide +kernel⟩, List.mem_of_getElem? (i := 652) (by decide +kernel), List.mem_of_getElem? (i := 897) (by decide +kernel), List.mem_of_getElem? (i := 898) (by decide +kernel)⟩
def lw_privs_3 : List (MethodName × Nat) := [(⟨"FloorTopsModel", "arrivals", "()I"⟩, 11), (⟨"FloorTopsModel", "takesArrival", "()Z"⟩, 11), (⟨"FloorTopsModel", "isBetween", "(II)Z"⟩, 11), (⟨"FloorTopsModel", "takes", "(I)Z"⟩, 11), (⟨"FloorTopsModel", "word", "()I"⟩, 11), (⟨"FloorTopsModel", "isWord", "(CCCCI)Z"⟩, 11), (⟨"FloorTopsModel", "takesNumber", "()Z"⟩, 11), (⟨"FloorTopsModel", "looks", "(I)I"⟩, 11), (⟨"FloorTopsModel", "greatestSlack", "(I)I"⟩, 11), (⟨"FloorTopsModel", "letters", "(II)I"⟩, 11), (⟨"FloorTopsModel", "upper", "(II)I"⟩, 11), (⟨"FloorTopsModel", "lower", "(II)I"⟩, 11), (⟨"FloorTopsModel", "ahead", "(IIZ)I"⟩, 11)]
theorem lw_r3 : ∀ q ∈ lw_privs_3, lw_okq q := List.forall_mem_cons.mpr ⟨lw_p32, List.forall_mem_cons.mpr ⟨lw_p33, List.forall_mem_cons.mpr ⟨lw_p34, List.forall_mem_cons.mpr ⟨lw_p35, List.forall_mem_cons.mpr ⟨lw_p36, List.forall_mem_cons.mpr ⟨lw_p37, List.forall_mem_cons.mpr ⟨lw_p38, List.forall_mem_cons.mpr ⟨lw_p39, List.forall_mem_cons.mpr ⟨lw_p40, List.forall_mem_cons.mpr ⟨lw_p41, List.forall_mem_cons.mpr ⟨lw_p42, List.forall_mem_cons.mpr ⟨lw_p43, List.forall_mem_cons.mpr ⟨lw_p44, fun _ h => absurd h List.not_mem_nil⟩⟩⟩⟩⟩⟩⟩⟩⟩⟩⟩⟩⟩
def lw_privs : List (MethodName × Nat) := lw_privs_1 ++ (lw_privs_2 ++ (lw_privs_3))
def lw_tbl : List Cond := k2_sels lw_privs ++ tables_1
theorem lw_privs_ok : ∀ q ∈ lw_privs, lw_okq q := by
  show ∀ q ∈ lw_privs_1 ++ (lw_privs_2 ++ (lw_privs_3)), lw_okq q
  exact List.forall_mem_append.mpr ⟨lw_r1, List.forall_mem_append.mpr ⟨lw_r2, lw_r3⟩⟩

theorem goodIn_r {big : List Cond} (ws : List Cond) (ps : List Nat) (hp : ws = ps.filterMap (fun i => big[i]?)) (h : ws.all goodWord = true) : GoodIn big ws := by
  intro w hw
  have h1 := List.all_eq_true.mp h w hw
  rw [hp] at hw
  obtain ⟨i, -, hi⟩ := List.mem_filterMap.mp hw
  have hm : w ∈ big := by first | exact List.mem_of_getElem? hi | exact List.getElem?_mem hi
  exact ⟨hm, good_of_word h1⟩
theorem goodIn_app {big a b : List Cond} (ha : GoodIn big a) (hb : GoodIn big b) : GoodIn big (a ++ b) := fun w h => (List.mem_append.mp h).elim (ha w) (hb w)
theorem goodIn_ca {big a b : List Cond} {c : Cond} (ha : GoodIn big (c :: a)) (hb : GoodIn big b) : GoodIn big (c :: (a ++ b)) := fun w h => (List.mem_cons.mp h).elim (fun e => ha w (List.mem_cons.mpr (Or.inl e))) (fun h => (List.mem_append.mp h).elim (fun h => ha w (List.mem_cons.mpr (Or.inr h))) (hb w))
theorem goodIn_sub {big ws : List Cond} (hm : ∀ w ∈ ws, w ∈ big) (h : ws.all goodWord = true) : GoodIn big ws := fun w hw => ⟨hm w hw, good_of_word (List.all_eq_true.mp h w hw)⟩

def RX0 : String := "FloorTops$History"
def TX0 : u_T := fun k => match k with
  | 0 => ("FloorTops$History", "states", "[LFloorTops$State;", true)
  | 1 => ("FloorTops$History", "next", "I", false)
  | _ => ("FloorTops$History", "known", "I", false)
def tyX0 : Nat → FieldType := fun k => match k with
  | 0 => .array (.object "FloorTops$State")
  | 1 => .int
  | _ => .int
abbrev wsX00 : List Cond := u_ws RX0 TX0 3
theorem nmX0 : ∀ a, a < 3 → ∀ b, b < 3 → a ≠ b → (TX0 a).2.1 ≠ (TX0 b).2.1 := by decide +kernel
theorem tyX0_ok : ∀ k, k < 3 → parseFieldDescriptor (TX0 k).2.2.1 = some (tyX0 k) := by decide +kernel
abbrev cX0_init : ByteArray := prog_2_method_1_code
def yX0_init : MethodName := ⟨RX0, "<init>", "()V"⟩
abbrev cX0_remember : ByteArray := prog_2_method_2_code
def yX0_remember : MethodName := ⟨RX0, "remember", "(LFloorTops$State;)V"⟩
abbrev cX0_takeBack : ByteArray := prog_2_method_3_code
def yX0_takeBack : MethodName := ⟨RX0, "takeBack", "(LFloorTops$State;)V"⟩
def RX1 : String := "FloorTops$Log"
def TX1 : u_T := fun k => match k with
  | 0 => ("FloorTops$Log", "kinds", "[I", true)
  | 1 => ("FloorTops$Log", "places", "[I", true)
  | 2 => ("FloorTops$Log", "values", "[I", true)
  | 3 => ("FloorTops$Log", "times", "[I", true)
  | 4 => ("FloorTops$Log", "next", "I", false)
  | _ => ("FloorTops$Log", "known", "I", false)
def tyX1 : Nat → FieldType := fun k => match k with
  | 0 => .array .int
  | 1 => .array .int
  | 2 => .array .int
  | 3 => .array .int
  | 4 => .int
  | _ => .int
abbrev wsX10 : List Cond := u_ws RX1 TX1 6
theorem nmX1 : ∀ a, a < 6 → ∀ b, b < 6 → a ≠ b → (TX1 a).2.1 ≠ (TX1 b).2.1 := by decide +kernel
theorem tyX1_ok : ∀ k, k < 6 → parseFieldDescriptor (TX1 k).2.2.1 = some (tyX1 k) := by decide +kernel
abbrev cX1_init : ByteArray := prog_3_method_1_code
def yX1_init : MethodName := ⟨RX1, "<init>", "()V"⟩
abbrev cX1_note : ByteArray := prog_3_method_2_code
def yX1_note : MethodName := ⟨RX1, "note", "(IIII)V"⟩
abbrev cX1_slotOf : ByteArray := prog_3_method_3_code
def yX1_slotOf : MethodName := ⟨RX1, "slotOf", "(I)I"⟩
abbrev cX1_become : ByteArray := prog_3_method_4_code
def yX1_become : MethodName := ⟨RX1, "become", "(LFloorTops$Log;)V"⟩
def RX2 : String := "FloorTops$State"
def TX2 : u_T := fun k => match k with
  | 0 => ("FloorTops$State", "summaries", "[LFloorTops$Summary;", true)
  | 1 => ("FloorTops$State", "window", "LFloorTops$Window;", true)
  | 2 => ("FloorTops$State", "log", "LFloorTops$Log;", true)
  | 3 => ("FloorTops$State", "time", "I", false)
  | 4 => ("FloorTops$State", "evictions", "I", false)
  | _ => ("FloorTops$State", "merges", "I", false)
def tyX2 : Nat → FieldType := fun k => match k with
  | 0 => .array (.object "FloorTops$Summary")
  | 1 => .object "FloorTops$Window"
  | 2 => .object "FloorTops$Log"
  | 3 => .int
  | 4 => .int
  | _ => .int
abbrev wsX20 : List Cond := u_ws RX2 TX2 6
theorem nmX2 : ∀ a, a < 6 → ∀ b, b < 6 → a ≠ b → (TX2 a).2.1 ≠ (TX2 b).2.1 := by decide +kernel
theorem tyX2_ok : ∀ k, k < 6 → parseFieldDescriptor (TX2 k).2.2.1 = some (tyX2 k) := by decide +kernel
abbrev cX2_init : ByteArray := prog_4_method_1_code
def yX2_init : MethodName := ⟨RX2, "<init>", "()V"⟩
abbrev cX2_bring : ByteArray := prog_4_method_2_code
def yX2_bring : MethodName := ⟨RX2, "bring", "(ILFloorTops$Summary;II)V"⟩
abbrev cX2_bringToWindow : ByteArray := prog_4_method_3_code
def yX2_bringToWindow : MethodName := ⟨RX2, "bringToWindow", "(II)V"⟩
abbrev cX2_noteEviction : ByteArray := prog_4_method_4_code
def yX2_noteEviction : MethodName := ⟨RX2, "noteEviction", "(II)V"⟩
abbrev cX2_join : ByteArray := prog_4_method_5_code
def yX2_join : MethodName := ⟨RX2, "join", "(II)I"⟩
abbrev cX2_resize : ByteArray := prog_4_method_6_code
def yX2_resize : MethodName := ⟨RX2, "resize", "(II)I"⟩
abbrev cX2_become : ByteArray := prog_4_method_7_code
def yX2_become : MethodName := ⟨RX2, "become", "(LFloorTops$State;)V"⟩
def RX3 : String := "FloorTops$Summary"
def TX3 : u_T := fun k => match k with
  | 0 => ("FloorTops$Summary", "size", "I", false)
  | 1 => ("FloorTops$Summary", "floor", "I", false)
  | 2 => ("FloorTops$Summary", "sum", "I", false)
  | 3 => ("FloorTops$Summary", "held", "I", false)
  | 4 => ("FloorTops$Summary", "counts", "[I", true)
  | 5 => ("FloorTops$Summary", "slacks", "[I", true)
  | 6 => ("FloorTops$Summary", "times", "[I", true)
  | _ => ("FloorTops$Summary", "came", "[I", true)
def tyX3 : Nat → FieldType := fun k => match k with
  | 0 => .int
  | 1 => .int
  | 2 => .int
  | 3 => .int
  | 4 => .array .int
  | 5 => .array .int
  | 6 => .array .int
  | _ => .array .int
abbrev wsX30 : List Cond := u_ws RX3 TX3 8
theorem nmX3 : ∀ a, a < 8 → ∀ b, b < 8 → a ≠ b → (TX3 a).2.1 ≠ (TX3 b).2.1 := by decide +kernel
theorem tyX3_ok : ∀ k, k < 8 → parseFieldDescriptor (TX3 k).2.2.1 = some (tyX3 k) := by decide +kernel
abbrev cX3_init : ByteArray := prog_5_method_1_code
def yX3_init : MethodName := ⟨RX3, "<init>", "()V"⟩
abbrev cX3_has : ByteArray := prog_5_method_2_code
def yX3_has : MethodName := ⟨RX3, "has", "(I)Z"⟩
abbrev cX3_counters : ByteArray := prog_5_method_3_code
def yX3_counters : MethodName := ⟨RX3, "counters", "()I"⟩
abbrev cX3_upper : ByteArray := prog_5_method_4_code
def yX3_upper : MethodName := ⟨RX3, "upper", "(I)I"⟩
abbrev cX3_lower : ByteArray := prog_5_method_5_code
def yX3_lower : MethodName := ⟨RX3, "lower", "(I)I"⟩
abbrev cX3_slackToMerge : ByteArray := prog_5_method_6_code
def yX3_slackToMerge : MethodName := ⟨RX3, "slackToMerge", "(I)I"⟩
abbrev cX3_needsRoomFor : ByteArray := prog_5_method_7_code
def yX3_needsRoomFor : MethodName := ⟨RX3, "needsRoomFor", "(I)Z"⟩
abbrev cX3_receive : ByteArray := prog_5_method_8_code
def yX3_receive : MethodName := ⟨RX3, "receive", "(III)I"⟩
abbrev cX3_nextEvicted : ByteArray := prog_5_method_9_code
def yX3_nextEvicted : MethodName := ⟨RX3, "nextEvicted", "()I"⟩
abbrev cX3_goesBefore : ByteArray := prog_5_method_10_code
def yX3_goesBefore : MethodName := ⟨RX3, "goesBefore", "(II)Z"⟩
abbrev cX3_evictNext : ByteArray := prog_5_method_11_code
def yX3_evictNext : MethodName := ⟨RX3, "evictNext", "()I"⟩
abbrev cX3_takeCounter : ByteArray := prog_5_method_12_code
def yX3_takeCounter : MethodName := ⟨RX3, "takeCounter", "(I)V"⟩
abbrev cX3_absorb : ByteArray := prog_5_method_13_code
def yX3_absorb : MethodName := ⟨RX3, "absorb", "(LFloorTops$Summary;I)I"⟩
abbrev cX3_leaveOut : ByteArray := prog_5_method_14_code
def yX3_leaveOut : MethodName := ⟨RX3, "leaveOut", "()I"⟩
abbrev cX3_nextLeftOut : ByteArray := prog_5_method_15_code
def yX3_nextLeftOut : MethodName := ⟨RX3, "nextLeftOut", "()I"⟩
abbrev cX3_become : ByteArray := prog_5_method_16_code
def yX3_become : MethodName := ⟨RX3, "become", "(LFloorTops$Summary;)V"⟩
abbrev cX3_wipe : ByteArray := prog_5_method_17_code
def yX3_wipe : MethodName := ⟨RX3, "wipe", "()V"⟩
abbrev cX3_greatestSlack : ByteArray := prog_5_method_18_code
def yX3_greatestSlack : MethodName := ⟨RX3, "greatestSlack", "()I"⟩
abbrev cX3_lettersThatCame : ByteArray := prog_5_method_19_code
def yX3_lettersThatCame : MethodName := ⟨RX3, "lettersThatCame", "()I"⟩
abbrev cX3_letterAt : ByteArray := prog_5_method_20_code
def yX3_letterAt : MethodName := ⟨RX3, "letterAt", "(I)I"⟩
abbrev cX3_placeOf : ByteArray := prog_5_method_21_code
def yX3_placeOf : MethodName := ⟨RX3, "placeOf", "(I)I"⟩
abbrev cX3_lettersAhead : ByteArray := prog_5_method_22_code
def yX3_lettersAhead : MethodName := ⟨RX3, "lettersAhead", "(IZ)I"⟩
def RX4 : String := "FloorTops$Text"
def TX4 : u_T := fun k => match k with
  | 0 => ("FloorTops$Text", "signs", "[C", true)
  | 1 => ("FloorTops$Text", "length", "I", false)
  | 2 => ("FloorTops$Text", "letters", "[I", true)
  | 3 => ("FloorTops$Text", "weights", "[I", true)
  | 4 => ("FloorTops$Text", "arrivals", "I", false)
  | 5 => ("FloorTops$Text", "word", "I", false)
  | 6 => ("FloorTops$Text", "firstNumber", "I", false)
  | 7 => ("FloorTops$Text", "secondNumber", "I", false)
  | _ => ("FloorTops$Text", "at", "I", false)
def tyX4 : Nat → FieldType := fun k => match k with
  | 0 => .array .char
  | 1 => .int
  | 2 => .array .int
  | 3 => .array .int
  | 4 => .int
  | 5 => .int
  | 6 => .int
  | 7 => .int
  | _ => .int
abbrev wsX40 : List Cond := u_ws RX4 TX4 9
theorem nmX4 : ∀ a, a < 9 → ∀ b, b < 9 → a ≠ b → (TX4 a).2.1 ≠ (TX4 b).2.1 := by decide +kernel
theorem tyX4_ok : ∀ k, k < 9 → parseFieldDescriptor (TX4 k).2.2.1 = some (tyX4 k) := by decide +kernel
abbrev cX4_init : ByteArray := prog_6_method_1_code
def yX4_init : MethodName := ⟨RX4, "<init>", "()V"⟩
abbrev cX4_put : ByteArray := prog_6_method_2_code
def yX4_put : MethodName := ⟨RX4, "put", "(C)V"⟩
abbrev cX4_sign : ByteArray := prog_6_method_3_code
def yX4_sign : MethodName := ⟨RX4, "sign", "()C"⟩
abbrev cX4_isDigit : ByteArray := prog_6_method_4_code
def yX4_isDigit : MethodName := ⟨RX4, "isDigit", "()Z"⟩
abbrev cX4_takeDigit : ByteArray := prog_6_method_5_code
def yX4_takeDigit : MethodName := ⟨RX4, "takeDigit", "()I"⟩
abbrev cX4_readArrivals : ByteArray := prog_6_method_6_code
def yX4_readArrivals : MethodName := ⟨RX4, "readArrivals", "()I"⟩
abbrev cX4_readWeight : ByteArray := prog_6_method_7_code
def yX4_readWeight : MethodName := ⟨RX4, "readWeight", "()I"⟩
abbrev cX4_readNumber : ByteArray := prog_6_method_8_code
def yX4_readNumber : MethodName := ⟨RX4, "readNumber", "()I"⟩
abbrev cX4_totalWeight : ByteArray := prog_6_method_9_code
def yX4_totalWeight : MethodName := ⟨RX4, "totalWeight", "()I"⟩
abbrev cX4_readCommand : ByteArray := prog_6_method_10_code
def yX4_readCommand : MethodName := ⟨RX4, "readCommand", "()I"⟩
abbrev cX4_readArgument : ByteArray := prog_6_method_11_code
def yX4_readArgument : MethodName := ⟨RX4, "readArgument", "()I"⟩
abbrev cX4_wordBefore : ByteArray := prog_6_method_12_code
def yX4_wordBefore : MethodName := ⟨RX4, "wordBefore", "(I)I"⟩
abbrev cX4_beginsWith : ByteArray := prog_6_method_13_code
def yX4_beginsWith : MethodName := ⟨RX4, "beginsWith", "(Ljava/lang/String;I)Z"⟩
def RX5 : String := "FloorTops$Window"
def TX5 : u_T := fun k => match k with
  | 0 => ("FloorTops$Window", "blocks", "[LFloorTops$Summary;", true)
  | 1 => ("FloorTops$Window", "present", "I", false)
  | 2 => ("FloorTops$Window", "kept", "I", false)
  | 3 => ("FloorTops$Window", "begun", "I", false)
  | _ => ("FloorTops$Window", "arrivals", "I", false)
def tyX5 : Nat → FieldType := fun k => match k with
  | 0 => .array (.object "FloorTops$Summary")
  | 1 => .int
  | 2 => .int
  | 3 => .int
  | _ => .int
abbrev wsX50 : List Cond := u_ws RX5 TX5 5
theorem nmX5 : ∀ a, a < 5 → ∀ b, b < 5 → a ≠ b → (TX5 a).2.1 ≠ (TX5 b).2.1 := by decide +kernel
theorem tyX5_ok : ∀ k, k < 5 → parseFieldDescriptor (TX5 k).2.2.1 = some (tyX5 k) := by decide +kernel
abbrev cX5_init : ByteArray := prog_7_method_1_code
def yX5_init : MethodName := ⟨RX5, "<init>", "()V"⟩
abbrev cX5_presentBlock : ByteArray := prog_7_method_2_code
def yX5_presentBlock : MethodName := ⟨RX5, "presentBlock", "()LFloorTops$Summary;"⟩
abbrev cX5_blockAt : ByteArray := prog_7_method_3_code
def yX5_blockAt : MethodName := ⟨RX5, "blockAt", "(I)LFloorTops$Summary;"⟩
abbrev cX5_arrivalsOf : ByteArray := prog_7_method_4_code
def yX5_arrivalsOf : MethodName := ⟨RX5, "arrivalsOf", "(I)I"⟩
abbrev cX5_beginBlock : ByteArray := prog_7_method_5_code
def yX5_beginBlock : MethodName := ⟨RX5, "beginBlock", "()V"⟩
abbrev cX5_look : ByteArray := prog_7_method_6_code
def yX5_look : MethodName := ⟨RX5, "look", "(LFloorTops$Summary;I)V"⟩
abbrev cX5_become : ByteArray := prog_7_method_7_code
def yX5_become : MethodName := ⟨RX5, "become", "(LFloorTops$Window;)V"⟩
def RX6 : String := "FloorTops"
def TX6 : u_T := fun k => match k with
  | 0 => ("FloorTops", "now", "LFloorTops$State;", true)
  | 1 => ("FloorTops", "history", "LFloorTops$History;", true)
  | 2 => ("FloorTops", "snapshot", "LFloorTops$State;", true)
  | 3 => ("FloorTops", "snapshotTaken", "Z", false)
  | 4 => ("FloorTops", "text", "LFloorTops$Text;", true)
  | _ => ("FloorTops", "whole", "LFloorTops$Summary;", true)
def tyX6 : Nat → FieldType := fun k => match k with
  | 0 => .object "FloorTops$State"
  | 1 => .object "FloorTops$History"
  | 2 => .object "FloorTops$State"
  | 3 => .boolean
  | 4 => .object "FloorTops$Text"
  | _ => .object "FloorTops$Summary"
abbrev wsX60 : List Cond := u_ws RX6 TX6 6
theorem nmX6 : ∀ a, a < 6 → ∀ b, b < 6 → a ≠ b → (TX6 a).2.1 ≠ (TX6 b).2.1 := by decide +kernel
theorem tyX6_ok : ∀ k, k < 6 → parseFieldDescriptor (TX6 k).2.2.1 = some (tyX6 k) := by decide +kernel
abbrev cX6_init : ByteArray := prog_1_method_1_code
def yX6_init : MethodName := ⟨RX6, "<init>", "()V"⟩
abbrev cX6_arrive : ByteArray := prog_1_method_2_code
def yX6_arrive : MethodName := ⟨RX6, "arrive", "(ICI)I"⟩
abbrev cX6_feed : ByteArray := prog_1_method_3_code
def yX6_feed : MethodName := ⟨RX6, "feed", "(I)I"⟩
abbrev cX6_flow : ByteArray := prog_1_method_4_code
def yX6_flow : MethodName := ⟨RX6, "flow", "(CI)I"⟩
abbrev cX6_flowAll : ByteArray := prog_1_method_5_code
def yX6_flowAll : MethodName := ⟨RX6, "flowAll", "()I"⟩
abbrev cX6_merge : ByteArray := prog_1_method_6_code
def yX6_merge : MethodName := ⟨RX6, "merge", "(II)I"⟩
abbrev cX6_copy : ByteArray := prog_1_method_7_code
def yX6_copy : MethodName := ⟨RX6, "copy", "(II)I"⟩
abbrev cX6_setSize : ByteArray := prog_1_method_8_code
def yX6_setSize : MethodName := ⟨RX6, "setSize", "(II)I"⟩
abbrev cX6_clear : ByteArray := prog_1_method_9_code
def yX6_clear : MethodName := ⟨RX6, "clear", "(I)I"⟩
abbrev cX6_type : ByteArray := prog_1_method_10_code
def yX6_type : MethodName := ⟨RX6, "type", "(C)I"⟩
abbrev cX6_clearText : ByteArray := prog_1_method_11_code
def yX6_clearText : MethodName := ⟨RX6, "clearText", "()I"⟩
abbrev cX6_perform : ByteArray := prog_1_method_12_code
def yX6_perform : MethodName := ⟨RX6, "perform", "()I"⟩
abbrev cX6_undo : ByteArray := prog_1_method_13_code
def yX6_undo : MethodName := ⟨RX6, "undo", "()I"⟩
abbrev cX6_keep : ByteArray := prog_1_method_14_code
def yX6_keep : MethodName := ⟨RX6, "keep", "()I"⟩
abbrev cX6_restore : ByteArray := prog_1_method_15_code
def yX6_restore : MethodName := ⟨RX6, "restore", "()I"⟩
abbrev cX6_summary : ByteArray := prog_1_method_16_code
def yX6_summary : MethodName := ⟨RX6, "summary", "(II)I"⟩
abbrev cX6_bound : ByteArray := prog_1_method_17_code
def yX6_bound : MethodName := ⟨RX6, "bound", "(ICI)I"⟩
abbrev cX6_top : ByteArray := prog_1_method_18_code
def yX6_top : MethodName := ⟨RX6, "top", "(III)I"⟩
abbrev cX6_first : ByteArray := prog_1_method_19_code
def yX6_first : MethodName := ⟨RX6, "first", "(IIZ)I"⟩
abbrev cX6_above : ByteArray := prog_1_method_20_code
def yX6_above : MethodName := ⟨RX6, "above", "(IIZ)I"⟩
abbrev cX6_rank : ByteArray := prog_1_method_21_code
def yX6_rank : MethodName := ⟨RX6, "rank", "(ICZ)I"⟩
abbrev cX6_alike : ByteArray := prog_1_method_22_code
def yX6_alike : MethodName := ⟨RX6, "alike", "(II)I"⟩
abbrev cX6_wouldEvict : ByteArray := prog_1_method_23_code
def yX6_wouldEvict : MethodName := ⟨RX6, "wouldEvict", "(IC)I"⟩
abbrev cX6_block : ByteArray := prog_1_method_24_code
def yX6_block : MethodName := ⟨RX6, "block", "(II)I"⟩
abbrev cX6_event : ByteArray := prog_1_method_25_code
def yX6_event : MethodName := ⟨RX6, "event", "(II)I"⟩
abbrev cX6_count : ByteArray := prog_1_method_26_code
def yX6_count : MethodName := ⟨RX6, "count", "(I)I"⟩
abbrev cX6_isSummary : ByteArray := prog_1_method_27_code
def yX6_isSummary : MethodName := ⟨RX6, "isSummary", "(I)Z"⟩
abbrev cX6_isWeight : ByteArray := prog_1_method_28_code
def yX6_isWeight : MethodName := ⟨RX6, "isWeight", "(I)Z"⟩
abbrev cX6_letterIndex : ByteArray := prog_1_method_29_code
def yX6_letterIndex : MethodName := ⟨RX6, "letterIndex", "(C)I"⟩
abbrev cX6_codeOf : ByteArray := prog_1_method_30_code
def yX6_codeOf : MethodName := ⟨RX6, "codeOf", "(I)I"⟩
abbrev cX6_told : ByteArray := prog_1_method_31_code
def yX6_told : MethodName := ⟨RX6, "told", "(I)LFloorTops$Summary;"⟩
def RX7 : String := "FloorTopsModel"
def TX7 : u_T := fun k => match k with
  | 0 => ("FloorTopsModel", "now", "[I", true)
  | 1 => ("FloorTopsModel", "history", "[I", true)
  | 2 => ("FloorTopsModel", "kept", "I", false)
  | 3 => ("FloorTopsModel", "slot", "[I", true)
  | 4 => ("FloorTopsModel", "isFilled", "Z", false)
  | 5 => ("FloorTopsModel", "typed", "I", false)
  | 6 => ("FloorTopsModel", "text", "[C", true)
  | 7 => ("FloorTopsModel", "at", "I", false)
  | 8 => ("FloorTopsModel", "letter", "I", false)
  | 9 => ("FloorTopsModel", "number", "I", false)
  | _ => ("FloorTopsModel", "weights", "I", false)
def tyX7 : Nat → FieldType := fun k => match k with
  | 0 => .array .int
  | 1 => .array .int
  | 2 => .int
  | 3 => .array .int
  | 4 => .boolean
  | 5 => .int
  | 6 => .array .char
  | 7 => .int
  | 8 => .int
  | 9 => .int
  | _ => .int
abbrev wsX70 : List Cond := u_ws RX7 TX7 11
theorem nmX7 : ∀ a, a < 11 → ∀ b, b < 11 → a ≠ b → (TX7 a).2.1 ≠ (TX7 b).2.1 := by decide +kernel
theorem tyX7_ok : ∀ k, k < 11 → parseFieldDescriptor (TX7 k).2.2.1 = some (tyX7 k) := by decide +kernel
abbrev cX7_init : ByteArray := prog_9_method_1_code
def yX7_init : MethodName := ⟨RX7, "<init>", "()V"⟩
abbrev cX7_in : ByteArray := prog_9_method_2_code
def yX7_in : MethodName := ⟨RX7, "in", "(III)Z"⟩
abbrev cX7_base : ByteArray := prog_9_method_3_code
def yX7_base : MethodName := ⟨RX7, "base", "(I)I"⟩
abbrev cX7_of : ByteArray := prog_9_method_4_code
def yX7_of : MethodName := ⟨RX7, "of", "(II)I"⟩
abbrev cX7_puts : ByteArray := prog_9_method_5_code
def yX7_puts : MethodName := ⟨RX7, "puts", "(III)V"⟩
abbrev cX7_its : ByteArray := prog_9_method_6_code
def yX7_its : MethodName := ⟨RX7, "its", "(III)I"⟩
abbrev cX7_gives : ByteArray := prog_9_method_7_code
def yX7_gives : MethodName := ⟨RX7, "gives", "(IIII)V"⟩
abbrev cX7_has : ByteArray := prog_9_method_8_code
def yX7_has : MethodName := ⟨RX7, "has", "(II)Z"⟩
abbrev cX7_isSummary : ByteArray := prog_9_method_9_code
def yX7_isSummary : MethodName := ⟨RX7, "isSummary", "(I)Z"⟩
abbrev cX7_isLetter : ByteArray := prog_9_method_10_code
def yX7_isLetter : MethodName := ⟨RX7, "isLetter", "(C)Z"⟩
abbrev cX7_counters : ByteArray := prog_9_method_11_code
def yX7_counters : MethodName := ⟨RX7, "counters", "(I)I"⟩
abbrev cX7_record : ByteArray := prog_9_method_12_code
def yX7_record : MethodName := ⟨RX7, "record", "()V"⟩
abbrev cX7_tells : ByteArray := prog_9_method_13_code
def yX7_tells : MethodName := ⟨RX7, "tells", "(III)V"⟩
abbrev cX7_least : ByteArray := prog_9_method_14_code
def yX7_least : MethodName := ⟨RX7, "least", "(I)I"⟩
abbrev cX7_drops : ByteArray := prog_9_method_15_code
def yX7_drops : MethodName := ⟨RX7, "drops", "(II)V"⟩
abbrev cX7_evicts : ByteArray := prog_9_method_16_code
def yX7_evicts : MethodName := ⟨RX7, "evicts", "(I)V"⟩
abbrev cX7_comes : ByteArray := prog_9_method_17_code
def yX7_comes : MethodName := ⟨RX7, "comes", "(III)V"⟩
abbrev cX7_empties : ByteArray := prog_9_method_18_code
def yX7_empties : MethodName := ⟨RX7, "empties", "(I)V"⟩
abbrev cX7_copies : ByteArray := prog_9_method_19_code
def yX7_copies : MethodName := ⟨RX7, "copies", "(II)V"⟩
abbrev cX7_joins : ByteArray := prog_9_method_20_code
def yX7_joins : MethodName := ⟨RX7, "joins", "(II)I"⟩
abbrev cX7_arrive : ByteArray := prog_9_method_21_code
def yX7_arrive : MethodName := ⟨RX7, "arrive", "(ICI)I"⟩
abbrev cX7_present : ByteArray := prog_9_method_22_code
def yX7_present : MethodName := ⟨RX7, "present", "()I"⟩
abbrev cX7_flows : ByteArray := prog_9_method_23_code
def yX7_flows : MethodName := ⟨RX7, "flows", "(II)V"⟩
abbrev cX7_flow : ByteArray := prog_9_method_24_code
def yX7_flow : MethodName := ⟨RX7, "flow", "(CI)I"⟩
abbrev cX7_merge : ByteArray := prog_9_method_25_code
def yX7_merge : MethodName := ⟨RX7, "merge", "(II)I"⟩
abbrev cX7_copy : ByteArray := prog_9_method_26_code
def yX7_copy : MethodName := ⟨RX7, "copy", "(II)I"⟩
abbrev cX7_setSize : ByteArray := prog_9_method_27_code
def yX7_setSize : MethodName := ⟨RX7, "setSize", "(II)I"⟩
abbrev cX7_clear : ByteArray := prog_9_method_28_code
def yX7_clear : MethodName := ⟨RX7, "clear", "(I)I"⟩
abbrev cX7_type : ByteArray := prog_9_method_29_code
def yX7_type : MethodName := ⟨RX7, "type", "(C)I"⟩
abbrev cX7_clearText : ByteArray := prog_9_method_30_code
def yX7_clearText : MethodName := ⟨RX7, "clearText", "()I"⟩
abbrev cX7_isBetween : ByteArray := prog_9_method_31_code
def yX7_isBetween : MethodName := ⟨RX7, "isBetween", "(II)Z"⟩
abbrev cX7_takes : ByteArray := prog_9_method_32_code
def yX7_takes : MethodName := ⟨RX7, "takes", "(I)Z"⟩
abbrev cX7_takesArrival : ByteArray := prog_9_method_33_code
def yX7_takesArrival : MethodName := ⟨RX7, "takesArrival", "()Z"⟩
abbrev cX7_arrivals : ByteArray := prog_9_method_34_code
def yX7_arrivals : MethodName := ⟨RX7, "arrivals", "()I"⟩
abbrev cX7_feed : ByteArray := prog_9_method_35_code
def yX7_feed : MethodName := ⟨RX7, "feed", "(I)I"⟩
abbrev cX7_flowAll : ByteArray := prog_9_method_36_code
def yX7_flowAll : MethodName := ⟨RX7, "flowAll", "()I"⟩
abbrev cX7_isWord : ByteArray := prog_9_method_37_code
def yX7_isWord : MethodName := ⟨RX7, "isWord", "(CCCCI)Z"⟩
abbrev cX7_word : ByteArray := prog_9_method_38_code
def yX7_word : MethodName := ⟨RX7, "word", "()I"⟩
abbrev cX7_takesNumber : ByteArray := prog_9_method_39_code
def yX7_takesNumber : MethodName := ⟨RX7, "takesNumber", "()Z"⟩
abbrev cX7_perform : ByteArray := prog_9_method_40_code
def yX7_perform : MethodName := ⟨RX7, "perform", "()I"⟩
abbrev cX7_undo : ByteArray := prog_9_method_41_code
def yX7_undo : MethodName := ⟨RX7, "undo", "()I"⟩
abbrev cX7_keep : ByteArray := prog_9_method_42_code
def yX7_keep : MethodName := ⟨RX7, "keep", "()I"⟩
abbrev cX7_restore : ByteArray := prog_9_method_43_code
def yX7_restore : MethodName := ⟨RX7, "restore", "()I"⟩
abbrev cX7_looks : ByteArray := prog_9_method_44_code
def yX7_looks : MethodName := ⟨RX7, "looks", "(I)I"⟩
abbrev cX7_greatestSlack : ByteArray := prog_9_method_45_code
def yX7_greatestSlack : MethodName := ⟨RX7, "greatestSlack", "(I)I"⟩
abbrev cX7_letters : ByteArray := prog_9_method_46_code
def yX7_letters : MethodName := ⟨RX7, "letters", "(II)I"⟩
abbrev cX7_summary : ByteArray := prog_9_method_47_code
def yX7_summary : MethodName := ⟨RX7, "summary", "(II)I"⟩
abbrev cX7_upper : ByteArray := prog_9_method_48_code
def yX7_upper : MethodName := ⟨RX7, "upper", "(II)I"⟩
abbrev cX7_lower : ByteArray := prog_9_method_49_code
def yX7_lower : MethodName := ⟨RX7, "lower", "(II)I"⟩
abbrev cX7_bound : ByteArray := prog_9_method_50_code
def yX7_bound : MethodName := ⟨RX7, "bound", "(ICI)I"⟩
abbrev cX7_top : ByteArray := prog_9_method_51_code
def yX7_top : MethodName := ⟨RX7, "top", "(III)I"⟩
abbrev cX7_ahead : ByteArray := prog_9_method_52_code
def yX7_ahead : MethodName := ⟨RX7, "ahead", "(IIZ)I"⟩
abbrev cX7_first : ByteArray := prog_9_method_53_code
def yX7_first : MethodName := ⟨RX7, "first", "(IIZ)I"⟩
abbrev cX7_above : ByteArray := prog_9_method_54_code
def yX7_above : MethodName := ⟨RX7, "above", "(IIZ)I"⟩
abbrev cX7_rank : ByteArray := prog_9_method_55_code
def yX7_rank : MethodName := ⟨RX7, "rank", "(ICZ)I"⟩
abbrev cX7_alike : ByteArray := prog_9_method_56_code
def yX7_alike : MethodName := ⟨RX7, "alike", "(II)I"⟩
abbrev cX7_wouldEvict : ByteArray := prog_9_method_57_code
def yX7_wouldEvict : MethodName := ⟨RX7, "wouldEvict", "(IC)I"⟩
abbrev cX7_block : ByteArray := prog_9_method_58_code
def yX7_block : MethodName := ⟨RX7, "block", "(II)I"⟩
abbrev cX7_event : ByteArray := prog_9_method_59_code
def yX7_event : MethodName := ⟨RX7, "event", "(II)I"⟩
abbrev cX7_count : ByteArray := prog_9_method_60_code
def yX7_count : MethodName := ⟨RX7, "count", "(I)I"⟩
def RJ6 : String := "java/lang/Integer"
def TJ6 : u_T := fun k => match k with
  | _ => ("", "", "", false)
def tyJ6 : Nat → FieldType := fun k => match k with
  | _ => .int
abbrev wsJ60 : List Cond := u_ws RJ6 TJ6 0
theorem nmJ6 : ∀ a, a < 0 → ∀ b, b < 0 → a ≠ b → (TJ6 a).2.1 ≠ (TJ6 b).2.1 := by decide +kernel
theorem tyJ6_ok : ∀ k, k < 0 → parseFieldDescriptor (TJ6 k).2.2.1 = some (tyJ6 k) := by decide +kernel
abbrev cJ6_bitCount_0f7a4 : ByteArray := prog_10_method_49_code
def yJ6_bitCount_0f7a4 : MethodName := ⟨RJ6, "bitCount", "(I)I"⟩
def RJ9 : String := "java/lang/Math"
def TJ9 : u_T := fun k => match k with
  | _ => ("", "", "", false)
def tyJ9 : Nat → FieldType := fun k => match k with
  | _ => .int
abbrev wsJ90 : List Cond := u_ws RJ9 TJ9 0
theorem nmJ9 : ∀ a, a < 0 → ∀ b, b < 0 → a ≠ b → (TJ9 a).2.1 ≠ (TJ9 b).2.1 := by decide +kernel
theorem tyJ9_ok : ∀ k, k < 0 → parseFieldDescriptor (TJ9 k).2.2.1 = some (tyJ9 k) := by decide +kernel
abbrev cJ9_max_7cf53 : ByteArray := prog_11_method_65_code
def yJ9_max_7cf53 : MethodName := ⟨RJ9, "max", "(II)I"⟩
abbrev cJ9_min_7cf53 : ByteArray := prog_11_method_69_code
def yJ9_min_7cf53 : MethodName := ⟨RJ9, "min", "(II)I"⟩
def RJ0 : String := "java/lang/String"
def TJ0 : u_T := fun k => match k with
  | _ => ("", "", "", false)
def tyJ0 : Nat → FieldType := fun k => match k with
  | _ => .int
abbrev wsJ00 : List Cond := u_ws RJ0 TJ0 0
theorem nmJ0 : ∀ a, a < 0 → ∀ b, b < 0 → a ≠ b → (TJ0 a).2.1 ≠ (TJ0 b).2.1 := by decide +kernel
theorem tyJ0_ok : ∀ k, k < 0 → parseFieldDescriptor (TJ0 k).2.2.1 = some (tyJ0 k) := by decide +kernel
abbrev cJ0_length_8abf5 : ByteArray := prog_12_method_54_code
def yJ0_length_8abf5 : MethodName := ⟨RJ0, "length", "()I"⟩
abbrev cJ0_charAt_5068e : ByteArray := prog_12_method_56_code
def yJ0_charAt_5068e : MethodName := ⟨RJ0, "charAt", "(I)C"⟩
abbrev cJ0_coder_7d493 : ByteArray := prog_12_method_152_code
def yJ0_coder_7d493 : MethodName := ⟨RJ0, "coder", "()B"⟩
abbrev cJ0_isLatin1_aae02 : ByteArray := prog_12_method_154_code
def yJ0_isLatin1_aae02 : MethodName := ⟨RJ0, "isLatin1", "()Z"⟩
abbrev cJ0_checkIndex_df160 : ByteArray := prog_12_method_155_code
def yJ0_checkIndex_df160 : MethodName := ⟨RJ0, "checkIndex", "(II)V"⟩
def RJ1 : String := "java/lang/StringLatin1"
def TJ1 : u_T := fun k => match k with
  | _ => ("", "", "", false)
def tyJ1 : Nat → FieldType := fun k => match k with
  | _ => .int
abbrev wsJ10 : List Cond := u_ws RJ1 TJ1 0
theorem nmJ1 : ∀ a, a < 0 → ∀ b, b < 0 → a ≠ b → (TJ1 a).2.1 ≠ (TJ1 b).2.1 := by decide +kernel
theorem tyJ1_ok : ∀ k, k < 0 → parseFieldDescriptor (TJ1 k).2.2.1 = some (tyJ1 k) := by decide +kernel
abbrev cJ1_charAt_3b067 : ByteArray := prog_13_method_2_code
def yJ1_charAt_3b067 : MethodName := ⟨RJ1, "charAt", "([BI)C"⟩
def RJ2 : String := "java/lang/StringUTF16"
def TJ2 : u_T := fun k => match k with
  | _ => ("", "", "", false)
def tyJ2 : Nat → FieldType := fun k => match k with
  | _ => .int
abbrev wsJ20 : List Cond := u_ws RJ2 TJ2 0
theorem nmJ2 : ∀ a, a < 0 → ∀ b, b < 0 → a ≠ b → (TJ2 a).2.1 ≠ (TJ2 b).2.1 := by decide +kernel
theorem tyJ2_ok : ∀ k, k < 0 → parseFieldDescriptor (TJ2 k).2.2.1 = some (tyJ2 k) := by decide +kernel
abbrev cJ2_getChar_3b067 : ByteArray := prog_14_method_5_code
def yJ2_getChar_3b067 : MethodName := ⟨RJ2, "getChar", "([BI)C"⟩
abbrev cJ2_length_9d52b : ByteArray := prog_14_method_6_code
def yJ2_length_9d52b : MethodName := ⟨RJ2, "length", "([B)I"⟩
abbrev cJ2_charAt_3b067 : ByteArray := prog_14_method_83_code
def yJ2_charAt_3b067 : MethodName := ⟨RJ2, "charAt", "([BI)C"⟩
abbrev cJ2_checkIndex_2214a : ByteArray := prog_14_method_91_code
def yJ2_checkIndex_2214a : MethodName := ⟨RJ2, "checkIndex", "(I[B)V"⟩
def RJ10 : String := "java/lang/System"
def TJ10 : u_T := fun k => match k with
  | _ => ("", "", "", false)
def tyJ10 : Nat → FieldType := fun k => match k with
  | _ => .int
abbrev wsJ100 : List Cond := u_ws RJ10 TJ10 0
theorem nmJ10 : ∀ a, a < 0 → ∀ b, b < 0 → a ≠ b → (TJ10 a).2.1 ≠ (TJ10 b).2.1 := by decide +kernel
theorem tyJ10_ok : ∀ k, k < 0 → parseFieldDescriptor (TJ10 k).2.2.1 = some (tyJ10 k) := by decide +kernel
def RJ3 : String := "jdk/internal/util/Preconditions"
def TJ3 : u_T := fun k => match k with
  | _ => ("", "", "", false)
def tyJ3 : Nat → FieldType := fun k => match k with
  | _ => .int
abbrev wsJ30 : List Cond := u_ws RJ3 TJ3 0
theorem nmJ3 : ∀ a, a < 0 → ∀ b, b < 0 → a ≠ b → (TJ3 a).2.1 ≠ (TJ3 b).2.1 := by decide +kernel
theorem tyJ3_ok : ∀ k, k < 0 → parseFieldDescriptor (TJ3 k).2.2.1 = some (tyJ3 k) := by decide +kernel
abbrev cJ3_checkIndex_8e157 : ByteArray := prog_16_method_11_code
def yJ3_checkIndex_8e157 : MethodName := ⟨RJ3, "checkIndex", "(IILjava/util/function/BiFunction;)I"⟩
def RL : String := "FloorTopsLaw"
abbrev cL_law : ByteArray := code
def yL_law : MethodName := ⟨RL, "law", "([I)Z"⟩
def wsL_law_r1 : List Cond := [Cond.classLink RL 7 RX6, Cond.instantiable RX6 6, Cond.initialized RX6, Cond.classLink RL 10 RX7, Cond.instantiable RX7 11, Cond.initialized RX7, Cond.methodLink RL 9 yX6_init, Cond.instanceMethod yX6_init, Cond.code yX6_init cX6_init 1 none, Cond.methodLink RX6 1 objectInit, Cond.instanceMethod objectInit, Cond.code objectInit ⟨#[0xb1]⟩ 1 none, Cond.classLink RX6 7 RX2, Cond.instantiable RX2 6, Cond.initialized RX2, Cond.fieldLink RX6 10 "FloorTops" "now" "LFloorTops$State;", Cond.classLink RX6 16 RX0, Cond.instantiable RX0 3, Cond.initialized RX0, Cond.fieldLink RX6 19 "FloorTops" "history" "LFloorTops$History;", Cond.fieldLink RX6 23 "FloorTops" "snapshot" "LFloorTops$State;", Cond.fieldLink RX6 26 "FloorTops" "snapshotTaken" "Z", Cond.classLink RX6 30 RX4, Cond.instantiable RX4 9]
def wsL_law_r2 : List Cond := [Cond.initialized RX4, Cond.fieldLink RX6 33 "FloorTops" "text" "LFloorTops$Text;", Cond.classLink RX6 37 RX3, Cond.instantiable RX3 8, Cond.initialized RX3, Cond.fieldLink RX6 40 "FloorTops" "whole" "LFloorTops$Summary;", Cond.methodLink RX6 9 yX2_init, Cond.instanceMethod yX2_init, Cond.code yX2_init cX2_init 2 none, Cond.methodLink RX2 3 objectInit, Cond.classLink RX2 9 RX3, Cond.fieldLink RX2 11 "FloorTops$State" "summaries" "[LFloorTops$Summary;", Cond.classLink RX2 17 RX5, Cond.instantiable RX5 5, Cond.initialized RX5, Cond.fieldLink RX2 20 "FloorTops$State" "window" "LFloorTops$Window;", Cond.classLink RX2 24 RX1, Cond.instantiable RX1 6, Cond.initialized RX1, Cond.fieldLink RX2 27 "FloorTops$State" "log" "LFloorTops$Log;", Cond.fieldLink RX2 31 "FloorTops$State" "time" "I", Cond.fieldLink RX2 35 "FloorTops$State" "evictions" "I", Cond.fieldLink RX2 38 "FloorTops$State" "merges" "I", Cond.methodLink RX2 19 yX5_init]
def wsL_law_r3 : List Cond := [Cond.instanceMethod yX5_init, Cond.code yX5_init cX5_init 2 none, Cond.methodLink RX5 3 objectInit, Cond.classLink RX5 9 RX3, Cond.fieldLink RX5 11 "FloorTops$Window" "blocks" "[LFloorTops$Summary;", Cond.fieldLink RX5 17 "FloorTops$Window" "present" "I", Cond.fieldLink RX5 21 "FloorTops$Window" "kept" "I", Cond.fieldLink RX5 24 "FloorTops$Window" "begun" "I", Cond.fieldLink RX5 27 "FloorTops$Window" "arrivals" "I", Cond.instanceMethod yX3_init, Cond.code yX3_init cX3_init 1 none, Cond.methodLink RX3 3 objectInit, Cond.fieldLink RX3 9 "FloorTops$Summary" "size" "I", Cond.fieldLink RX3 15 "FloorTops$Summary" "floor" "I", Cond.fieldLink RX3 18 "FloorTops$Summary" "sum" "I", Cond.fieldLink RX3 21 "FloorTops$Summary" "held" "I", Cond.arrayClass .int, Cond.fieldLink RX3 24 "FloorTops$Summary" "counts" "[I", Cond.fieldLink RX3 28 "FloorTops$Summary" "slacks" "[I", Cond.fieldLink RX3 31 "FloorTops$Summary" "times" "[I", Cond.fieldLink RX3 34 "FloorTops$Summary" "came" "[I", Cond.instanceMethod yX1_init, Cond.code yX1_init cX1_init 1 none, Cond.methodLink RX1 3 objectInit]
def wsL_law_r4 : List Cond := [Cond.fieldLink RX1 9 "FloorTops$Log" "kinds" "[I", Cond.fieldLink RX1 15 "FloorTops$Log" "places" "[I", Cond.fieldLink RX1 18 "FloorTops$Log" "values" "[I", Cond.fieldLink RX1 21 "FloorTops$Log" "times" "[I", Cond.fieldLink RX1 24 "FloorTops$Log" "next" "I", Cond.fieldLink RX1 28 "FloorTops$Log" "known" "I", Cond.methodLink RX6 18 yX0_init, Cond.instanceMethod yX0_init, Cond.code yX0_init cX0_init 2 none, Cond.methodLink RX0 3 objectInit, Cond.classLink RX0 9 RX2, Cond.fieldLink RX0 11 "FloorTops$History" "states" "[LFloorTops$State;", Cond.fieldLink RX0 17 "FloorTops$History" "next" "I", Cond.fieldLink RX0 21 "FloorTops$History" "known" "I", Cond.methodLink RX0 24 yX2_init, Cond.instanceMethod yX4_init, Cond.code yX4_init cX4_init 1 none, Cond.methodLink RX4 3 objectInit, Cond.arrayClass .char, Cond.fieldLink RX4 9 "FloorTops$Text" "signs" "[C", Cond.fieldLink RX4 15 "FloorTops$Text" "length" "I", Cond.fieldLink RX4 19 "FloorTops$Text" "letters" "[I", Cond.fieldLink RX4 23 "FloorTops$Text" "weights" "[I", Cond.fieldLink RX4 26 "FloorTops$Text" "arrivals" "I"]
def wsL_law_r5 : List Cond := [Cond.fieldLink RX4 29 "FloorTops$Text" "word" "I", Cond.fieldLink RX4 32 "FloorTops$Text" "firstNumber" "I", Cond.fieldLink RX4 35 "FloorTops$Text" "secondNumber" "I", Cond.fieldLink RX4 38 "FloorTops$Text" "at" "I", Cond.methodLink RL 12 yX7_init, Cond.instanceMethod yX7_init, Cond.code yX7_init cX7_init 2 none, Cond.methodLink RX7 1 objectInit, Cond.fieldLink RX7 7 "FloorTopsModel" "now" "[I", Cond.fieldLink RX7 13 "FloorTopsModel" "history" "[I", Cond.fieldLink RX7 16 "FloorTopsModel" "slot" "[I", Cond.fieldLink RX7 19 "FloorTopsModel" "text" "[C", Cond.methodLink RX7 23 yX7_puts, Cond.instanceMethod yX7_puts, Cond.selects RX7 yX7_puts yX7_puts, Cond.code yX7_puts cX7_puts 4 none, Cond.methodLink RX7 27 yX7_base, Cond.static yX7_base, Cond.code yX7_base cX7_base 1 (some .int), Cond.methodLink RL 13 yX6_arrive, Cond.instanceMethod yX6_arrive, Cond.selects RX6 yX6_arrive yX6_arrive, Cond.code yX6_arrive cX6_arrive 6 (some .int), Cond.fieldLink RX6 55 "FloorTops$State" "summaries" "[LFloorTops$Summary;"]
def wsL_law_r6 : List Cond := [Cond.fieldLink RX6 59 "FloorTops$Summary" "sum" "I", Cond.constant RX6 63 (1000000), Cond.methodLink RX6 44 yX6_letterIndex, Cond.static yX6_letterIndex, Cond.code yX6_letterIndex cX6_letterIndex 1 (some .int), Cond.methodLink RX6 48 yX6_isSummary, Cond.static yX6_isSummary, Cond.code yX6_isSummary cX6_isSummary 1 (some .boolean), Cond.methodLink RX6 52 yX6_isWeight, Cond.static yX6_isWeight, Cond.code yX6_isWeight cX6_isWeight 1 (some .boolean), Cond.methodLink RX6 64 yX0_remember, Cond.instanceMethod yX0_remember, Cond.selects RX0 yX0_remember yX0_remember, Cond.code yX0_remember cX0_remember 2 none, Cond.methodLink RX0 29 Lib.Math.min.name, Cond.static Lib.Math.min.name, Cond.initialized "java/lang/Math", Cond.code Lib.Math.min.name Lib.Math.min.code 2 (some .int), Cond.methodLink RX0 25 yX2_become, Cond.instanceMethod yX2_become, Cond.selects RX2 yX2_become yX2_become, Cond.code yX2_become cX2_become 3 none, Cond.methodLink RX2 92 yX3_become]
def wsL_law_r7 : List Cond := [Cond.instanceMethod yX3_become, Cond.selects RX3 yX3_become yX3_become, Cond.code yX3_become cX3_become 2 none, Cond.methodLink RX3 86 arraycopyName, Cond.native arraycopyName, Cond.static arraycopyName, Cond.initialized "java/lang/System", Cond.methodLink RX2 96 yX5_become, Cond.instanceMethod yX5_become, Cond.selects RX5 yX5_become yX5_become, Cond.code yX5_become cX5_become 3 none, Cond.methodLink RX5 48 yX3_become, Cond.methodLink RX2 99 yX1_become, Cond.instanceMethod yX1_become, Cond.selects RX1 yX1_become yX1_become, Cond.code yX1_become cX1_become 2 none, Cond.methodLink RX1 37 arraycopyName, Cond.methodLink RX6 68 yX2_bring, Cond.instanceMethod yX2_bring, Cond.selects RX2 yX2_bring yX2_bring, Cond.code yX2_bring cX2_bring 5 none, Cond.methodLink RX2 42 yX3_receive, Cond.instanceMethod yX3_receive, Cond.selects RX3 yX3_receive yX3_receive]
def wsL_law_r8 : List Cond := [Cond.code yX3_receive cX3_receive 5 (some .int), Cond.methodLink RX3 43 yX3_has, Cond.instanceMethod yX3_has, Cond.selects RX3 yX3_has yX3_has, Cond.code yX3_has cX3_has 2 (some .boolean), Cond.methodLink RX3 51 yX3_needsRoomFor, Cond.instanceMethod yX3_needsRoomFor, Cond.selects RX3 yX3_needsRoomFor yX3_needsRoomFor, Cond.code yX3_needsRoomFor cX3_needsRoomFor 2 (some .boolean), Cond.methodLink RX3 47 yX3_counters, Cond.instanceMethod yX3_counters, Cond.selects RX3 yX3_counters yX3_counters, Cond.code yX3_counters cX3_counters 1 (some .int), Cond.methodLink RX3 37 yJ6_bitCount_0f7a4, Cond.static yJ6_bitCount_0f7a4, Cond.initialized RJ6, Cond.code yJ6_bitCount_0f7a4 cJ6_bitCount_0f7a4 1 (some .int), Cond.constant RJ6 265 (1431655765), Cond.constant RJ6 266 (858993459), Cond.constant RJ6 267 (252645135), Cond.methodLink RX3 54 yX3_evictNext, Cond.instanceMethod yX3_evictNext, Cond.selects RX3 yX3_evictNext yX3_evictNext, Cond.code yX3_evictNext cX3_evictNext 2 (some .int)]
def wsL_law_r9 : List Cond := [Cond.methodLink RX3 61 yX3_nextEvicted, Cond.instanceMethod yX3_nextEvicted, Cond.selects RX3 yX3_nextEvicted yX3_nextEvicted, Cond.code yX3_nextEvicted cX3_nextEvicted 3 (some .int), Cond.methodLink RX3 57 yX3_goesBefore, Cond.instanceMethod yX3_goesBefore, Cond.selects RX3 yX3_goesBefore yX3_goesBefore, Cond.code yX3_goesBefore cX3_goesBefore 3 (some .boolean), Cond.methodLink RX3 64 yX3_takeCounter, Cond.instanceMethod yX3_takeCounter, Cond.selects RX3 yX3_takeCounter yX3_takeCounter, Cond.code yX3_takeCounter cX3_takeCounter 2 none, Cond.methodLink RX3 68 Lib.Math.max.name, Cond.static Lib.Math.max.name, Cond.code Lib.Math.max.name Lib.Math.max.code 2 (some .int), Cond.methodLink RX2 46 yX2_noteEviction, Cond.instanceMethod yX2_noteEviction, Cond.selects RX2 yX2_noteEviction yX2_noteEviction, Cond.code yX2_noteEviction cX2_noteEviction 3 none, Cond.static yX6_codeOf, Cond.code yX6_codeOf cX6_codeOf 1 (some .int), Cond.methodLink RX2 59 yX1_note, Cond.instanceMethod yX1_note, Cond.selects RX1 yX1_note yX1_note]
def wsL_law_r10 : List Cond := [Cond.code yX1_note cX1_note 6 none, Cond.methodLink RX1 31 Lib.Math.min.name, Cond.methodLink RX6 72 yX3_upper, Cond.instanceMethod yX3_upper, Cond.selects RX3 yX3_upper yX3_upper, Cond.code yX3_upper cX3_upper 2 (some .int), Cond.methodLink RL 17 yX7_arrive, Cond.instanceMethod yX7_arrive, Cond.selects RX7 yX7_arrive yX7_arrive, Cond.code yX7_arrive cX7_arrive 4 (some .int), Cond.constant RX7 80 (1000000), Cond.methodLink RX7 72 yX7_isSummary, Cond.static yX7_isSummary, Cond.code yX7_isSummary cX7_isSummary 1 (some .boolean), Cond.methodLink RX7 35 yX7_in, Cond.static yX7_in, Cond.code yX7_in cX7_in 3 (some .boolean), Cond.methodLink RX7 76 yX7_isLetter, Cond.static yX7_isLetter, Cond.code yX7_isLetter cX7_isLetter 1 (some .boolean), Cond.methodLink RX7 47 yX7_of, Cond.instanceMethod yX7_of, Cond.selects RX7 yX7_of yX7_of, Cond.code yX7_of cX7_of 3 (some .int)]
def wsL_law_r11 : List Cond := [Cond.methodLink RX7 81 yX7_record, Cond.instanceMethod yX7_record, Cond.selects RX7 yX7_record yX7_record, Cond.code yX7_record cX7_record 2 none, Cond.fieldLink RX7 39 "FloorTopsModel" "kept" "I", Cond.methodLink RX7 84 yX7_comes, Cond.instanceMethod yX7_comes, Cond.selects RX7 yX7_comes yX7_comes, Cond.code yX7_comes cX7_comes 4 none, Cond.methodLink RX7 31 yX7_its, Cond.instanceMethod yX7_its, Cond.selects RX7 yX7_its yX7_its, Cond.code yX7_its cX7_its 4 (some .int), Cond.methodLink RX7 51 yX7_gives, Cond.instanceMethod yX7_gives, Cond.selects RX7 yX7_gives yX7_gives, Cond.code yX7_gives cX7_gives 5 none, Cond.methodLink RX7 43 yX7_has, Cond.instanceMethod yX7_has, Cond.selects RX7 yX7_has yX7_has, Cond.code yX7_has cX7_has 3 (some .boolean), Cond.methodLink RX7 65 yX7_counters, Cond.instanceMethod yX7_counters, Cond.selects RX7 yX7_counters yX7_counters]
def wsL_law_r12 : List Cond := [Cond.code yX7_counters cX7_counters 4 (some .int), Cond.methodLink RX7 68 yX7_evicts, Cond.instanceMethod yX7_evicts, Cond.selects RX7 yX7_evicts yX7_evicts, Cond.code yX7_evicts cX7_evicts 3 none, Cond.methodLink RX7 55 yX7_least, Cond.instanceMethod yX7_least, Cond.selects RX7 yX7_least yX7_least, Cond.code yX7_least cX7_least 5 (some .int), Cond.methodLink RX7 58 yX7_drops, Cond.instanceMethod yX7_drops, Cond.selects RX7 yX7_drops yX7_drops, Cond.code yX7_drops cX7_drops 4 none, Cond.methodLink RX7 62 yX7_tells, Cond.instanceMethod yX7_tells, Cond.selects RX7 yX7_tells yX7_tells, Cond.code yX7_tells cX7_tells 5 none, Cond.methodLink RL 18 yX6_feed, Cond.instanceMethod yX6_feed, Cond.selects RX6 yX6_feed yX6_feed, Cond.code yX6_feed cX6_feed 5 (some .int), Cond.fieldLink RX6 83 "FloorTops$Text" "arrivals" "I", Cond.fieldLink RX6 86 "FloorTops$Text" "letters" "[I", Cond.fieldLink RX6 90 "FloorTops$Text" "weights" "[I"]
def wsL_law_r13 : List Cond := [Cond.methodLink RX6 76 yX4_readArrivals, Cond.instanceMethod yX4_readArrivals, Cond.selects RX4 yX4_readArrivals yX4_readArrivals, Cond.code yX4_readArrivals cX4_readArrivals 4 (some .int), Cond.methodLink RX4 41 yX4_sign, Cond.instanceMethod yX4_sign, Cond.selects RX4 yX4_sign yX4_sign, Cond.code yX4_sign cX4_sign 1 (some .char), Cond.methodLink RX4 49 yX4_readWeight, Cond.instanceMethod yX4_readWeight, Cond.selects RX4 yX4_readWeight yX4_readWeight, Cond.code yX4_readWeight cX4_readWeight 1 (some .int), Cond.methodLink RX4 53 yX4_isDigit, Cond.instanceMethod yX4_isDigit, Cond.selects RX4 yX4_isDigit yX4_isDigit, Cond.code yX4_isDigit cX4_isDigit 1 (some .boolean), Cond.methodLink RX4 57 yX4_readNumber, Cond.instanceMethod yX4_readNumber, Cond.selects RX4 yX4_readNumber yX4_readNumber, Cond.code yX4_readNumber cX4_readNumber 2 (some .int), Cond.methodLink RX4 60 yX4_takeDigit, Cond.instanceMethod yX4_takeDigit, Cond.selects RX4 yX4_takeDigit yX4_takeDigit, Cond.code yX4_takeDigit cX4_takeDigit 2 (some .int)]
def wsL_law_r14 : List Cond := [Cond.methodLink RX6 80 yX4_totalWeight, Cond.instanceMethod yX4_totalWeight, Cond.selects RX4 yX4_totalWeight yX4_totalWeight, Cond.code yX4_totalWeight cX4_totalWeight 3 (some .int), Cond.methodLink RL 22 yX7_feed, Cond.instanceMethod yX7_feed, Cond.selects RX7 yX7_feed yX7_feed, Cond.code yX7_feed cX7_feed 4 (some .int), Cond.fieldLink RX7 106 "FloorTopsModel" "at" "I", Cond.fieldLink RX7 118 "FloorTopsModel" "weights" "I", Cond.fieldLink RX7 112 "FloorTopsModel" "letter" "I", Cond.fieldLink RX7 115 "FloorTopsModel" "number" "I", Cond.methodLink RX7 128 yX7_arrivals, Cond.instanceMethod yX7_arrivals, Cond.selects RX7 yX7_arrivals yX7_arrivals, Cond.code yX7_arrivals cX7_arrivals 3 (some .int), Cond.fieldLink RX7 103 "FloorTopsModel" "typed" "I", Cond.methodLink RX7 121 yX7_takesArrival, Cond.instanceMethod yX7_takesArrival, Cond.selects RX7 yX7_takesArrival yX7_takesArrival, Cond.code yX7_takesArrival cX7_takesArrival 1 (some .boolean), Cond.methodLink RX7 109 yX7_isBetween, Cond.instanceMethod yX7_isBetween, Cond.selects RX7 yX7_isBetween yX7_isBetween]
def wsL_law_r15 : List Cond := [Cond.code yX7_isBetween cX7_isBetween 3 (some .boolean), Cond.methodLink RX7 125 yX7_takes, Cond.instanceMethod yX7_takes, Cond.selects RX7 yX7_takes yX7_takes, Cond.code yX7_takes cX7_takes 3 (some .boolean), Cond.methodLink RL 23 yX6_flow, Cond.instanceMethod yX6_flow, Cond.selects RX6 yX6_flow yX6_flow, Cond.code yX6_flow cX6_flow 4 (some .int), Cond.fieldLink RX6 97 "FloorTops$State" "window" "LFloorTops$Window;", Cond.fieldLink RX6 101 "FloorTops$Window" "arrivals" "I", Cond.methodLink RX6 93 yX2_bringToWindow, Cond.instanceMethod yX2_bringToWindow, Cond.selects RX2 yX2_bringToWindow yX2_bringToWindow, Cond.code yX2_bringToWindow cX2_bringToWindow 3 none, Cond.fieldLink RX2 50 "FloorTops$Window" "arrivals" "I", Cond.fieldLink RX2 56 "FloorTops$Window" "begun" "I", Cond.methodLink RX2 53 yX5_beginBlock, Cond.instanceMethod yX5_beginBlock, Cond.selects RX5 yX5_beginBlock yX5_beginBlock, Cond.code yX5_beginBlock cX5_beginBlock 1 none, Cond.methodLink RX5 31 Lib.Math.min.name, Cond.methodLink RX5 37 yX5_presentBlock, Cond.instanceMethod yX5_presentBlock]
def wsL_law_r16 : List Cond := [Cond.selects RX5 yX5_presentBlock yX5_presentBlock, Cond.code yX5_presentBlock cX5_presentBlock 1 (some (.object "FloorTops$Summary")), Cond.methodLink RX5 41 yX3_wipe, Cond.instanceMethod yX3_wipe, Cond.selects RX3 yX3_wipe yX3_wipe, Cond.code yX3_wipe cX3_wipe 2 none, Cond.methodLink RX2 63 yX5_presentBlock, Cond.methodLink RX2 67 yX2_bring, Cond.methodLink RL 27 yX7_flow, Cond.instanceMethod yX7_flow, Cond.selects RX7 yX7_flow yX7_flow, Cond.code yX7_flow cX7_flow 3 (some .int), Cond.methodLink RX7 97 yX7_flows, Cond.instanceMethod yX7_flows, Cond.selects RX7 yX7_flows yX7_flows, Cond.code yX7_flows cX7_flows 4 none, Cond.methodLink RX7 87 yX7_present, Cond.instanceMethod yX7_present, Cond.selects RX7 yX7_present yX7_present, Cond.code yX7_present cX7_present 1 (some .int), Cond.methodLink RX7 91 yX7_copies, Cond.instanceMethod yX7_copies, Cond.selects RX7 yX7_copies yX7_copies, Cond.code yX7_copies cX7_copies 4 none]
def wsL_law_r17 : List Cond := [Cond.methodLink RX7 94 yX7_empties, Cond.instanceMethod yX7_empties, Cond.selects RX7 yX7_empties yX7_empties, Cond.code yX7_empties cX7_empties 3 none, Cond.methodLink RL 28 yX6_flowAll, Cond.instanceMethod yX6_flowAll, Cond.selects RX6 yX6_flowAll yX6_flowAll, Cond.code yX6_flowAll cX6_flowAll 3 (some .int), Cond.methodLink RL 32 yX7_flowAll, Cond.instanceMethod yX7_flowAll, Cond.selects RX7 yX7_flowAll yX7_flowAll, Cond.code yX7_flowAll cX7_flowAll 3 (some .int), Cond.methodLink RL 33 yX6_merge, Cond.instanceMethod yX6_merge, Cond.selects RX6 yX6_merge yX6_merge, Cond.code yX6_merge cX6_merge 3 (some .int), Cond.methodLink RX6 104 yX2_join, Cond.instanceMethod yX2_join, Cond.selects RX2 yX2_join yX2_join, Cond.code yX2_join cX2_join 4 (some .int), Cond.methodLink RX2 75 yX3_absorb, Cond.instanceMethod yX3_absorb, Cond.selects RX3 yX3_absorb yX3_absorb, Cond.code yX3_absorb cX3_absorb 7 (some .int)]
def wsL_law_r18 : List Cond := [Cond.methodLink RX3 74 yX3_upper, Cond.methodLink RX3 77 yX3_slackToMerge, Cond.instanceMethod yX3_slackToMerge, Cond.selects RX3 yX3_slackToMerge yX3_slackToMerge, Cond.code yX3_slackToMerge cX3_slackToMerge 2 (some .int), Cond.methodLink RX3 80 yX3_leaveOut, Cond.instanceMethod yX3_leaveOut, Cond.selects RX3 yX3_leaveOut yX3_leaveOut, Cond.code yX3_leaveOut cX3_leaveOut 4 (some .int), Cond.methodLink RX3 83 yX3_nextLeftOut, Cond.instanceMethod yX3_nextLeftOut, Cond.selects RX3 yX3_nextLeftOut yX3_nextLeftOut, Cond.code yX3_nextLeftOut cX3_nextLeftOut 3 (some .int), Cond.methodLink RX2 79 yX3_wipe, Cond.methodLink RL 37 yX7_merge, Cond.instanceMethod yX7_merge, Cond.selects RX7 yX7_merge yX7_merge, Cond.code yX7_merge cX7_merge 4 (some .int), Cond.methodLink RX7 100 yX7_joins, Cond.instanceMethod yX7_joins, Cond.selects RX7 yX7_joins yX7_joins, Cond.code yX7_joins cX7_joins 8 (some .int), Cond.methodLink RL 38 yX6_copy, Cond.instanceMethod yX6_copy]
def wsL_law_r19 : List Cond := [Cond.selects RX6 yX6_copy yX6_copy, Cond.code yX6_copy cX6_copy 3 (some .int), Cond.methodLink RX6 108 yX3_become, Cond.methodLink RX6 112 yX3_counters, Cond.methodLink RL 41 yX7_copy, Cond.instanceMethod yX7_copy, Cond.selects RX7 yX7_copy yX7_copy, Cond.code yX7_copy cX7_copy 3 (some .int), Cond.methodLink RL 42 yX6_setSize, Cond.instanceMethod yX6_setSize, Cond.selects RX6 yX6_setSize yX6_setSize, Cond.code yX6_setSize cX6_setSize 3 (some .int), Cond.fieldLink RX6 115 "FloorTops$Summary" "size" "I", Cond.methodLink RX6 118 yX2_resize, Cond.instanceMethod yX2_resize, Cond.selects RX2 yX2_resize yX2_resize, Cond.code yX2_resize cX2_resize 6 (some .int), Cond.fieldLink RX2 82 "FloorTops$Summary" "size" "I", Cond.methodLink RX2 85 yX3_counters, Cond.methodLink RX2 89 yX3_evictNext, Cond.methodLink RL 45 yX7_setSize, Cond.instanceMethod yX7_setSize, Cond.selects RX7 yX7_setSize yX7_setSize, Cond.code yX7_setSize cX7_setSize 4 (some .int)]
def wsL_law_r20 : List Cond := [Cond.methodLink RL 46 yX6_clear, Cond.instanceMethod yX6_clear, Cond.selects RX6 yX6_clear yX6_clear, Cond.code yX6_clear cX6_clear 3 (some .int), Cond.methodLink RX6 121 yX3_wipe, Cond.methodLink RL 49 yX7_clear, Cond.instanceMethod yX7_clear, Cond.selects RX7 yX7_clear yX7_clear, Cond.code yX7_clear cX7_clear 3 (some .int), Cond.methodLink RL 50 yX6_type, Cond.instanceMethod yX6_type, Cond.selects RX6 yX6_type yX6_type, Cond.code yX6_type cX6_type 2 (some .int), Cond.fieldLink RX6 124 "FloorTops$Text" "length" "I", Cond.methodLink RX6 127 yX4_put, Cond.instanceMethod yX4_put, Cond.selects RX4 yX4_put yX4_put, Cond.code yX4_put cX4_put 2 none, Cond.methodLink RL 54 yX7_type, Cond.instanceMethod yX7_type, Cond.selects RX7 yX7_type yX7_type, Cond.code yX7_type cX7_type 2 (some .int), Cond.methodLink RL 55 yX6_clearText, Cond.instanceMethod yX6_clearText]
def wsL_law_r21 : List Cond := [Cond.selects RX6 yX6_clearText yX6_clearText, Cond.code yX6_clearText cX6_clearText 2 (some .int), Cond.methodLink RL 58 yX7_clearText, Cond.instanceMethod yX7_clearText, Cond.selects RX7 yX7_clearText yX7_clearText, Cond.code yX7_clearText cX7_clearText 2 (some .int), Cond.methodLink RL 59 yX6_perform, Cond.instanceMethod yX6_perform, Cond.selects RX6 yX6_perform yX6_perform, Cond.code yX6_perform cX6_perform 2 (some .int), Cond.fieldLink RX6 134 "FloorTops$Text" "word" "I", Cond.fieldLink RX6 137 "FloorTops$Text" "firstNumber" "I", Cond.fieldLink RX6 140 "FloorTops$Text" "secondNumber" "I", Cond.methodLink RX6 131 yX4_readCommand, Cond.instanceMethod yX4_readCommand, Cond.selects RX4 yX4_readCommand yX4_readCommand, Cond.code yX4_readCommand cX4_readCommand 2 (some .int), Cond.methodLink RX4 63 yX4_wordBefore, Cond.instanceMethod yX4_wordBefore, Cond.selects RX4 yX4_wordBefore yX4_wordBefore, Cond.code yX4_wordBefore cX4_wordBefore 2 (some .int), Cond.methodLink RX4 72 yX4_beginsWith, Cond.instanceMethod yX4_beginsWith, Cond.selects RX4 yX4_beginsWith yX4_beginsWith]
def wsL_law_r22 : List Cond := [Cond.code yX4_beginsWith cX4_beginsWith 5 (some .boolean), Cond.methodLink RX4 82 yJ0_length_8abf5, Cond.instanceMethod yJ0_length_8abf5, Cond.selects RJ0 yJ0_length_8abf5 yJ0_length_8abf5, Cond.initialized RJ0, Cond.code yJ0_length_8abf5 cJ0_length_8abf5 1 (some .int), Cond.fieldLink RJ0 9 "java/lang/String" "value" "[B", Cond.methodLink RJ0 335 yJ0_coder_7d493, Cond.instanceMethod yJ0_coder_7d493, Cond.selects RJ0 yJ0_coder_7d493 yJ0_coder_7d493, Cond.code yJ0_coder_7d493 cJ0_coder_7d493 1 (some .byte), Cond.fieldLink RJ0 38 "java/lang/String" "COMPACT_STRINGS" "Z", Cond.fieldLink RJ0 15 "java/lang/String" "coder" "B", Cond.methodLink RX4 86 yJ0_charAt_5068e, Cond.instanceMethod yJ0_charAt_5068e, Cond.selects RJ0 yJ0_charAt_5068e yJ0_charAt_5068e, Cond.code yJ0_charAt_5068e cJ0_charAt_5068e 2 (some .char), Cond.methodLink RJ0 492 yJ0_isLatin1_aae02, Cond.instanceMethod yJ0_isLatin1_aae02, Cond.selects RJ0 yJ0_isLatin1_aae02 yJ0_isLatin1_aae02, Cond.code yJ0_isLatin1_aae02 cJ0_isLatin1_aae02 1 (some .boolean), Cond.methodLink RJ0 495 yJ1_charAt_3b067, Cond.static yJ1_charAt_3b067, Cond.initialized RJ1]
def wsL_law_r23 : List Cond := [Cond.code yJ1_charAt_3b067 cJ1_charAt_3b067 2 (some .char), Cond.methodLink RJ1 9 yJ0_checkIndex_df160, Cond.static yJ0_checkIndex_df160, Cond.code yJ0_checkIndex_df160 cJ0_checkIndex_df160 2 none, Cond.fieldLink RJ0 1053 "jdk/internal/util/Preconditions" "SIOOBE_FORMATTER" "Ljava/util/function/BiFunction;", Cond.methodLink RJ0 1059 yJ3_checkIndex_8e157, Cond.static yJ3_checkIndex_8e157, Cond.initialized RJ3, Cond.code yJ3_checkIndex_8e157 cJ3_checkIndex_8e157 3 (some .int), Cond.methodLink RJ0 498 yJ2_charAt_3b067, Cond.static yJ2_charAt_3b067, Cond.initialized RJ2, Cond.code yJ2_charAt_3b067 cJ2_charAt_3b067 2 (some .char), Cond.methodLink RJ2 67 yJ2_checkIndex_2214a, Cond.static yJ2_checkIndex_2214a, Cond.code yJ2_checkIndex_2214a cJ2_checkIndex_2214a 2 none, Cond.methodLink RJ2 48 yJ2_length_9d52b, Cond.static yJ2_length_9d52b, Cond.code yJ2_length_9d52b cJ2_length_9d52b 1 (some .int), Cond.methodLink RJ2 414 yJ0_checkIndex_df160, Cond.methodLink RJ2 71 yJ2_getChar_3b067, Cond.static yJ2_getChar_3b067, Cond.code yJ2_getChar_3b067 cJ2_getChar_3b067 2 (some .char), Cond.fieldLink RJ2 44 "java/lang/StringUTF16" "$assertionsDisabled" "Z"]
def wsL_law_r24 : List Cond := [Cond.fieldLink RJ2 59 "java/lang/StringUTF16" "HI_BYTE_SHIFT" "I", Cond.fieldLink RJ2 63 "java/lang/StringUTF16" "LO_BYTE_SHIFT" "I", Cond.methodLink RX4 67 yX4_readArgument, Cond.instanceMethod yX4_readArgument, Cond.selects RX4 yX4_readArgument yX4_readArgument, Cond.code yX4_readArgument cX4_readArgument 1 (some .int), Cond.methodLink RX6 143 yX6_merge, Cond.methodLink RX6 146 yX6_copy, Cond.methodLink RX6 149 yX6_setSize, Cond.methodLink RX6 152 yX6_clear, Cond.methodLink RL 62 yX7_perform, Cond.instanceMethod yX7_perform, Cond.selects RX7 yX7_perform yX7_perform, Cond.code yX7_perform cX7_perform 3 (some .int), Cond.methodLink RX7 135 yX7_word, Cond.instanceMethod yX7_word, Cond.selects RX7 yX7_word yX7_word, Cond.code yX7_word cX7_word 1 (some .int), Cond.methodLink RX7 131 yX7_isWord, Cond.instanceMethod yX7_isWord, Cond.selects RX7 yX7_isWord yX7_isWord, Cond.code yX7_isWord cX7_isWord 6 (some .boolean), Cond.methodLink RX7 138 yX7_takesNumber, Cond.instanceMethod yX7_takesNumber]
def wsL_law_r25 : List Cond := [Cond.selects RX7 yX7_takesNumber yX7_takesNumber, Cond.code yX7_takesNumber cX7_takesNumber 1 (some .boolean), Cond.methodLink RX7 141 yX7_merge, Cond.methodLink RX7 144 yX7_copy, Cond.methodLink RX7 147 yX7_setSize, Cond.methodLink RX7 150 yX7_clear, Cond.methodLink RL 63 yX6_undo, Cond.instanceMethod yX6_undo, Cond.selects RX6 yX6_undo yX6_undo, Cond.code yX6_undo cX6_undo 1 (some .int), Cond.fieldLink RX6 155 "FloorTops$History" "known" "I", Cond.methodLink RX6 158 yX0_takeBack, Cond.instanceMethod yX0_takeBack, Cond.selects RX0 yX0_takeBack yX0_takeBack, Cond.code yX0_takeBack cX0_takeBack 2 none, Cond.methodLink RL 66 yX7_undo, Cond.instanceMethod yX7_undo, Cond.selects RX7 yX7_undo yX7_undo, Cond.code yX7_undo cX7_undo 2 (some .int), Cond.methodLink RL 67 yX6_keep, Cond.instanceMethod yX6_keep, Cond.selects RX6 yX6_keep yX6_keep, Cond.code yX6_keep cX6_keep 1 (some .int), Cond.fieldLink RX6 163 "FloorTops$State" "time" "I"]
def wsL_law_r26 : List Cond := [Cond.methodLink RX6 161 yX2_become, Cond.methodLink RL 70 yX7_keep, Cond.instanceMethod yX7_keep, Cond.selects RX7 yX7_keep yX7_keep, Cond.code yX7_keep cX7_keep 2 (some .int), Cond.fieldLink RX7 153 "FloorTopsModel" "isFilled" "Z", Cond.methodLink RL 71 yX6_restore, Cond.instanceMethod yX6_restore, Cond.selects RX6 yX6_restore yX6_restore, Cond.code yX6_restore cX6_restore 1 (some .int), Cond.methodLink RL 74 yX7_restore, Cond.instanceMethod yX7_restore, Cond.selects RX7 yX7_restore yX7_restore, Cond.code yX7_restore cX7_restore 2 (some .int), Cond.methodLink RL 75 yX6_summary, Cond.instanceMethod yX6_summary, Cond.selects RX6 yX6_summary yX6_summary, Cond.code yX6_summary cX6_summary 4 (some .int), Cond.fieldLink RX6 170 "FloorTops$Summary" "floor" "I", Cond.fieldLink RX6 179 "FloorTops$Summary" "held" "I", Cond.methodLink RX6 166 yX6_told, Cond.instanceMethod yX6_told, Cond.selects RX6 yX6_told yX6_told, Cond.code yX6_told cX6_told 2 (some (.object "FloorTops$Summary"))]
def wsL_law_r27 : List Cond := [Cond.methodLink RX6 256 yX5_look, Cond.instanceMethod yX5_look, Cond.selects RX5 yX5_look yX5_look, Cond.code yX5_look cX5_look 4 none, Cond.methodLink RX5 44 yX5_blockAt, Cond.instanceMethod yX5_blockAt, Cond.selects RX5 yX5_blockAt yX5_blockAt, Cond.code yX5_blockAt cX5_blockAt 2 (some (.object "FloorTops$Summary")), Cond.methodLink RX5 52 yX3_absorb, Cond.methodLink RX6 173 yX3_greatestSlack, Cond.instanceMethod yX3_greatestSlack, Cond.selects RX3 yX3_greatestSlack yX3_greatestSlack, Cond.code yX3_greatestSlack cX3_greatestSlack 3 (some .int), Cond.methodLink RX6 176 yX3_lettersThatCame, Cond.instanceMethod yX3_lettersThatCame, Cond.selects RX3 yX3_lettersThatCame yX3_lettersThatCame, Cond.code yX3_lettersThatCame cX3_lettersThatCame 3 (some .int), Cond.methodLink RL 78 yX7_summary, Cond.instanceMethod yX7_summary, Cond.selects RX7 yX7_summary yX7_summary, Cond.code yX7_summary cX7_summary 4 (some .int), Cond.methodLink RX7 157 yX7_looks, Cond.instanceMethod yX7_looks, Cond.selects RX7 yX7_looks yX7_looks]
def wsL_law_r28 : List Cond := [Cond.code yX7_looks cX7_looks 3 (some .int), Cond.methodLink RX7 160 yX7_greatestSlack, Cond.instanceMethod yX7_greatestSlack, Cond.selects RX7 yX7_greatestSlack yX7_greatestSlack, Cond.code yX7_greatestSlack cX7_greatestSlack 4 (some .int), Cond.methodLink RX7 163 yX7_letters, Cond.instanceMethod yX7_letters, Cond.selects RX7 yX7_letters yX7_letters, Cond.code yX7_letters cX7_letters 5 (some .int), Cond.methodLink RL 79 yX6_bound, Cond.instanceMethod yX6_bound, Cond.selects RX6 yX6_bound yX6_bound, Cond.code yX6_bound cX6_bound 6 (some .int), Cond.fieldLink RX6 185 "FloorTops$Summary" "came" "[I", Cond.fieldLink RX6 191 "FloorTops$Summary" "slacks" "[I", Cond.fieldLink RX6 194 "FloorTops$Summary" "times" "[I", Cond.methodLink RX6 182 yX3_lower, Cond.instanceMethod yX3_lower, Cond.selects RX3 yX3_lower yX3_lower, Cond.code yX3_lower cX3_lower 2 (some .int), Cond.methodLink RX6 188 yX3_has, Cond.methodLink RL 82 yX7_bound, Cond.instanceMethod yX7_bound, Cond.selects RX7 yX7_bound yX7_bound]
def wsL_law_r29 : List Cond := [Cond.code yX7_bound cX7_bound 6 (some .int), Cond.methodLink RX7 166 yX7_upper, Cond.instanceMethod yX7_upper, Cond.selects RX7 yX7_upper yX7_upper, Cond.code yX7_upper cX7_upper 3 (some .int), Cond.methodLink RX7 169 yX7_lower, Cond.instanceMethod yX7_lower, Cond.selects RX7 yX7_lower yX7_lower, Cond.code yX7_lower cX7_lower 3 (some .int), Cond.methodLink RL 83 yX6_top, Cond.instanceMethod yX6_top, Cond.selects RX6 yX6_top yX6_top, Cond.code yX6_top cX6_top 6 (some .int), Cond.fieldLink RX6 203 "FloorTops$Summary" "counts" "[I", Cond.methodLink RX6 197 yX3_letterAt, Cond.instanceMethod yX3_letterAt, Cond.selects RX3 yX3_letterAt yX3_letterAt, Cond.code yX3_letterAt cX3_letterAt 3 (some .int), Cond.methodLink RX3 92 yX3_placeOf, Cond.instanceMethod yX3_placeOf, Cond.selects RX3 yX3_placeOf yX3_placeOf, Cond.code yX3_placeOf cX3_placeOf 4 (some .int), Cond.methodLink RX6 200 yX6_codeOf, Cond.methodLink RL 87 yX7_top]
def wsL_law_r30 : List Cond := [Cond.instanceMethod yX7_top, Cond.selects RX7 yX7_top yX7_top, Cond.code yX7_top cX7_top 9 (some .int), Cond.methodLink RL 88 yX6_first, Cond.instanceMethod yX6_first, Cond.selects RX6 yX6_first yX6_first, Cond.code yX6_first cX6_first 7 (some .int), Cond.methodLink RX6 206 yX3_lettersAhead, Cond.instanceMethod yX3_lettersAhead, Cond.selects RX3 yX3_lettersAhead yX3_lettersAhead, Cond.code yX3_lettersAhead cX3_lettersAhead 7 (some .int), Cond.methodLink RX3 95 yX3_lower, Cond.methodLink RL 92 yX7_first, Cond.instanceMethod yX7_first, Cond.selects RX7 yX7_first yX7_first, Cond.code yX7_first cX7_first 7 (some .int), Cond.methodLink RX7 172 yX7_ahead, Cond.instanceMethod yX7_ahead, Cond.selects RX7 yX7_ahead yX7_ahead, Cond.code yX7_ahead cX7_ahead 7 (some .int), Cond.methodLink RL 93 yX6_above, Cond.instanceMethod yX6_above, Cond.selects RX6 yX6_above yX6_above, Cond.code yX6_above cX6_above 8 (some .int)]
def wsL_law_r31 : List Cond := [Cond.constantLong RX6 210 (100), Cond.methodLink RL 96 yX7_above, Cond.instanceMethod yX7_above, Cond.selects RX7 yX7_above yX7_above, Cond.code yX7_above cX7_above 8 (some .int), Cond.methodLink RL 97 yX6_rank, Cond.instanceMethod yX6_rank, Cond.selects RX6 yX6_rank yX6_rank, Cond.code yX6_rank cX6_rank 6 (some .int), Cond.methodLink RL 101 yX7_rank, Cond.instanceMethod yX7_rank, Cond.selects RX7 yX7_rank yX7_rank, Cond.code yX7_rank cX7_rank 5 (some .int), Cond.methodLink RL 102 yX6_alike, Cond.instanceMethod yX6_alike, Cond.selects RX6 yX6_alike yX6_alike, Cond.code yX6_alike cX6_alike 7 (some .int), Cond.methodLink RL 105 yX7_alike, Cond.instanceMethod yX7_alike, Cond.selects RX7 yX7_alike yX7_alike, Cond.code yX7_alike cX7_alike 7 (some .int), Cond.methodLink RL 106 yX6_wouldEvict, Cond.instanceMethod yX6_wouldEvict, Cond.selects RX6 yX6_wouldEvict yX6_wouldEvict]
def wsL_law_r32 : List Cond := [Cond.code yX6_wouldEvict cX6_wouldEvict 6 (some .int), Cond.methodLink RX6 212 yX3_needsRoomFor, Cond.methodLink RX6 215 yX3_nextEvicted, Cond.methodLink RL 110 yX7_wouldEvict, Cond.instanceMethod yX7_wouldEvict, Cond.selects RX7 yX7_wouldEvict yX7_wouldEvict, Cond.code yX7_wouldEvict cX7_wouldEvict 4 (some .int), Cond.methodLink RL 111 yX6_block, Cond.instanceMethod yX6_block, Cond.selects RX6 yX6_block yX6_block, Cond.code yX6_block cX6_block 4 (some .int), Cond.fieldLink RX6 218 "FloorTops$Window" "kept" "I", Cond.methodLink RX6 221 yX5_blockAt, Cond.methodLink RX6 224 yX5_arrivalsOf, Cond.instanceMethod yX5_arrivalsOf, Cond.selects RX5 yX5_arrivalsOf yX5_arrivalsOf, Cond.code yX5_arrivalsOf cX5_arrivalsOf 2 (some .int), Cond.methodLink RL 114 yX7_block, Cond.instanceMethod yX7_block, Cond.selects RX7 yX7_block yX7_block, Cond.code yX7_block cX7_block 4 (some .int), Cond.methodLink RL 115 yX6_event, Cond.instanceMethod yX6_event, Cond.selects RX6 yX6_event yX6_event]
def wsL_law_r33 : List Cond := [Cond.code yX6_event cX6_event 4 (some .int), Cond.fieldLink RX6 227 "FloorTops$State" "log" "LFloorTops$Log;", Cond.fieldLink RX6 231 "FloorTops$Log" "known" "I", Cond.fieldLink RX6 237 "FloorTops$Log" "kinds" "[I", Cond.fieldLink RX6 240 "FloorTops$Log" "places" "[I", Cond.fieldLink RX6 243 "FloorTops$Log" "values" "[I", Cond.fieldLink RX6 246 "FloorTops$Log" "times" "[I", Cond.methodLink RX6 234 yX1_slotOf, Cond.instanceMethod yX1_slotOf, Cond.selects RX1 yX1_slotOf yX1_slotOf, Cond.code yX1_slotOf cX1_slotOf 2 (some .int), Cond.methodLink RL 118 yX7_event, Cond.instanceMethod yX7_event, Cond.selects RX7 yX7_event yX7_event, Cond.code yX7_event cX7_event 3 (some .int), Cond.methodLink RL 119 yX6_count, Cond.instanceMethod yX6_count, Cond.selects RX6 yX6_count yX6_count, Cond.code yX6_count cX6_count 2 (some .int), Cond.fieldLink RX6 247 "FloorTops$State" "evictions" "I", Cond.fieldLink RX6 250 "FloorTops$State" "merges" "I", Cond.fieldLink RX6 253 "FloorTops$Window" "begun" "I", Cond.methodLink RL 122 yX7_count, Cond.instanceMethod yX7_count]
def wsL_law_r34 : List Cond := [Cond.selects RX7 yX7_count yX7_count, Cond.code yX7_count cX7_count 2 (some .int)]
def wsL_law : List Cond := (wsL_law_r1 ++ (wsL_law_r2 ++ (wsL_law_r3 ++ (wsL_law_r4 ++ (wsL_law_r5 ++ (wsL_law_r6 ++ (wsL_law_r7 ++ (wsL_law_r8 ++ (wsL_law_r9 ++ (wsL_law_r10 ++ (wsL_law_r11 ++ (wsL_law_r12 ++ (wsL_law_r13 ++ (wsL_law_r14 ++ (wsL_law_r15 ++ (wsL_law_r16 ++ (wsL_law_r17 ++ (wsL_law_r18 ++ (wsL_law_r19 ++ (wsL_law_r20 ++ (wsL_law_r21 ++ (wsL_law_r22 ++ (wsL_law_r23 ++ (wsL_law_r24 ++ (wsL_law_r25 ++ (wsL_law_r26 ++ (wsL_law_r27 ++ (wsL_law_r28 ++ (wsL_law_r29 ++ (wsL_law_r30 ++ (wsL_law_r31 ++ (wsL_law_r32 ++ (wsL_law_r33 ++ wsL_law_r34))))))))))))))))))))))))))))))))) ++ wsX60 ++ wsX70 ++ wsX20 ++ wsX00 ++ wsX40 ++ wsX30 ++ wsX50 ++ wsX10 ++ ([] : List Cond)
set_option maxRecDepth 20000 in
theorem inlX0 : ∀ w ∈ wsX00, w ∈ wsL_law := fun _ h => List.mem_append_left _ (List.mem_append_left _ (List.mem_append_left _ (List.mem_append_left _ (List.mem_append_left _ (List.mem_append_right _ h)))))
theorem inlX1 : ∀ w ∈ wsX10, w ∈ wsL_law := fun _ h => List.mem_append_left _ (List.mem_append_right _ h)
theorem inlX2 : ∀ w ∈ wsX20, w ∈ wsL_law := fun _ h => List.mem_append_left _ (List.mem_append_left _ (List.mem_append_left _ (List.mem_append_left _ (List.mem_append_left _ (List.mem_append_left _ (List.mem_append_right _ h))))))
theorem inlX3 : ∀ w ∈ wsX30, w ∈ wsL_law := fun _ h => List.mem_append_left _ (List.mem_append_left _ (List.mem_append_left _ (List.mem_append_right _ h)))
theorem inlX4 : ∀ w ∈ wsX40, w ∈ wsL_law := fun _ h => List.mem_append_left _ (List.mem_append_left _ (List.mem_append_left _ (List.mem_append_left _ (List.mem_append_right _ h))))
theorem inlX5 : ∀ w ∈ wsX50, w ∈ wsL_law := fun _ h => List.mem_append_left _ (List.mem_append_left _ (List.mem_append_right _ h))
theorem inlX6 : ∀ w ∈ wsX60, w ∈ wsL_law := fun _ h => List.mem_append_left _ (List.mem_append_left _ (List.mem_append_left _ (List.mem_append_left _ (List.mem_append_left _ (List.mem_append_left _ (List.mem_append_left _ (List.mem_append_left _ (List.mem_append_right _ h))))))))
theorem inlX7 : ∀ w ∈ wsX70, w ∈ wsL_law := fun _ h => List.mem_append_left _ (List.mem_append_left _ (List.mem_append_left _ (List.mem_append_left _ (List.mem_append_left _ (List.mem_append_left _ (List.mem_append_left _ (List.mem_append_right _ h)))))))
theorem inJ6 : ∀ w ∈ wsJ60, w ∈ lw_tbl := by decide +kernel
theorem inJ9 : ∀ w ∈ wsJ90, w ∈ lw_tbl := by decide +kernel
theorem inJ0 : ∀ w ∈ wsJ00, w ∈ lw_tbl := by decide +kernel
theorem inJ1 : ∀ w ∈ wsJ10, w ∈ lw_tbl := by decide +kernel
theorem inJ2 : ∀ w ∈ wsJ20, w ∈ lw_tbl := by decide +kernel
theorem inJ10 : ∀ w ∈ wsJ100, w ∈ lw_tbl := by decide +kernel
theorem inJ3 : ∀ w ∈ wsJ30, w ∈ lw_tbl := by decide +kernel
abbrev vwCl : List vw_C := [(RX0, TX0, 3), (RX1, TX1, 6), (RX2, TX2, 6), (RX3, TX3, 8), (RX4, TX4, 9), (RX5, TX5, 5), (RX6, TX6, 6), (RX7, TX7, 11)]
abbrev wA : List Cond := wsL_law
end
section
theorem inr_1 : ∀ w ∈ wsL_law_r1, w ∈ wA := fun _ h => List.mem_append_left _ (List.mem_append_left _ (List.mem_append_left _ (List.mem_append_left _ (List.mem_append_left _ (List.mem_append_left _ (List.mem_append_left _ (List.mem_append_left _ (List.mem_append_left _ (List.mem_append_left _ h)))))))))
theorem inr_2 : ∀ w ∈ wsL_law_r2, w ∈ wA := fun _ h => List.mem_append_left _ (List.mem_append_left _ (List.mem_append_left _ (List.mem_append_left _ (List.mem_append_left _ (List.mem_append_left _ (List.mem_append_left _ (List.mem_append_left _ (List.mem_append_left _ (List.mem_append_right _ (List.mem_append_left _ h))))))))))
theorem inr_3 : ∀ w ∈ wsL_law_r3, w ∈ wA := fun _ h => List.mem_append_left _ (List.mem_append_left _ (List.mem_append_left _ (List.mem_append_left _ (List.mem_append_left _ (List.mem_append_left _ (List.mem_append_left _ (List.mem_append_left _ (List.mem_append_left _ (List.mem_append_right _ (List.mem_append_right _ (List.mem_append_left _ h)))))))))))
theorem inr_4 : ∀ w ∈ wsL_law_r4, w ∈ wA := fun _ h => List.mem_append_left _ (List.mem_append_left _ (List.mem_append_left _ (List.mem_append_left _ (List.mem_append_left _ (List.mem_append_left _ (List.mem_append_left _ (List.mem_append_left _ (List.mem_append_left _ (List.mem_append_right _ (List.mem_append_right _ (List.mem_append_right _ (List.mem_append_left _ h))))))))))))
theorem inr_5 : ∀ w ∈ wsL_law_r5, w ∈ wA := fun _ h => List.mem_append_left _ (List.mem_append_left _ (List.mem_append_left _ (List.mem_append_left _ (List.mem_append_left _ (List.mem_append_left _ (List.mem_append_left _ (List.mem_append_left _ (List.mem_append_left _ (List.mem_append_right _ (List.mem_append_right _ (List.mem_append_right _ (List.mem_append_right _ (List.mem_append_left _ h)))))))))))))
theorem inr_6 : ∀ w ∈ wsL_law_r6, w ∈ wA := fun _ h => List.mem_append_left _ (List.mem_append_left _ (List.mem_append_left _ (List.mem_append_left _ (List.mem_append_left _ (List.mem_append_left _ (List.mem_append_left _ (List.mem_append_left _ (List.mem_append_left _ (List.mem_append_right _ (List.mem_append_right _ (List.mem_append_right _ (List.mem_append_right _ (List.mem_append_right _ (List.mem_append_left _ h))))))))))))))
theorem inr_7 : ∀ w ∈ wsL_law_r7, w ∈ wA := fun _ h => List.mem_append_left _ (List.mem_append_left _ (List.mem_append_left _ (List.mem_append_left _ (List.mem_append_left _ (List.mem_append_left _ (List.mem_append_left _ (List.mem_append_left _ (List.mem_append_left _ (List.mem_append_right _ (List.mem_append_right _ (List.mem_append_right _ (List.mem_append_right _ (List.mem_append_right _ (List.mem_append_right _ (List.mem_append_left _ h)))))))))))))))
theorem inr_8 : ∀ w ∈ wsL_law_r8, w ∈ wA := fun _ h => List.mem_append_left _ (List.mem_append_left _ (List.mem_append_left _ (List.mem_append_left _ (List.mem_append_left _ (List.mem_append_left _ (List.mem_append_left _ (List.mem_append_left _ (List.mem_append_left _ (List.mem_append_right _ (List.mem_append_right _ (List.mem_append_right _ (List.mem_append_right _ (List.mem_append_right _ (List.mem_append_right _ (List.mem_append_right _ (List.mem_append_left _ h))))))))))))))))
theorem inr_9 : ∀ w ∈ wsL_law_r9, w ∈ wA := fun _ h => List.mem_append_left _ (List.mem_append_left _ (List.mem_append_left _ (List.mem_append_left _ (List.mem_append_left _ (List.mem_append_left _ (List.mem_append_left _ (List.mem_append_left _ (List.mem_append_left _ (List.mem_append_right _ (List.mem_append_right _ (List.mem_append_right _ (List.mem_append_right _ (List.mem_append_right _ (List.mem_append_right _ (List.mem_append_right _ (List.mem_append_right _ (List.mem_append_left _ h)))))))))))))))))
theorem inr_10 : ∀ w ∈ wsL_law_r10, w ∈ wA := fun _ h => List.mem_append_left _ (List.mem_append_left _ (List.mem_append_left _ (List.mem_append_left _ (List.mem_append_left _ (List.mem_append_left _ (List.mem_append_left _ (List.mem_append_left _ (List.mem_append_left _ (List.mem_append_right _ (List.mem_append_right _ (List.mem_append_right _ (List.mem_append_right _ (List.mem_append_right _ (List.mem_append_right _ (List.mem_append_right _ (List.mem_append_right _ (List.mem_append_right _ (List.mem_append_left _ h))))))))))))))))))
theorem inr_11 : ∀ w ∈ wsL_law_r11, w ∈ wA := fun _ h => List.mem_append_left _ (List.mem_append_left _ (List.mem_append_left _ (List.mem_append_left _ (List.mem_append_left _ (List.mem_append_left _ (List.mem_append_left _ (List.mem_append_left _ (List.mem_append_left _ (List.mem_append_right _ (List.mem_append_right _ (List.mem_append_right _ (List.mem_append_right _ (List.mem_append_right _ (List.mem_append_right _ (List.mem_append_right _ (List.mem_append_right _ (List.mem_append_right _ (List.mem_append_right _ (List.mem_append_left _ h)))))))))))))))))))
theorem inr_12 : ∀ w ∈ wsL_law_r12, w ∈ wA := fun _ h => List.mem_append_left _ (List.mem_append_left _ (List.mem_append_left _ (List.mem_append_left _ (List.mem_append_left _ (List.mem_append_left _ (List.mem_append_left _ (List.mem_append_left _ (List.mem_append_left _ (List.mem_append_right _ (List.mem_append_right _ (List.mem_append_right _ (List.mem_append_right _ (List.mem_append_right _ (List.mem_append_right _ (List.mem_append_right _ (List.mem_append_right _ (List.mem_append_right _ (List.mem_append_right _ (List.mem_append_right _ (List.mem_append_left _ h))))))))))))))))))))
theorem inr_13 : ∀ w ∈ wsL_law_r13, w ∈ wA := fun _ h => List.mem_append_left _ (List.mem_append_left _ (List.mem_append_left _ (List.mem_append_left _ (List.mem_append_left _ (List.mem_append_left _ (List.mem_append_left _ (List.mem_append_left _ (List.mem_append_left _ (List.mem_append_right _ (List.mem_append_right _ (List.mem_append_right _ (List.mem_append_right _ (List.mem_append_right _ (List.mem_append_right _ (List.mem_append_right _ (List.mem_append_right _ (List.mem_append_right _ (List.mem_append_right _ (List.mem_append_right _ (List.mem_append_right _ (List.mem_append_left _ h)))))))))))))))))))))
theorem inr_14 : ∀ w ∈ wsL_law_r14, w ∈ wA := fun _ h => List.mem_append_left _ (List.mem_append_left _ (List.mem_append_left _ (List.mem_append_left _ (List.mem_append_left _ (List.mem_append_left _ (List.mem_append_left _ (List.mem_append_left _ (List.mem_append_left _ (List.mem_append_right _ (List.mem_append_right _ (List.mem_append_right _ (List.mem_append_right _ (List.mem_append_right _ (List.mem_append_right _ (List.mem_append_right _ (List.mem_append_right _ (List.mem_append_right _ (List.mem_append_right _ (List.mem_append_right _ (List.mem_append_right _ (List.mem_append_right _ (List.mem_append_left _ h))))))))))))))))))))))
theorem inr_15 : ∀ w ∈ wsL_law_r15, w ∈ wA := fun _ h => List.mem_append_left _ (List.mem_append_left _ (List.mem_append_left _ (List.mem_append_left _ (List.mem_append_left _ (List.mem_append_left _ (List.mem_append_left _ (List.mem_append_left _ (List.mem_append_left _ (List.mem_append_right _ (List.mem_append_right _ (List.mem_append_right _ (List.mem_append_right _ (List.mem_append_right _ (List.mem_append_right _ (List.mem_append_right _ (List.mem_append_right _ (List.mem_append_right _ (List.mem_append_right _ (List.mem_append_right _ (List.mem_append_right _ (List.mem_append_right _ (List.mem_append_right _ (List.mem_append_left _ h)))))))))))))))))))))))
theorem inr_16 : ∀ w ∈ wsL_law_r16, w ∈ wA := fun _ h => List.mem_append_left _ (List.mem_append_left _ (List.mem_append_left _ (List.mem_append_left _ (List.mem_append_left _ (List.mem_append_left _ (List.mem_append_left _ (List.mem_append_left _ (List.mem_append_left _ (List.mem_append_right _ (List.mem_append_right _ (List.mem_append_right _ (List.mem_append_right _ (List.mem_append_right _ (List.mem_append_right _ (List.mem_append_right _ (List.mem_append_right _ (List.mem_append_right _ (List.mem_append_right _ (List.mem_append_right _ (List.mem_append_right _ (List.mem_append_right _ (List.mem_append_right _ (List.mem_append_right _ (List.mem_append_left _ h))))))))))))))))))))))))
theorem inr_17 : ∀ w ∈ wsL_law_r17, w ∈ wA := fun _ h => List.mem_append_left _ (List.mem_append_left _ (List.mem_append_left _ (List.mem_append_left _ (List.mem_append_left _ (List.mem_append_left _ (List.mem_append_left _ (List.mem_append_left _ (List.mem_append_left _ (List.mem_append_right _ (List.mem_append_right _ (List.mem_append_right _ (List.mem_append_right _ (List.mem_append_right _ (List.mem_append_right _ (List.mem_append_right _ (List.mem_append_right _ (List.mem_append_right _ (List.mem_append_right _ (List.mem_append_right _ (List.mem_append_right _ (List.mem_append_right _ (List.mem_append_right _ (List.mem_append_right _ (List.mem_append_right _ (List.mem_append_left _ h)))))))))))))))))))))))))
theorem inr_18 : ∀ w ∈ wsL_law_r18, w ∈ wA := fun _ h => List.mem_append_left _ (List.mem_append_left _ (List.mem_append_left _ (List.mem_append_left _ (List.mem_append_left _ (List.mem_append_left _ (List.mem_append_left _ (List.mem_append_left _ (List.mem_append_left _ (List.mem_append_right _ (List.mem_append_right _ (List.mem_append_right _ (List.mem_append_right _ (List.mem_append_right _ (List.mem_append_right _ (List.mem_append_right _ (List.mem_append_right _ (List.mem_append_right _ (List.mem_append_right _ (List.mem_append_right _ (List.mem_append_right _ (List.mem_append_right _ (List.mem_append_right _ (List.mem_append_right _ (List.mem_append_right _ (List.mem_append_right _ (List.mem_append_left _ h))))))))))))))))))))))))))
theorem inr_19 : ∀ w ∈ wsL_law_r19, w ∈ wA := fun _ h => List.mem_append_left _ (List.mem_append_left _ (List.mem_append_left _ (List.mem_append_left _ (List.mem_append_left _ (List.mem_append_left _ (List.mem_append_left _ (List.mem_append_left _ (List.mem_append_left _ (List.mem_append_right _ (List.mem_append_right _ (List.mem_append_right _ (List.mem_append_right _ (List.mem_append_right _ (List.mem_append_right _ (List.mem_append_right _ (List.mem_append_right _ (List.mem_append_right _ (List.mem_append_right _ (List.mem_append_right _ (List.mem_append_right _ (List.mem_append_right _ (List.mem_append_right _ (List.mem_append_right _ (List.mem_append_right _ (List.mem_append_right _ (List.mem_append_right _ (List.mem_append_left _ h)))))))))))))))))))))))))))
theorem inr_20 : ∀ w ∈ wsL_law_r20, w ∈ wA := fun _ h => List.mem_append_left _ (List.mem_append_left _ (List.mem_append_left _ (List.mem_append_left _ (List.mem_append_left _ (List.mem_append_left _ (List.mem_append_left _ (List.mem_append_left _ (List.mem_append_left _ (List.mem_append_right _ (List.mem_append_right _ (List.mem_append_right _ (List.mem_append_right _ (List.mem_append_right _ (List.mem_append_right _ (List.mem_append_right _ (List.mem_append_right _ (List.mem_append_right _ (List.mem_append_right _ (List.mem_append_right _ (List.mem_append_right _ (List.mem_append_right _ (List.mem_append_right _ (List.mem_append_right _ (List.mem_append_right _ (List.mem_append_right _ (List.mem_append_right _ (List.mem_append_right _ (List.mem_append_left _ h))))))))))))))))))))))))))))
theorem inr_21 : ∀ w ∈ wsL_law_r21, w ∈ wA := fun _ h => List.mem_append_left _ (List.mem_append_left _ (List.mem_append_left _ (List.mem_append_left _ (List.mem_append_left _ (List.mem_append_left _ (List.mem_append_left _ (List.mem_append_left _ (List.mem_append_left _ (List.mem_append_right _ (List.mem_append_right _ (List.mem_append_right _ (List.mem_append_right _ (List.mem_append_right _ (List.mem_append_right _ (List.mem_append_right _ (List.mem_append_right _ (List.mem_append_right _ (List.mem_append_right _ (List.mem_append_right _ (List.mem_append_right _ (List.mem_append_right _ (List.mem_append_right _ (List.mem_append_right _ (List.mem_append_right _ (List.mem_append_right _ (List.mem_append_right _ (List.mem_append_right _ (List.mem_append_right _ (List.mem_append_left _ h)))))))))))))))))))))))))))))
theorem inr_22 : ∀ w ∈ wsL_law_r22, w ∈ wA := fun _ h => List.mem_append_left _ (List.mem_append_left _ (List.mem_append_left _ (List.mem_append_left _ (List.mem_append_left _ (List.mem_append_left _ (List.mem_append_left _ (List.mem_append_left _ (List.mem_append_left _ (List.mem_append_right _ (List.mem_append_right _ (List.mem_append_right _ (List.mem_append_right _ (List.mem_append_right _ (List.mem_append_right _ (List.mem_append_right _ (List.mem_append_right _ (List.mem_append_right _ (List.mem_append_right _ (List.mem_append_right _ (List.mem_append_right _ (List.mem_append_right _ (List.mem_append_right _ (List.mem_append_right _ (List.mem_append_right _ (List.mem_append_right _ (List.mem_append_right _ (List.mem_append_right _ (List.mem_append_right _ (List.mem_append_right _ (List.mem_append_left _ h))))))))))))))))))))))))))))))
theorem inr_23 : ∀ w ∈ wsL_law_r23, w ∈ wA := fun _ h => List.mem_append_left _ (List.mem_append_left _ (List.mem_append_left _ (List.mem_append_left _ (List.mem_append_left _ (List.mem_append_left _ (List.mem_append_left _ (List.mem_append_left _ (List.mem_append_left _ (List.mem_append_right _ (List.mem_append_right _ (List.mem_append_right _ (List.mem_append_right _ (List.mem_append_right _ (List.mem_append_right _ (List.mem_append_right _ (List.mem_append_right _ (List.mem_append_right _ (List.mem_append_right _ (List.mem_append_right _ (List.mem_append_right _ (List.mem_append_right _ (List.mem_append_right _ (List.mem_append_right _ (List.mem_append_right _ (List.mem_append_right _ (List.mem_append_right _ (List.mem_append_right _ (List.mem_append_right _ (List.mem_append_right _ (List.mem_append_right _ (List.mem_append_left _ h)))))))))))))))))))))))))))))))
theorem inr_24 : ∀ w ∈ wsL_law_r24, w ∈ wA := fun _ h => List.mem_append_left _ (List.mem_append_left _ (List.mem_append_left _ (List.mem_append_left _ (List.mem_append_left _ (List.mem_append_left _ (List.mem_append_left _ (List.mem_append_left _ (List.mem_append_left _ (List.mem_append_right _ (List.mem_append_right _ (List.mem_append_right _ (List.mem_append_right _ (List.mem_append_right _ (List.mem_append_right _ (List.mem_append_right _ (List.mem_append_right _ (List.mem_append_right _ (List.mem_append_right _ (List.mem_append_right _ (List.mem_append_right _ (List.mem_append_right _ (List.mem_append_right _ (List.mem_append_right _ (List.mem_append_right _ (List.mem_append_right _ (List.mem_append_right _ (List.mem_append_right _ (List.mem_append_right _ (List.mem_append_right _ (List.mem_append_right _ (List.mem_append_right _ (List.mem_append_left _ h))))))))))))))))))))))))))))))))
theorem inr_25 : ∀ w ∈ wsL_law_r25, w ∈ wA := fun _ h => List.mem_append_left _ (List.mem_append_left _ (List.mem_append_left _ (List.mem_append_left _ (List.mem_append_left _ (List.mem_append_left _ (List.mem_append_left _ (List.mem_append_left _ (List.mem_append_left _ (List.mem_append_right _ (List.mem_append_right _ (List.mem_append_right _ (List.mem_append_right _ (List.mem_append_right _ (List.mem_append_right _ (List.mem_append_right _ (List.mem_append_right _ (List.mem_append_right _ (List.mem_append_right _ (List.mem_append_right _ (List.mem_append_right _ (List.mem_append_right _ (List.mem_append_right _ (List.mem_append_right _ (List.mem_append_right _ (List.mem_append_right _ (List.mem_append_right _ (List.mem_append_right _ (List.mem_append_right _ (List.mem_append_right _ (List.mem_append_right _ (List.mem_append_right _ (List.mem_append_right _ (List.mem_append_left _ h)))))))))))))))))))))))))))))))))
theorem inr_26 : ∀ w ∈ wsL_law_r26, w ∈ wA := fun _ h => List.mem_append_left _ (List.mem_append_left _ (List.mem_append_left _ (List.mem_append_left _ (List.mem_append_left _ (List.mem_append_left _ (List.mem_append_left _ (List.mem_append_left _ (List.mem_append_left _ (List.mem_append_right _ (List.mem_append_right _ (List.mem_append_right _ (List.mem_append_right _ (List.mem_append_right _ (List.mem_append_right _ (List.mem_append_right _ (List.mem_append_right _ (List.mem_append_right _ (List.mem_append_right _ (List.mem_append_right _ (List.mem_append_right _ (List.mem_append_right _ (List.mem_append_right _ (List.mem_append_right _ (List.mem_append_right _ (List.mem_append_right _ (List.mem_append_right _ (List.mem_append_right _ (List.mem_append_right _ (List.mem_append_right _ (List.mem_append_right _ (List.mem_append_right _ (List.mem_append_right _ (List.mem_append_right _ (List.mem_append_left _ h))))))))))))))))))))))))))))))))))
theorem inr_27 : ∀ w ∈ wsL_law_r27, w ∈ wA := fun _ h => List.mem_append_left _ (List.mem_append_left _ (List.mem_append_left _ (List.mem_append_left _ (List.mem_append_left _ (List.mem_append_left _ (List.mem_append_left _ (List.mem_append_left _ (List.mem_append_left _ (List.mem_append_right _ (List.mem_append_right _ (List.mem_append_right _ (List.mem_append_right _ (List.mem_append_right _ (List.mem_append_right _ (List.mem_append_right _ (List.mem_append_right _ (List.mem_append_right _ (List.mem_append_right _ (List.mem_append_right _ (List.mem_append_right _ (List.mem_append_right _ (List.mem_append_right _ (List.mem_append_right _ (List.mem_append_right _ (List.mem_append_right _ (List.mem_append_right _ (List.mem_append_right _ (List.mem_append_right _ (List.mem_append_right _ (List.mem_append_right _ (List.mem_append_right _ (List.mem_append_right _ (List.mem_append_right _ (List.mem_append_right _ (List.mem_append_left _ h)))))))))))))))))))))))))))))))))))
theorem inr_28 : ∀ w ∈ wsL_law_r28, w ∈ wA := fun _ h => List.mem_append_left _ (List.mem_append_left _ (List.mem_append_left _ (List.mem_append_left _ (List.mem_append_left _ (List.mem_append_left _ (List.mem_append_left _ (List.mem_append_left _ (List.mem_append_left _ (List.mem_append_right _ (List.mem_append_right _ (List.mem_append_right _ (List.mem_append_right _ (List.mem_append_right _ (List.mem_append_right _ (List.mem_append_right _ (List.mem_append_right _ (List.mem_append_right _ (List.mem_append_right _ (List.mem_append_right _ (List.mem_append_right _ (List.mem_append_right _ (List.mem_append_right _ (List.mem_append_right _ (List.mem_append_right _ (List.mem_append_right _ (List.mem_append_right _ (List.mem_append_right _ (List.mem_append_right _ (List.mem_append_right _ (List.mem_append_right _ (List.mem_append_right _ (List.mem_append_right _ (List.mem_append_right _ (List.mem_append_right _ (List.mem_append_right _ (List.mem_append_left _ h))))))))))))))))))))))))))))))))))))
theorem inr_29 : ∀ w ∈ wsL_law_r29, w ∈ wA := fun _ h => List.mem_append_left _ (List.mem_append_left _ (List.mem_append_left _ (List.mem_append_left _ (List.mem_append_left _ (List.mem_append_left _ (List.mem_append_left _ (List.mem_append_left _ (List.mem_append_left _ (List.mem_append_right _ (List.mem_append_right _ (List.mem_append_right _ (List.mem_append_right _ (List.mem_append_right _ (List.mem_append_right _ (List.mem_append_right _ (List.mem_append_right _ (List.mem_append_right _ (List.mem_append_right _ (List.mem_append_right _ (List.mem_append_right _ (List.mem_append_right _ (List.mem_append_right _ (List.mem_append_right _ (List.mem_append_right _ (List.mem_append_right _ (List.mem_append_right _ (List.mem_append_right _ (List.mem_append_right _ (List.mem_append_right _ (List.mem_append_right _ (List.mem_append_right _ (List.mem_append_right _ (List.mem_append_right _ (List.mem_append_right _ (List.mem_append_right _ (List.mem_append_right _ (List.mem_append_left _ h)))))))))))))))))))))))))))))))))))))
theorem inr_30 : ∀ w ∈ wsL_law_r30, w ∈ wA := fun _ h => List.mem_append_left _ (List.mem_append_left _ (List.mem_append_left _ (List.mem_append_left _ (List.mem_append_left _ (List.mem_append_left _ (List.mem_append_left _ (List.mem_append_left _ (List.mem_append_left _ (List.mem_append_right _ (List.mem_append_right _ (List.mem_append_right _ (List.mem_append_right _ (List.mem_append_right _ (List.mem_append_right _ (List.mem_append_right _ (List.mem_append_right _ (List.mem_append_right _ (List.mem_append_right _ (List.mem_append_right _ (List.mem_append_right _ (List.mem_append_right _ (List.mem_append_right _ (List.mem_append_right _ (List.mem_append_right _ (List.mem_append_right _ (List.mem_append_right _ (List.mem_append_right _ (List.mem_append_right _ (List.mem_append_right _ (List.mem_append_right _ (List.mem_append_right _ (List.mem_append_right _ (List.mem_append_right _ (List.mem_append_right _ (List.mem_append_right _ (List.mem_append_right _ (List.mem_append_right _ (List.mem_append_left _ h))))))))))))))))))))))))))))))))))))))
theorem inr_31 : ∀ w ∈ wsL_law_r31, w ∈ wA := fun _ h => List.mem_append_left _ (List.mem_append_left _ (List.mem_append_left _ (List.mem_append_left _ (List.mem_append_left _ (List.mem_append_left _ (List.mem_append_left _ (List.mem_append_left _ (List.mem_append_left _ (List.mem_append_right _ (List.mem_append_right _ (List.mem_append_right _ (List.mem_append_right _ (List.mem_append_right _ (List.mem_append_right _ (List.mem_append_right _ (List.mem_append_right _ (List.mem_append_right _ (List.mem_append_right _ (List.mem_append_right _ (List.mem_append_right _ (List.mem_append_right _ (List.mem_append_right _ (List.mem_append_right _ (List.mem_append_right _ (List.mem_append_right _ (List.mem_append_right _ (List.mem_append_right _ (List.mem_append_right _ (List.mem_append_right _ (List.mem_append_right _ (List.mem_append_right _ (List.mem_append_right _ (List.mem_append_right _ (List.mem_append_right _ (List.mem_append_right _ (List.mem_append_right _ (List.mem_append_right _ (List.mem_append_right _ (List.mem_append_left _ h)))))))))))))))))))))))))))))))))))))))
theorem inr_32 : ∀ w ∈ wsL_law_r32, w ∈ wA := fun _ h => List.mem_append_left _ (List.mem_append_left _ (List.mem_append_left _ (List.mem_append_left _ (List.mem_append_left _ (List.mem_append_left _ (List.mem_append_left _ (List.mem_append_left _ (List.mem_append_left _ (List.mem_append_right _ (List.mem_append_right _ (List.mem_append_right _ (List.mem_append_right _ (List.mem_append_right _ (List.mem_append_right _ (List.mem_append_right _ (List.mem_append_right _ (List.mem_append_right _ (List.mem_append_right _ (List.mem_append_right _ (List.mem_append_right _ (List.mem_append_right _ (List.mem_append_right _ (List.mem_append_right _ (List.mem_append_right _ (List.mem_append_right _ (List.mem_append_right _ (List.mem_append_right _ (List.mem_append_right _ (List.mem_append_right _ (List.mem_append_right _ (List.mem_append_right _ (List.mem_append_right _ (List.mem_append_right _ (List.mem_append_right _ (List.mem_append_right _ (List.mem_append_right _ (List.mem_append_right _ (List.mem_append_right _ (List.mem_append_right _ (List.mem_append_left _ h))))))))))))))))))))))))))))))))))))))))
theorem inr_33 : ∀ w ∈ wsL_law_r33, w ∈ wA := fun _ h => List.mem_append_left _ (List.mem_append_left _ (List.mem_append_left _ (List.mem_append_left _ (List.mem_append_left _ (List.mem_append_left _ (List.mem_append_left _ (List.mem_append_left _ (List.mem_append_left _ (List.mem_append_right _ (List.mem_append_right _ (List.mem_append_right _ (List.mem_append_right _ (List.mem_append_right _ (List.mem_append_right _ (List.mem_append_right _ (List.mem_append_right _ (List.mem_append_right _ (List.mem_append_right _ (List.mem_append_right _ (List.mem_append_right _ (List.mem_append_right _ (List.mem_append_right _ (List.mem_append_right _ (List.mem_append_right _ (List.mem_append_right _ (List.mem_append_right _ (List.mem_append_right _ (List.mem_append_right _ (List.mem_append_right _ (List.mem_append_right _ (List.mem_append_right _ (List.mem_append_right _ (List.mem_append_right _ (List.mem_append_right _ (List.mem_append_right _ (List.mem_append_right _ (List.mem_append_right _ (List.mem_append_right _ (List.mem_append_right _ (List.mem_append_right _ (List.mem_append_left _ h)))))))))))))))))))))))))))))))))))))))))
theorem inr_34 : ∀ w ∈ wsL_law_r34, w ∈ wA := fun _ h => List.mem_append_left _ (List.mem_append_left _ (List.mem_append_left _ (List.mem_append_left _ (List.mem_append_left _ (List.mem_append_left _ (List.mem_append_left _ (List.mem_append_left _ (List.mem_append_left _ (List.mem_append_right _ (List.mem_append_right _ (List.mem_append_right _ (List.mem_append_right _ (List.mem_append_right _ (List.mem_append_right _ (List.mem_append_right _ (List.mem_append_right _ (List.mem_append_right _ (List.mem_append_right _ (List.mem_append_right _ (List.mem_append_right _ (List.mem_append_right _ (List.mem_append_right _ (List.mem_append_right _ (List.mem_append_right _ (List.mem_append_right _ (List.mem_append_right _ (List.mem_append_right _ (List.mem_append_right _ (List.mem_append_right _ (List.mem_append_right _ (List.mem_append_right _ (List.mem_append_right _ (List.mem_append_right _ (List.mem_append_right _ (List.mem_append_right _ (List.mem_append_right _ (List.mem_append_right _ (List.mem_append_right _ (List.mem_append_right _ (List.mem_append_right _ (List.mem_append_right _ (h))))))))))))))))))))))))))))))))))))))))))
theorem mK_L_7 : Cond.classLink RL 7 RX6 ∈ wA := inr_1 _ (List.mem_of_getElem? (i := 0) rfl)
theorem mB_X6 : Cond.instantiable RX6 6 ∈ wA := inr_1 _ (List.mem_of_getElem? (i := 1) rfl)
theorem mZ_X6 : Cond.initialized RX6 ∈ wA := inr_1 _ (List.mem_of_getElem? (i := 2) rfl)
theorem mK_L_10 : Cond.classLink RL 10 RX7 ∈ wA := inr_1 _ (List.mem_of_getElem? (i := 3) rfl)
theorem mB_X7 : Cond.instantiable RX7 11 ∈ wA := inr_1 _ (List.mem_of_getElem? (i := 4) rfl)
theorem mZ_X7 : Cond.initialized RX7 ∈ wA := inr_1 _ (List.mem_of_getElem? (i := 5) rfl)
theorem mM_L_9 : Cond.methodLink RL 9 yX6_init ∈ wA := inr_1 _ (List.mem_of_getElem? (i := 6) rfl)
theorem mI_X6_init : Cond.instanceMethod yX6_init ∈ wA := inr_1 _ (List.mem_of_getElem? (i := 7) rfl)
theorem mC_X6_init : Cond.code yX6_init cX6_init 1 none ∈ wA := inr_1 _ (List.mem_of_getElem? (i := 8) rfl)
theorem mM_X6_1 : Cond.methodLink RX6 1 objectInit ∈ wA := inr_1 _ (List.mem_of_getElem? (i := 9) rfl)
theorem mO_0 : Cond.instanceMethod objectInit ∈ wA := inr_1 _ (List.mem_of_getElem? (i := 10) rfl)
theorem mO_1 : Cond.code objectInit ⟨#[0xb1]⟩ 1 none ∈ wA := inr_1 _ (List.mem_of_getElem? (i := 11) rfl)
theorem mK_X6_7 : Cond.classLink RX6 7 RX2 ∈ wA := inr_1 _ (List.mem_of_getElem? (i := 12) rfl)
theorem mB_X2 : Cond.instantiable RX2 6 ∈ wA := inr_1 _ (List.mem_of_getElem? (i := 13) rfl)
theorem mZ_X2 : Cond.initialized RX2 ∈ wA := inr_1 _ (List.mem_of_getElem? (i := 14) rfl)
theorem mF_X6_10 : Cond.fieldLink RX6 10 "FloorTops" "now" "LFloorTops$State;" ∈ wA := inr_1 _ (List.mem_of_getElem? (i := 15) rfl)
theorem mK_X6_16 : Cond.classLink RX6 16 RX0 ∈ wA := inr_1 _ (List.mem_of_getElem? (i := 16) rfl)
theorem mB_X0 : Cond.instantiable RX0 3 ∈ wA := inr_1 _ (List.mem_of_getElem? (i := 17) rfl)
theorem mZ_X0 : Cond.initialized RX0 ∈ wA := inr_1 _ (List.mem_of_getElem? (i := 18) rfl)
theorem mF_X6_19 : Cond.fieldLink RX6 19 "FloorTops" "history" "LFloorTops$History;" ∈ wA := inr_1 _ (List.mem_of_getElem? (i := 19) rfl)
theorem mF_X6_23 : Cond.fieldLink RX6 23 "FloorTops" "snapshot" "LFloorTops$State;" ∈ wA := inr_1 _ (List.mem_of_getElem? (i := 20) rfl)
theorem mF_X6_26 : Cond.fieldLink RX6 26 "FloorTops" "snapshotTaken" "Z" ∈ wA := inr_1 _ (List.mem_of_getElem? (i := 21) rfl)
theorem mK_X6_30 : Cond.classLink RX6 30 RX4 ∈ wA := inr_1 _ (List.mem_of_getElem? (i := 22) rfl)
theorem mB_X4 : Cond.instantiable RX4 9 ∈ wA := inr_1 _ (List.mem_of_getElem? (i := 23) rfl)
theorem mZ_X4 : Cond.initialized RX4 ∈ wA := inr_2 _ (List.mem_of_getElem? (i := 0) rfl)
theorem mF_X6_33 : Cond.fieldLink RX6 33 "FloorTops" "text" "LFloorTops$Text;" ∈ wA := inr_2 _ (List.mem_of_getElem? (i := 1) rfl)
theorem mK_X6_37 : Cond.classLink RX6 37 RX3 ∈ wA := inr_2 _ (List.mem_of_getElem? (i := 2) rfl)
theorem mB_X3 : Cond.instantiable RX3 8 ∈ wA := inr_2 _ (List.mem_of_getElem? (i := 3) rfl)
theorem mZ_X3 : Cond.initialized RX3 ∈ wA := inr_2 _ (List.mem_of_getElem? (i := 4) rfl)
theorem mF_X6_40 : Cond.fieldLink RX6 40 "FloorTops" "whole" "LFloorTops$Summary;" ∈ wA := inr_2 _ (List.mem_of_getElem? (i := 5) rfl)
theorem mM_X6_9 : Cond.methodLink RX6 9 yX2_init ∈ wA := inr_2 _ (List.mem_of_getElem? (i := 6) rfl)
theorem mI_X2_init : Cond.instanceMethod yX2_init ∈ wA := inr_2 _ (List.mem_of_getElem? (i := 7) rfl)
theorem mC_X2_init : Cond.code yX2_init cX2_init 2 none ∈ wA := inr_2 _ (List.mem_of_getElem? (i := 8) rfl)
theorem mM_X2_3 : Cond.methodLink RX2 3 objectInit ∈ wA := inr_2 _ (List.mem_of_getElem? (i := 9) rfl)
theorem mK_X2_9 : Cond.classLink RX2 9 RX3 ∈ wA := inr_2 _ (List.mem_of_getElem? (i := 10) rfl)
theorem mF_X2_11 : Cond.fieldLink RX2 11 "FloorTops$State" "summaries" "[LFloorTops$Summary;" ∈ wA := inr_2 _ (List.mem_of_getElem? (i := 11) rfl)
theorem mK_X2_17 : Cond.classLink RX2 17 RX5 ∈ wA := inr_2 _ (List.mem_of_getElem? (i := 12) rfl)
theorem mB_X5 : Cond.instantiable RX5 5 ∈ wA := inr_2 _ (List.mem_of_getElem? (i := 13) rfl)
theorem mZ_X5 : Cond.initialized RX5 ∈ wA := inr_2 _ (List.mem_of_getElem? (i := 14) rfl)
theorem mF_X2_20 : Cond.fieldLink RX2 20 "FloorTops$State" "window" "LFloorTops$Window;" ∈ wA := inr_2 _ (List.mem_of_getElem? (i := 15) rfl)
theorem mK_X2_24 : Cond.classLink RX2 24 RX1 ∈ wA := inr_2 _ (List.mem_of_getElem? (i := 16) rfl)
theorem mB_X1 : Cond.instantiable RX1 6 ∈ wA := inr_2 _ (List.mem_of_getElem? (i := 17) rfl)
theorem mZ_X1 : Cond.initialized RX1 ∈ wA := inr_2 _ (List.mem_of_getElem? (i := 18) rfl)
theorem mF_X2_27 : Cond.fieldLink RX2 27 "FloorTops$State" "log" "LFloorTops$Log;" ∈ wA := inr_2 _ (List.mem_of_getElem? (i := 19) rfl)
theorem mF_X2_31 : Cond.fieldLink RX2 31 "FloorTops$State" "time" "I" ∈ wA := inr_2 _ (List.mem_of_getElem? (i := 20) rfl)
theorem mF_X2_35 : Cond.fieldLink RX2 35 "FloorTops$State" "evictions" "I" ∈ wA := inr_2 _ (List.mem_of_getElem? (i := 21) rfl)
theorem mF_X2_38 : Cond.fieldLink RX2 38 "FloorTops$State" "merges" "I" ∈ wA := inr_2 _ (List.mem_of_getElem? (i := 22) rfl)
theorem mM_X2_19 : Cond.methodLink RX2 19 yX5_init ∈ wA := inr_2 _ (List.mem_of_getElem? (i := 23) rfl)
theorem mI_X5_init : Cond.instanceMethod yX5_init ∈ wA := inr_3 _ (List.mem_of_getElem? (i := 0) rfl)
theorem mC_X5_init : Cond.code yX5_init cX5_init 2 none ∈ wA := inr_3 _ (List.mem_of_getElem? (i := 1) rfl)
theorem mM_X5_3 : Cond.methodLink RX5 3 objectInit ∈ wA := inr_3 _ (List.mem_of_getElem? (i := 2) rfl)
theorem mK_X5_9 : Cond.classLink RX5 9 RX3 ∈ wA := inr_3 _ (List.mem_of_getElem? (i := 3) rfl)
theorem mF_X5_11 : Cond.fieldLink RX5 11 "FloorTops$Window" "blocks" "[LFloorTops$Summary;" ∈ wA := inr_3 _ (List.mem_of_getElem? (i := 4) rfl)
theorem mF_X5_17 : Cond.fieldLink RX5 17 "FloorTops$Window" "present" "I" ∈ wA := inr_3 _ (List.mem_of_getElem? (i := 5) rfl)
theorem mF_X5_21 : Cond.fieldLink RX5 21 "FloorTops$Window" "kept" "I" ∈ wA := inr_3 _ (List.mem_of_getElem? (i := 6) rfl)
theorem mF_X5_24 : Cond.fieldLink RX5 24 "FloorTops$Window" "begun" "I" ∈ wA := inr_3 _ (List.mem_of_getElem? (i := 7) rfl)
theorem mF_X5_27 : Cond.fieldLink RX5 27 "FloorTops$Window" "arrivals" "I" ∈ wA := inr_3 _ (List.mem_of_getElem? (i := 8) rfl)
theorem mI_X3_init : Cond.instanceMethod yX3_init ∈ wA := inr_3 _ (List.mem_of_getElem? (i := 9) rfl)
theorem mC_X3_init : Cond.code yX3_init cX3_init 1 none ∈ wA := inr_3 _ (List.mem_of_getElem? (i := 10) rfl)
theorem mM_X3_3 : Cond.methodLink RX3 3 objectInit ∈ wA := inr_3 _ (List.mem_of_getElem? (i := 11) rfl)
theorem mF_X3_9 : Cond.fieldLink RX3 9 "FloorTops$Summary" "size" "I" ∈ wA := inr_3 _ (List.mem_of_getElem? (i := 12) rfl)
theorem mF_X3_15 : Cond.fieldLink RX3 15 "FloorTops$Summary" "floor" "I" ∈ wA := inr_3 _ (List.mem_of_getElem? (i := 13) rfl)
theorem mF_X3_18 : Cond.fieldLink RX3 18 "FloorTops$Summary" "sum" "I" ∈ wA := inr_3 _ (List.mem_of_getElem? (i := 14) rfl)
theorem mF_X3_21 : Cond.fieldLink RX3 21 "FloorTops$Summary" "held" "I" ∈ wA := inr_3 _ (List.mem_of_getElem? (i := 15) rfl)
theorem mO_2 : Cond.arrayClass .int ∈ wA := inr_3 _ (List.mem_of_getElem? (i := 16) rfl)
theorem mF_X3_24 : Cond.fieldLink RX3 24 "FloorTops$Summary" "counts" "[I" ∈ wA := inr_3 _ (List.mem_of_getElem? (i := 17) rfl)
theorem mF_X3_28 : Cond.fieldLink RX3 28 "FloorTops$Summary" "slacks" "[I" ∈ wA := inr_3 _ (List.mem_of_getElem? (i := 18) rfl)
theorem mF_X3_31 : Cond.fieldLink RX3 31 "FloorTops$Summary" "times" "[I" ∈ wA := inr_3 _ (List.mem_of_getElem? (i := 19) rfl)
theorem mF_X3_34 : Cond.fieldLink RX3 34 "FloorTops$Summary" "came" "[I" ∈ wA := inr_3 _ (List.mem_of_getElem? (i := 20) rfl)
theorem mI_X1_init : Cond.instanceMethod yX1_init ∈ wA := inr_3 _ (List.mem_of_getElem? (i := 21) rfl)
theorem mC_X1_init : Cond.code yX1_init cX1_init 1 none ∈ wA := inr_3 _ (List.mem_of_getElem? (i := 22) rfl)
theorem mM_X1_3 : Cond.methodLink RX1 3 objectInit ∈ wA := inr_3 _ (List.mem_of_getElem? (i := 23) rfl)
theorem mF_X1_9 : Cond.fieldLink RX1 9 "FloorTops$Log" "kinds" "[I" ∈ wA := inr_4 _ (List.mem_of_getElem? (i := 0) rfl)
theorem mF_X1_15 : Cond.fieldLink RX1 15 "FloorTops$Log" "places" "[I" ∈ wA := inr_4 _ (List.mem_of_getElem? (i := 1) rfl)
theorem mF_X1_18 : Cond.fieldLink RX1 18 "FloorTops$Log" "values" "[I" ∈ wA := inr_4 _ (List.mem_of_getElem? (i := 2) rfl)
theorem mF_X1_21 : Cond.fieldLink RX1 21 "FloorTops$Log" "times" "[I" ∈ wA := inr_4 _ (List.mem_of_getElem? (i := 3) rfl)
theorem mF_X1_24 : Cond.fieldLink RX1 24 "FloorTops$Log" "next" "I" ∈ wA := inr_4 _ (List.mem_of_getElem? (i := 4) rfl)
theorem mF_X1_28 : Cond.fieldLink RX1 28 "FloorTops$Log" "known" "I" ∈ wA := inr_4 _ (List.mem_of_getElem? (i := 5) rfl)
theorem mM_X6_18 : Cond.methodLink RX6 18 yX0_init ∈ wA := inr_4 _ (List.mem_of_getElem? (i := 6) rfl)
theorem mI_X0_init : Cond.instanceMethod yX0_init ∈ wA := inr_4 _ (List.mem_of_getElem? (i := 7) rfl)
theorem mC_X0_init : Cond.code yX0_init cX0_init 2 none ∈ wA := inr_4 _ (List.mem_of_getElem? (i := 8) rfl)
theorem mM_X0_3 : Cond.methodLink RX0 3 objectInit ∈ wA := inr_4 _ (List.mem_of_getElem? (i := 9) rfl)
theorem mK_X0_9 : Cond.classLink RX0 9 RX2 ∈ wA := inr_4 _ (List.mem_of_getElem? (i := 10) rfl)
theorem mF_X0_11 : Cond.fieldLink RX0 11 "FloorTops$History" "states" "[LFloorTops$State;" ∈ wA := inr_4 _ (List.mem_of_getElem? (i := 11) rfl)
theorem mF_X0_17 : Cond.fieldLink RX0 17 "FloorTops$History" "next" "I" ∈ wA := inr_4 _ (List.mem_of_getElem? (i := 12) rfl)
theorem mF_X0_21 : Cond.fieldLink RX0 21 "FloorTops$History" "known" "I" ∈ wA := inr_4 _ (List.mem_of_getElem? (i := 13) rfl)
theorem mM_X0_24 : Cond.methodLink RX0 24 yX2_init ∈ wA := inr_4 _ (List.mem_of_getElem? (i := 14) rfl)
theorem mI_X4_init : Cond.instanceMethod yX4_init ∈ wA := inr_4 _ (List.mem_of_getElem? (i := 15) rfl)
theorem mC_X4_init : Cond.code yX4_init cX4_init 1 none ∈ wA := inr_4 _ (List.mem_of_getElem? (i := 16) rfl)
theorem mM_X4_3 : Cond.methodLink RX4 3 objectInit ∈ wA := inr_4 _ (List.mem_of_getElem? (i := 17) rfl)
theorem mO_3 : Cond.arrayClass .char ∈ wA := inr_4 _ (List.mem_of_getElem? (i := 18) rfl)
theorem mF_X4_9 : Cond.fieldLink RX4 9 "FloorTops$Text" "signs" "[C" ∈ wA := inr_4 _ (List.mem_of_getElem? (i := 19) rfl)
theorem mF_X4_15 : Cond.fieldLink RX4 15 "FloorTops$Text" "length" "I" ∈ wA := inr_4 _ (List.mem_of_getElem? (i := 20) rfl)
theorem mF_X4_19 : Cond.fieldLink RX4 19 "FloorTops$Text" "letters" "[I" ∈ wA := inr_4 _ (List.mem_of_getElem? (i := 21) rfl)
theorem mF_X4_23 : Cond.fieldLink RX4 23 "FloorTops$Text" "weights" "[I" ∈ wA := inr_4 _ (List.mem_of_getElem? (i := 22) rfl)
theorem mF_X4_26 : Cond.fieldLink RX4 26 "FloorTops$Text" "arrivals" "I" ∈ wA := inr_4 _ (List.mem_of_getElem? (i := 23) rfl)
theorem mF_X4_29 : Cond.fieldLink RX4 29 "FloorTops$Text" "word" "I" ∈ wA := inr_5 _ (List.mem_of_getElem? (i := 0) rfl)
theorem mF_X4_32 : Cond.fieldLink RX4 32 "FloorTops$Text" "firstNumber" "I" ∈ wA := inr_5 _ (List.mem_of_getElem? (i := 1) rfl)
theorem mF_X4_35 : Cond.fieldLink RX4 35 "FloorTops$Text" "secondNumber" "I" ∈ wA := inr_5 _ (List.mem_of_getElem? (i := 2) rfl)
theorem mF_X4_38 : Cond.fieldLink RX4 38 "FloorTops$Text" "at" "I" ∈ wA := inr_5 _ (List.mem_of_getElem? (i := 3) rfl)
theorem mM_L_12 : Cond.methodLink RL 12 yX7_init ∈ wA := inr_5 _ (List.mem_of_getElem? (i := 4) rfl)
theorem mI_X7_init : Cond.instanceMethod yX7_init ∈ wA := inr_5 _ (List.mem_of_getElem? (i := 5) rfl)
theorem mC_X7_init : Cond.code yX7_init cX7_init 2 none ∈ wA := inr_5 _ (List.mem_of_getElem? (i := 6) rfl)
theorem mM_X7_1 : Cond.methodLink RX7 1 objectInit ∈ wA := inr_5 _ (List.mem_of_getElem? (i := 7) rfl)
theorem mF_X7_7 : Cond.fieldLink RX7 7 "FloorTopsModel" "now" "[I" ∈ wA := inr_5 _ (List.mem_of_getElem? (i := 8) rfl)
theorem mF_X7_13 : Cond.fieldLink RX7 13 "FloorTopsModel" "history" "[I" ∈ wA := inr_5 _ (List.mem_of_getElem? (i := 9) rfl)
theorem mF_X7_16 : Cond.fieldLink RX7 16 "FloorTopsModel" "slot" "[I" ∈ wA := inr_5 _ (List.mem_of_getElem? (i := 10) rfl)
theorem mF_X7_19 : Cond.fieldLink RX7 19 "FloorTopsModel" "text" "[C" ∈ wA := inr_5 _ (List.mem_of_getElem? (i := 11) rfl)
theorem mM_X7_23 : Cond.methodLink RX7 23 yX7_puts ∈ wA := inr_5 _ (List.mem_of_getElem? (i := 12) rfl)
theorem mI_X7_puts : Cond.instanceMethod yX7_puts ∈ wA := inr_5 _ (List.mem_of_getElem? (i := 13) rfl)
theorem mS_X7_puts : Cond.selects RX7 yX7_puts yX7_puts ∈ wA := inr_5 _ (List.mem_of_getElem? (i := 14) rfl)
theorem mC_X7_puts : Cond.code yX7_puts cX7_puts 4 none ∈ wA := inr_5 _ (List.mem_of_getElem? (i := 15) rfl)
theorem mM_X7_27 : Cond.methodLink RX7 27 yX7_base ∈ wA := inr_5 _ (List.mem_of_getElem? (i := 16) rfl)
theorem mT_X7_base : Cond.static yX7_base ∈ wA := inr_5 _ (List.mem_of_getElem? (i := 17) rfl)
theorem mC_X7_base : Cond.code yX7_base cX7_base 1 (some .int) ∈ wA := inr_5 _ (List.mem_of_getElem? (i := 18) rfl)
theorem mM_L_13 : Cond.methodLink RL 13 yX6_arrive ∈ wA := inr_5 _ (List.mem_of_getElem? (i := 19) rfl)
theorem mI_X6_arrive : Cond.instanceMethod yX6_arrive ∈ wA := inr_5 _ (List.mem_of_getElem? (i := 20) rfl)
theorem mS_X6_arrive : Cond.selects RX6 yX6_arrive yX6_arrive ∈ wA := inr_5 _ (List.mem_of_getElem? (i := 21) rfl)
theorem mC_X6_arrive : Cond.code yX6_arrive cX6_arrive 6 (some .int) ∈ wA := inr_5 _ (List.mem_of_getElem? (i := 22) rfl)
theorem mF_X6_55 : Cond.fieldLink RX6 55 "FloorTops$State" "summaries" "[LFloorTops$Summary;" ∈ wA := inr_5 _ (List.mem_of_getElem? (i := 23) rfl)
theorem mF_X6_59 : Cond.fieldLink RX6 59 "FloorTops$Summary" "sum" "I" ∈ wA := inr_6 _ (List.mem_of_getElem? (i := 0) rfl)
theorem mN_X6_63 : Cond.constant RX6 63 (1000000) ∈ wA := inr_6 _ (List.mem_of_getElem? (i := 1) rfl)
theorem mM_X6_44 : Cond.methodLink RX6 44 yX6_letterIndex ∈ wA := inr_6 _ (List.mem_of_getElem? (i := 2) rfl)
theorem mT_X6_letterIndex : Cond.static yX6_letterIndex ∈ wA := inr_6 _ (List.mem_of_getElem? (i := 3) rfl)
theorem mC_X6_letterIndex : Cond.code yX6_letterIndex cX6_letterIndex 1 (some .int) ∈ wA := inr_6 _ (List.mem_of_getElem? (i := 4) rfl)
theorem mM_X6_48 : Cond.methodLink RX6 48 yX6_isSummary ∈ wA := inr_6 _ (List.mem_of_getElem? (i := 5) rfl)
theorem mT_X6_isSummary : Cond.static yX6_isSummary ∈ wA := inr_6 _ (List.mem_of_getElem? (i := 6) rfl)
theorem mC_X6_isSummary : Cond.code yX6_isSummary cX6_isSummary 1 (some .boolean) ∈ wA := inr_6 _ (List.mem_of_getElem? (i := 7) rfl)
theorem mM_X6_52 : Cond.methodLink RX6 52 yX6_isWeight ∈ wA := inr_6 _ (List.mem_of_getElem? (i := 8) rfl)
theorem mT_X6_isWeight : Cond.static yX6_isWeight ∈ wA := inr_6 _ (List.mem_of_getElem? (i := 9) rfl)
theorem mC_X6_isWeight : Cond.code yX6_isWeight cX6_isWeight 1 (some .boolean) ∈ wA := inr_6 _ (List.mem_of_getElem? (i := 10) rfl)
theorem mM_X6_64 : Cond.methodLink RX6 64 yX0_remember ∈ wA := inr_6 _ (List.mem_of_getElem? (i := 11) rfl)
theorem mI_X0_remember : Cond.instanceMethod yX0_remember ∈ wA := inr_6 _ (List.mem_of_getElem? (i := 12) rfl)
theorem mS_X0_remember : Cond.selects RX0 yX0_remember yX0_remember ∈ wA := inr_6 _ (List.mem_of_getElem? (i := 13) rfl)
theorem mC_X0_remember : Cond.code yX0_remember cX0_remember 2 none ∈ wA := inr_6 _ (List.mem_of_getElem? (i := 14) rfl)
theorem mM_X0_29 : Cond.methodLink RX0 29 Lib.Math.min.name ∈ wA := inr_6 _ (List.mem_of_getElem? (i := 15) rfl)
theorem mO_4 : Cond.static Lib.Math.min.name ∈ wA := inr_6 _ (List.mem_of_getElem? (i := 16) rfl)
theorem mZ_Math : Cond.initialized "java/lang/Math" ∈ wA := inr_6 _ (List.mem_of_getElem? (i := 17) rfl)
theorem mO_5 : Cond.code Lib.Math.min.name Lib.Math.min.code 2 (some .int) ∈ wA := inr_6 _ (List.mem_of_getElem? (i := 18) rfl)
theorem mM_X0_25 : Cond.methodLink RX0 25 yX2_become ∈ wA := inr_6 _ (List.mem_of_getElem? (i := 19) rfl)
theorem mI_X2_become : Cond.instanceMethod yX2_become ∈ wA := inr_6 _ (List.mem_of_getElem? (i := 20) rfl)
theorem mS_X2_become : Cond.selects RX2 yX2_become yX2_become ∈ wA := inr_6 _ (List.mem_of_getElem? (i := 21) rfl)
theorem mC_X2_become : Cond.code yX2_become cX2_become 3 none ∈ wA := inr_6 _ (List.mem_of_getElem? (i := 22) rfl)
theorem mM_X2_92 : Cond.methodLink RX2 92 yX3_become ∈ wA := inr_6 _ (List.mem_of_getElem? (i := 23) rfl)
theorem mI_X3_become : Cond.instanceMethod yX3_become ∈ wA := inr_7 _ (List.mem_of_getElem? (i := 0) rfl)
theorem mS_X3_become : Cond.selects RX3 yX3_become yX3_become ∈ wA := inr_7 _ (List.mem_of_getElem? (i := 1) rfl)
theorem mC_X3_become : Cond.code yX3_become cX3_become 2 none ∈ wA := inr_7 _ (List.mem_of_getElem? (i := 2) rfl)
theorem mM_X3_86 : Cond.methodLink RX3 86 arraycopyName ∈ wA := inr_7 _ (List.mem_of_getElem? (i := 3) rfl)
theorem mO_6 : Cond.native arraycopyName ∈ wA := inr_7 _ (List.mem_of_getElem? (i := 4) rfl)
theorem mO_7 : Cond.static arraycopyName ∈ wA := inr_7 _ (List.mem_of_getElem? (i := 5) rfl)
theorem mZ_System : Cond.initialized "java/lang/System" ∈ wA := inr_7 _ (List.mem_of_getElem? (i := 6) rfl)
theorem mM_X2_96 : Cond.methodLink RX2 96 yX5_become ∈ wA := inr_7 _ (List.mem_of_getElem? (i := 7) rfl)
theorem mI_X5_become : Cond.instanceMethod yX5_become ∈ wA := inr_7 _ (List.mem_of_getElem? (i := 8) rfl)
theorem mS_X5_become : Cond.selects RX5 yX5_become yX5_become ∈ wA := inr_7 _ (List.mem_of_getElem? (i := 9) rfl)
theorem mC_X5_become : Cond.code yX5_become cX5_become 3 none ∈ wA := inr_7 _ (List.mem_of_getElem? (i := 10) rfl)
theorem mM_X5_48 : Cond.methodLink RX5 48 yX3_become ∈ wA := inr_7 _ (List.mem_of_getElem? (i := 11) rfl)
theorem mM_X2_99 : Cond.methodLink RX2 99 yX1_become ∈ wA := inr_7 _ (List.mem_of_getElem? (i := 12) rfl)
theorem mI_X1_become : Cond.instanceMethod yX1_become ∈ wA := inr_7 _ (List.mem_of_getElem? (i := 13) rfl)
theorem mS_X1_become : Cond.selects RX1 yX1_become yX1_become ∈ wA := inr_7 _ (List.mem_of_getElem? (i := 14) rfl)
theorem mC_X1_become : Cond.code yX1_become cX1_become 2 none ∈ wA := inr_7 _ (List.mem_of_getElem? (i := 15) rfl)
theorem mM_X1_37 : Cond.methodLink RX1 37 arraycopyName ∈ wA := inr_7 _ (List.mem_of_getElem? (i := 16) rfl)
theorem mM_X6_68 : Cond.methodLink RX6 68 yX2_bring ∈ wA := inr_7 _ (List.mem_of_getElem? (i := 17) rfl)
theorem mI_X2_bring : Cond.instanceMethod yX2_bring ∈ wA := inr_7 _ (List.mem_of_getElem? (i := 18) rfl)
theorem mS_X2_bring : Cond.selects RX2 yX2_bring yX2_bring ∈ wA := inr_7 _ (List.mem_of_getElem? (i := 19) rfl)
theorem mC_X2_bring : Cond.code yX2_bring cX2_bring 5 none ∈ wA := inr_7 _ (List.mem_of_getElem? (i := 20) rfl)
theorem mM_X2_42 : Cond.methodLink RX2 42 yX3_receive ∈ wA := inr_7 _ (List.mem_of_getElem? (i := 21) rfl)
theorem mI_X3_receive : Cond.instanceMethod yX3_receive ∈ wA := inr_7 _ (List.mem_of_getElem? (i := 22) rfl)
theorem mS_X3_receive : Cond.selects RX3 yX3_receive yX3_receive ∈ wA := inr_7 _ (List.mem_of_getElem? (i := 23) rfl)
theorem mC_X3_receive : Cond.code yX3_receive cX3_receive 5 (some .int) ∈ wA := inr_8 _ (List.mem_of_getElem? (i := 0) rfl)
theorem mM_X3_43 : Cond.methodLink RX3 43 yX3_has ∈ wA := inr_8 _ (List.mem_of_getElem? (i := 1) rfl)
theorem mI_X3_has : Cond.instanceMethod yX3_has ∈ wA := inr_8 _ (List.mem_of_getElem? (i := 2) rfl)
theorem mS_X3_has : Cond.selects RX3 yX3_has yX3_has ∈ wA := inr_8 _ (List.mem_of_getElem? (i := 3) rfl)
theorem mC_X3_has : Cond.code yX3_has cX3_has 2 (some .boolean) ∈ wA := inr_8 _ (List.mem_of_getElem? (i := 4) rfl)
theorem mM_X3_51 : Cond.methodLink RX3 51 yX3_needsRoomFor ∈ wA := inr_8 _ (List.mem_of_getElem? (i := 5) rfl)
theorem mI_X3_needsRoomFor : Cond.instanceMethod yX3_needsRoomFor ∈ wA := inr_8 _ (List.mem_of_getElem? (i := 6) rfl)
theorem mS_X3_needsRoomFor : Cond.selects RX3 yX3_needsRoomFor yX3_needsRoomFor ∈ wA := inr_8 _ (List.mem_of_getElem? (i := 7) rfl)
theorem mC_X3_needsRoomFor : Cond.code yX3_needsRoomFor cX3_needsRoomFor 2 (some .boolean) ∈ wA := inr_8 _ (List.mem_of_getElem? (i := 8) rfl)
theorem mM_X3_47 : Cond.methodLink RX3 47 yX3_counters ∈ wA := inr_8 _ (List.mem_of_getElem? (i := 9) rfl)
theorem mI_X3_counters : Cond.instanceMethod yX3_counters ∈ wA := inr_8 _ (List.mem_of_getElem? (i := 10) rfl)
theorem mS_X3_counters : Cond.selects RX3 yX3_counters yX3_counters ∈ wA := inr_8 _ (List.mem_of_getElem? (i := 11) rfl)
theorem mC_X3_counters : Cond.code yX3_counters cX3_counters 1 (some .int) ∈ wA := inr_8 _ (List.mem_of_getElem? (i := 12) rfl)
theorem mM_X3_37 : Cond.methodLink RX3 37 yJ6_bitCount_0f7a4 ∈ wA := inr_8 _ (List.mem_of_getElem? (i := 13) rfl)
theorem mT_J6_bitCount_0f7a4 : Cond.static yJ6_bitCount_0f7a4 ∈ wA := inr_8 _ (List.mem_of_getElem? (i := 14) rfl)
theorem mZ_J6 : Cond.initialized RJ6 ∈ wA := inr_8 _ (List.mem_of_getElem? (i := 15) rfl)
theorem mC_J6_bitCount_0f7a4 : Cond.code yJ6_bitCount_0f7a4 cJ6_bitCount_0f7a4 1 (some .int) ∈ wA := inr_8 _ (List.mem_of_getElem? (i := 16) rfl)
theorem mN_J6_265 : Cond.constant RJ6 265 (1431655765) ∈ wA := inr_8 _ (List.mem_of_getElem? (i := 17) rfl)
theorem mN_J6_266 : Cond.constant RJ6 266 (858993459) ∈ wA := inr_8 _ (List.mem_of_getElem? (i := 18) rfl)
theorem mN_J6_267 : Cond.constant RJ6 267 (252645135) ∈ wA := inr_8 _ (List.mem_of_getElem? (i := 19) rfl)
theorem mM_X3_54 : Cond.methodLink RX3 54 yX3_evictNext ∈ wA := inr_8 _ (List.mem_of_getElem? (i := 20) rfl)
theorem mI_X3_evictNext : Cond.instanceMethod yX3_evictNext ∈ wA := inr_8 _ (List.mem_of_getElem? (i := 21) rfl)
theorem mS_X3_evictNext : Cond.selects RX3 yX3_evictNext yX3_evictNext ∈ wA := inr_8 _ (List.mem_of_getElem? (i := 22) rfl)
theorem mC_X3_evictNext : Cond.code yX3_evictNext cX3_evictNext 2 (some .int) ∈ wA := inr_8 _ (List.mem_of_getElem? (i := 23) rfl)
theorem mM_X3_61 : Cond.methodLink RX3 61 yX3_nextEvicted ∈ wA := inr_9 _ (List.mem_of_getElem? (i := 0) rfl)
theorem mI_X3_nextEvicted : Cond.instanceMethod yX3_nextEvicted ∈ wA := inr_9 _ (List.mem_of_getElem? (i := 1) rfl)
theorem mS_X3_nextEvicted : Cond.selects RX3 yX3_nextEvicted yX3_nextEvicted ∈ wA := inr_9 _ (List.mem_of_getElem? (i := 2) rfl)
theorem mC_X3_nextEvicted : Cond.code yX3_nextEvicted cX3_nextEvicted 3 (some .int) ∈ wA := inr_9 _ (List.mem_of_getElem? (i := 3) rfl)
theorem mM_X3_57 : Cond.methodLink RX3 57 yX3_goesBefore ∈ wA := inr_9 _ (List.mem_of_getElem? (i := 4) rfl)
theorem mI_X3_goesBefore : Cond.instanceMethod yX3_goesBefore ∈ wA := inr_9 _ (List.mem_of_getElem? (i := 5) rfl)
theorem mS_X3_goesBefore : Cond.selects RX3 yX3_goesBefore yX3_goesBefore ∈ wA := inr_9 _ (List.mem_of_getElem? (i := 6) rfl)
theorem mC_X3_goesBefore : Cond.code yX3_goesBefore cX3_goesBefore 3 (some .boolean) ∈ wA := inr_9 _ (List.mem_of_getElem? (i := 7) rfl)
theorem mM_X3_64 : Cond.methodLink RX3 64 yX3_takeCounter ∈ wA := inr_9 _ (List.mem_of_getElem? (i := 8) rfl)
theorem mI_X3_takeCounter : Cond.instanceMethod yX3_takeCounter ∈ wA := inr_9 _ (List.mem_of_getElem? (i := 9) rfl)
theorem mS_X3_takeCounter : Cond.selects RX3 yX3_takeCounter yX3_takeCounter ∈ wA := inr_9 _ (List.mem_of_getElem? (i := 10) rfl)
theorem mC_X3_takeCounter : Cond.code yX3_takeCounter cX3_takeCounter 2 none ∈ wA := inr_9 _ (List.mem_of_getElem? (i := 11) rfl)
theorem mM_X3_68 : Cond.methodLink RX3 68 Lib.Math.max.name ∈ wA := inr_9 _ (List.mem_of_getElem? (i := 12) rfl)
theorem mO_8 : Cond.static Lib.Math.max.name ∈ wA := inr_9 _ (List.mem_of_getElem? (i := 13) rfl)
theorem mO_9 : Cond.code Lib.Math.max.name Lib.Math.max.code 2 (some .int) ∈ wA := inr_9 _ (List.mem_of_getElem? (i := 14) rfl)
theorem mM_X2_46 : Cond.methodLink RX2 46 yX2_noteEviction ∈ wA := inr_9 _ (List.mem_of_getElem? (i := 15) rfl)
theorem mI_X2_noteEviction : Cond.instanceMethod yX2_noteEviction ∈ wA := inr_9 _ (List.mem_of_getElem? (i := 16) rfl)
theorem mS_X2_noteEviction : Cond.selects RX2 yX2_noteEviction yX2_noteEviction ∈ wA := inr_9 _ (List.mem_of_getElem? (i := 17) rfl)
theorem mC_X2_noteEviction : Cond.code yX2_noteEviction cX2_noteEviction 3 none ∈ wA := inr_9 _ (List.mem_of_getElem? (i := 18) rfl)
theorem mT_X6_codeOf : Cond.static yX6_codeOf ∈ wA := inr_9 _ (List.mem_of_getElem? (i := 19) rfl)
theorem mC_X6_codeOf : Cond.code yX6_codeOf cX6_codeOf 1 (some .int) ∈ wA := inr_9 _ (List.mem_of_getElem? (i := 20) rfl)
theorem mM_X2_59 : Cond.methodLink RX2 59 yX1_note ∈ wA := inr_9 _ (List.mem_of_getElem? (i := 21) rfl)
theorem mI_X1_note : Cond.instanceMethod yX1_note ∈ wA := inr_9 _ (List.mem_of_getElem? (i := 22) rfl)
theorem mS_X1_note : Cond.selects RX1 yX1_note yX1_note ∈ wA := inr_9 _ (List.mem_of_getElem? (i := 23) rfl)
theorem mC_X1_note : Cond.code yX1_note cX1_note 6 none ∈ wA := inr_10 _ (List.mem_of_getElem? (i := 0) rfl)
theorem mM_X1_31 : Cond.methodLink RX1 31 Lib.Math.min.name ∈ wA := inr_10 _ (List.mem_of_getElem? (i := 1) rfl)
theorem mM_X6_72 : Cond.methodLink RX6 72 yX3_upper ∈ wA := inr_10 _ (List.mem_of_getElem? (i := 2) rfl)
theorem mI_X3_upper : Cond.instanceMethod yX3_upper ∈ wA := inr_10 _ (List.mem_of_getElem? (i := 3) rfl)
theorem mS_X3_upper : Cond.selects RX3 yX3_upper yX3_upper ∈ wA := inr_10 _ (List.mem_of_getElem? (i := 4) rfl)
theorem mC_X3_upper : Cond.code yX3_upper cX3_upper 2 (some .int) ∈ wA := inr_10 _ (List.mem_of_getElem? (i := 5) rfl)
theorem mM_L_17 : Cond.methodLink RL 17 yX7_arrive ∈ wA := inr_10 _ (List.mem_of_getElem? (i := 6) rfl)
theorem mI_X7_arrive : Cond.instanceMethod yX7_arrive ∈ wA := inr_10 _ (List.mem_of_getElem? (i := 7) rfl)
theorem mS_X7_arrive : Cond.selects RX7 yX7_arrive yX7_arrive ∈ wA := inr_10 _ (List.mem_of_getElem? (i := 8) rfl)
theorem mC_X7_arrive : Cond.code yX7_arrive cX7_arrive 4 (some .int) ∈ wA := inr_10 _ (List.mem_of_getElem? (i := 9) rfl)
theorem mN_X7_80 : Cond.constant RX7 80 (1000000) ∈ wA := inr_10 _ (List.mem_of_getElem? (i := 10) rfl)
theorem mM_X7_72 : Cond.methodLink RX7 72 yX7_isSummary ∈ wA := inr_10 _ (List.mem_of_getElem? (i := 11) rfl)
theorem mT_X7_isSummary : Cond.static yX7_isSummary ∈ wA := inr_10 _ (List.mem_of_getElem? (i := 12) rfl)
theorem mC_X7_isSummary : Cond.code yX7_isSummary cX7_isSummary 1 (some .boolean) ∈ wA := inr_10 _ (List.mem_of_getElem? (i := 13) rfl)
theorem mM_X7_35 : Cond.methodLink RX7 35 yX7_in ∈ wA := inr_10 _ (List.mem_of_getElem? (i := 14) rfl)
theorem mT_X7_in : Cond.static yX7_in ∈ wA := inr_10 _ (List.mem_of_getElem? (i := 15) rfl)
theorem mC_X7_in : Cond.code yX7_in cX7_in 3 (some .boolean) ∈ wA := inr_10 _ (List.mem_of_getElem? (i := 16) rfl)
theorem mM_X7_76 : Cond.methodLink RX7 76 yX7_isLetter ∈ wA := inr_10 _ (List.mem_of_getElem? (i := 17) rfl)
theorem mT_X7_isLetter : Cond.static yX7_isLetter ∈ wA := inr_10 _ (List.mem_of_getElem? (i := 18) rfl)
theorem mC_X7_isLetter : Cond.code yX7_isLetter cX7_isLetter 1 (some .boolean) ∈ wA := inr_10 _ (List.mem_of_getElem? (i := 19) rfl)
theorem mM_X7_47 : Cond.methodLink RX7 47 yX7_of ∈ wA := inr_10 _ (List.mem_of_getElem? (i := 20) rfl)
theorem mI_X7_of : Cond.instanceMethod yX7_of ∈ wA := inr_10 _ (List.mem_of_getElem? (i := 21) rfl)
theorem mS_X7_of : Cond.selects RX7 yX7_of yX7_of ∈ wA := inr_10 _ (List.mem_of_getElem? (i := 22) rfl)
theorem mC_X7_of : Cond.code yX7_of cX7_of 3 (some .int) ∈ wA := inr_10 _ (List.mem_of_getElem? (i := 23) rfl)
theorem mM_X7_81 : Cond.methodLink RX7 81 yX7_record ∈ wA := inr_11 _ (List.mem_of_getElem? (i := 0) rfl)
theorem mI_X7_record : Cond.instanceMethod yX7_record ∈ wA := inr_11 _ (List.mem_of_getElem? (i := 1) rfl)
theorem mS_X7_record : Cond.selects RX7 yX7_record yX7_record ∈ wA := inr_11 _ (List.mem_of_getElem? (i := 2) rfl)
theorem mC_X7_record : Cond.code yX7_record cX7_record 2 none ∈ wA := inr_11 _ (List.mem_of_getElem? (i := 3) rfl)
theorem mF_X7_39 : Cond.fieldLink RX7 39 "FloorTopsModel" "kept" "I" ∈ wA := inr_11 _ (List.mem_of_getElem? (i := 4) rfl)
theorem mM_X7_84 : Cond.methodLink RX7 84 yX7_comes ∈ wA := inr_11 _ (List.mem_of_getElem? (i := 5) rfl)
theorem mI_X7_comes : Cond.instanceMethod yX7_comes ∈ wA := inr_11 _ (List.mem_of_getElem? (i := 6) rfl)
theorem mS_X7_comes : Cond.selects RX7 yX7_comes yX7_comes ∈ wA := inr_11 _ (List.mem_of_getElem? (i := 7) rfl)
theorem mC_X7_comes : Cond.code yX7_comes cX7_comes 4 none ∈ wA := inr_11 _ (List.mem_of_getElem? (i := 8) rfl)
theorem mM_X7_31 : Cond.methodLink RX7 31 yX7_its ∈ wA := inr_11 _ (List.mem_of_getElem? (i := 9) rfl)
theorem mI_X7_its : Cond.instanceMethod yX7_its ∈ wA := inr_11 _ (List.mem_of_getElem? (i := 10) rfl)
theorem mS_X7_its : Cond.selects RX7 yX7_its yX7_its ∈ wA := inr_11 _ (List.mem_of_getElem? (i := 11) rfl)
theorem mC_X7_its : Cond.code yX7_its cX7_its 4 (some .int) ∈ wA := inr_11 _ (List.mem_of_getElem? (i := 12) rfl)
theorem mM_X7_51 : Cond.methodLink RX7 51 yX7_gives ∈ wA := inr_11 _ (List.mem_of_getElem? (i := 13) rfl)
theorem mI_X7_gives : Cond.instanceMethod yX7_gives ∈ wA := inr_11 _ (List.mem_of_getElem? (i := 14) rfl)
theorem mS_X7_gives : Cond.selects RX7 yX7_gives yX7_gives ∈ wA := inr_11 _ (List.mem_of_getElem? (i := 15) rfl)
theorem mC_X7_gives : Cond.code yX7_gives cX7_gives 5 none ∈ wA := inr_11 _ (List.mem_of_getElem? (i := 16) rfl)
theorem mM_X7_43 : Cond.methodLink RX7 43 yX7_has ∈ wA := inr_11 _ (List.mem_of_getElem? (i := 17) rfl)
theorem mI_X7_has : Cond.instanceMethod yX7_has ∈ wA := inr_11 _ (List.mem_of_getElem? (i := 18) rfl)
theorem mS_X7_has : Cond.selects RX7 yX7_has yX7_has ∈ wA := inr_11 _ (List.mem_of_getElem? (i := 19) rfl)
theorem mC_X7_has : Cond.code yX7_has cX7_has 3 (some .boolean) ∈ wA := inr_11 _ (List.mem_of_getElem? (i := 20) rfl)
theorem mM_X7_65 : Cond.methodLink RX7 65 yX7_counters ∈ wA := inr_11 _ (List.mem_of_getElem? (i := 21) rfl)
theorem mI_X7_counters : Cond.instanceMethod yX7_counters ∈ wA := inr_11 _ (List.mem_of_getElem? (i := 22) rfl)
theorem mS_X7_counters : Cond.selects RX7 yX7_counters yX7_counters ∈ wA := inr_11 _ (List.mem_of_getElem? (i := 23) rfl)
theorem mC_X7_counters : Cond.code yX7_counters cX7_counters 4 (some .int) ∈ wA := inr_12 _ (List.mem_of_getElem? (i := 0) rfl)
theorem mM_X7_68 : Cond.methodLink RX7 68 yX7_evicts ∈ wA := inr_12 _ (List.mem_of_getElem? (i := 1) rfl)
theorem mI_X7_evicts : Cond.instanceMethod yX7_evicts ∈ wA := inr_12 _ (List.mem_of_getElem? (i := 2) rfl)
theorem mS_X7_evicts : Cond.selects RX7 yX7_evicts yX7_evicts ∈ wA := inr_12 _ (List.mem_of_getElem? (i := 3) rfl)
theorem mC_X7_evicts : Cond.code yX7_evicts cX7_evicts 3 none ∈ wA := inr_12 _ (List.mem_of_getElem? (i := 4) rfl)
theorem mM_X7_55 : Cond.methodLink RX7 55 yX7_least ∈ wA := inr_12 _ (List.mem_of_getElem? (i := 5) rfl)
theorem mI_X7_least : Cond.instanceMethod yX7_least ∈ wA := inr_12 _ (List.mem_of_getElem? (i := 6) rfl)
theorem mS_X7_least : Cond.selects RX7 yX7_least yX7_least ∈ wA := inr_12 _ (List.mem_of_getElem? (i := 7) rfl)
theorem mC_X7_least : Cond.code yX7_least cX7_least 5 (some .int) ∈ wA := inr_12 _ (List.mem_of_getElem? (i := 8) rfl)
theorem mM_X7_58 : Cond.methodLink RX7 58 yX7_drops ∈ wA := inr_12 _ (List.mem_of_getElem? (i := 9) rfl)
theorem mI_X7_drops : Cond.instanceMethod yX7_drops ∈ wA := inr_12 _ (List.mem_of_getElem? (i := 10) rfl)
theorem mS_X7_drops : Cond.selects RX7 yX7_drops yX7_drops ∈ wA := inr_12 _ (List.mem_of_getElem? (i := 11) rfl)
theorem mC_X7_drops : Cond.code yX7_drops cX7_drops 4 none ∈ wA := inr_12 _ (List.mem_of_getElem? (i := 12) rfl)
theorem mM_X7_62 : Cond.methodLink RX7 62 yX7_tells ∈ wA := inr_12 _ (List.mem_of_getElem? (i := 13) rfl)
theorem mI_X7_tells : Cond.instanceMethod yX7_tells ∈ wA := inr_12 _ (List.mem_of_getElem? (i := 14) rfl)
theorem mS_X7_tells : Cond.selects RX7 yX7_tells yX7_tells ∈ wA := inr_12 _ (List.mem_of_getElem? (i := 15) rfl)
theorem mC_X7_tells : Cond.code yX7_tells cX7_tells 5 none ∈ wA := inr_12 _ (List.mem_of_getElem? (i := 16) rfl)
theorem mM_L_18 : Cond.methodLink RL 18 yX6_feed ∈ wA := inr_12 _ (List.mem_of_getElem? (i := 17) rfl)
theorem mI_X6_feed : Cond.instanceMethod yX6_feed ∈ wA := inr_12 _ (List.mem_of_getElem? (i := 18) rfl)
theorem mS_X6_feed : Cond.selects RX6 yX6_feed yX6_feed ∈ wA := inr_12 _ (List.mem_of_getElem? (i := 19) rfl)
theorem mC_X6_feed : Cond.code yX6_feed cX6_feed 5 (some .int) ∈ wA := inr_12 _ (List.mem_of_getElem? (i := 20) rfl)
theorem mF_X6_83 : Cond.fieldLink RX6 83 "FloorTops$Text" "arrivals" "I" ∈ wA := inr_12 _ (List.mem_of_getElem? (i := 21) rfl)
theorem mF_X6_86 : Cond.fieldLink RX6 86 "FloorTops$Text" "letters" "[I" ∈ wA := inr_12 _ (List.mem_of_getElem? (i := 22) rfl)
theorem mF_X6_90 : Cond.fieldLink RX6 90 "FloorTops$Text" "weights" "[I" ∈ wA := inr_12 _ (List.mem_of_getElem? (i := 23) rfl)
theorem mM_X6_76 : Cond.methodLink RX6 76 yX4_readArrivals ∈ wA := inr_13 _ (List.mem_of_getElem? (i := 0) rfl)
theorem mI_X4_readArrivals : Cond.instanceMethod yX4_readArrivals ∈ wA := inr_13 _ (List.mem_of_getElem? (i := 1) rfl)
theorem mS_X4_readArrivals : Cond.selects RX4 yX4_readArrivals yX4_readArrivals ∈ wA := inr_13 _ (List.mem_of_getElem? (i := 2) rfl)
theorem mC_X4_readArrivals : Cond.code yX4_readArrivals cX4_readArrivals 4 (some .int) ∈ wA := inr_13 _ (List.mem_of_getElem? (i := 3) rfl)
theorem mM_X4_41 : Cond.methodLink RX4 41 yX4_sign ∈ wA := inr_13 _ (List.mem_of_getElem? (i := 4) rfl)
theorem mI_X4_sign : Cond.instanceMethod yX4_sign ∈ wA := inr_13 _ (List.mem_of_getElem? (i := 5) rfl)
theorem mS_X4_sign : Cond.selects RX4 yX4_sign yX4_sign ∈ wA := inr_13 _ (List.mem_of_getElem? (i := 6) rfl)
theorem mC_X4_sign : Cond.code yX4_sign cX4_sign 1 (some .char) ∈ wA := inr_13 _ (List.mem_of_getElem? (i := 7) rfl)
theorem mM_X4_49 : Cond.methodLink RX4 49 yX4_readWeight ∈ wA := inr_13 _ (List.mem_of_getElem? (i := 8) rfl)
theorem mI_X4_readWeight : Cond.instanceMethod yX4_readWeight ∈ wA := inr_13 _ (List.mem_of_getElem? (i := 9) rfl)
theorem mS_X4_readWeight : Cond.selects RX4 yX4_readWeight yX4_readWeight ∈ wA := inr_13 _ (List.mem_of_getElem? (i := 10) rfl)
theorem mC_X4_readWeight : Cond.code yX4_readWeight cX4_readWeight 1 (some .int) ∈ wA := inr_13 _ (List.mem_of_getElem? (i := 11) rfl)
theorem mM_X4_53 : Cond.methodLink RX4 53 yX4_isDigit ∈ wA := inr_13 _ (List.mem_of_getElem? (i := 12) rfl)
theorem mI_X4_isDigit : Cond.instanceMethod yX4_isDigit ∈ wA := inr_13 _ (List.mem_of_getElem? (i := 13) rfl)
theorem mS_X4_isDigit : Cond.selects RX4 yX4_isDigit yX4_isDigit ∈ wA := inr_13 _ (List.mem_of_getElem? (i := 14) rfl)
theorem mC_X4_isDigit : Cond.code yX4_isDigit cX4_isDigit 1 (some .boolean) ∈ wA := inr_13 _ (List.mem_of_getElem? (i := 15) rfl)
theorem mM_X4_57 : Cond.methodLink RX4 57 yX4_readNumber ∈ wA := inr_13 _ (List.mem_of_getElem? (i := 16) rfl)
theorem mI_X4_readNumber : Cond.instanceMethod yX4_readNumber ∈ wA := inr_13 _ (List.mem_of_getElem? (i := 17) rfl)
theorem mS_X4_readNumber : Cond.selects RX4 yX4_readNumber yX4_readNumber ∈ wA := inr_13 _ (List.mem_of_getElem? (i := 18) rfl)
theorem mC_X4_readNumber : Cond.code yX4_readNumber cX4_readNumber 2 (some .int) ∈ wA := inr_13 _ (List.mem_of_getElem? (i := 19) rfl)
theorem mM_X4_60 : Cond.methodLink RX4 60 yX4_takeDigit ∈ wA := inr_13 _ (List.mem_of_getElem? (i := 20) rfl)
theorem mI_X4_takeDigit : Cond.instanceMethod yX4_takeDigit ∈ wA := inr_13 _ (List.mem_of_getElem? (i := 21) rfl)
theorem mS_X4_takeDigit : Cond.selects RX4 yX4_takeDigit yX4_takeDigit ∈ wA := inr_13 _ (List.mem_of_getElem? (i := 22) rfl)
theorem mC_X4_takeDigit : Cond.code yX4_takeDigit cX4_takeDigit 2 (some .int) ∈ wA := inr_13 _ (List.mem_of_getElem? (i := 23) rfl)
theorem mM_X6_80 : Cond.methodLink RX6 80 yX4_totalWeight ∈ wA := inr_14 _ (List.mem_of_getElem? (i := 0) rfl)
theorem mI_X4_totalWeight : Cond.instanceMethod yX4_totalWeight ∈ wA := inr_14 _ (List.mem_of_getElem? (i := 1) rfl)
theorem mS_X4_totalWeight : Cond.selects RX4 yX4_totalWeight yX4_totalWeight ∈ wA := inr_14 _ (List.mem_of_getElem? (i := 2) rfl)
theorem mC_X4_totalWeight : Cond.code yX4_totalWeight cX4_totalWeight 3 (some .int) ∈ wA := inr_14 _ (List.mem_of_getElem? (i := 3) rfl)
theorem mM_L_22 : Cond.methodLink RL 22 yX7_feed ∈ wA := inr_14 _ (List.mem_of_getElem? (i := 4) rfl)
theorem mI_X7_feed : Cond.instanceMethod yX7_feed ∈ wA := inr_14 _ (List.mem_of_getElem? (i := 5) rfl)
theorem mS_X7_feed : Cond.selects RX7 yX7_feed yX7_feed ∈ wA := inr_14 _ (List.mem_of_getElem? (i := 6) rfl)
theorem mC_X7_feed : Cond.code yX7_feed cX7_feed 4 (some .int) ∈ wA := inr_14 _ (List.mem_of_getElem? (i := 7) rfl)
theorem mF_X7_106 : Cond.fieldLink RX7 106 "FloorTopsModel" "at" "I" ∈ wA := inr_14 _ (List.mem_of_getElem? (i := 8) rfl)
theorem mF_X7_118 : Cond.fieldLink RX7 118 "FloorTopsModel" "weights" "I" ∈ wA := inr_14 _ (List.mem_of_getElem? (i := 9) rfl)
theorem mF_X7_112 : Cond.fieldLink RX7 112 "FloorTopsModel" "letter" "I" ∈ wA := inr_14 _ (List.mem_of_getElem? (i := 10) rfl)
theorem mF_X7_115 : Cond.fieldLink RX7 115 "FloorTopsModel" "number" "I" ∈ wA := inr_14 _ (List.mem_of_getElem? (i := 11) rfl)
theorem mM_X7_128 : Cond.methodLink RX7 128 yX7_arrivals ∈ wA := inr_14 _ (List.mem_of_getElem? (i := 12) rfl)
theorem mI_X7_arrivals : Cond.instanceMethod yX7_arrivals ∈ wA := inr_14 _ (List.mem_of_getElem? (i := 13) rfl)
theorem mS_X7_arrivals : Cond.selects RX7 yX7_arrivals yX7_arrivals ∈ wA := inr_14 _ (List.mem_of_getElem? (i := 14) rfl)
theorem mC_X7_arrivals : Cond.code yX7_arrivals cX7_arrivals 3 (some .int) ∈ wA := inr_14 _ (List.mem_of_getElem? (i := 15) rfl)
theorem mF_X7_103 : Cond.fieldLink RX7 103 "FloorTopsModel" "typed" "I" ∈ wA := inr_14 _ (List.mem_of_getElem? (i := 16) rfl)
theorem mM_X7_121 : Cond.methodLink RX7 121 yX7_takesArrival ∈ wA := inr_14 _ (List.mem_of_getElem? (i := 17) rfl)
theorem mI_X7_takesArrival : Cond.instanceMethod yX7_takesArrival ∈ wA := inr_14 _ (List.mem_of_getElem? (i := 18) rfl)
theorem mS_X7_takesArrival : Cond.selects RX7 yX7_takesArrival yX7_takesArrival ∈ wA := inr_14 _ (List.mem_of_getElem? (i := 19) rfl)
theorem mC_X7_takesArrival : Cond.code yX7_takesArrival cX7_takesArrival 1 (some .boolean) ∈ wA := inr_14 _ (List.mem_of_getElem? (i := 20) rfl)
theorem mM_X7_109 : Cond.methodLink RX7 109 yX7_isBetween ∈ wA := inr_14 _ (List.mem_of_getElem? (i := 21) rfl)
theorem mI_X7_isBetween : Cond.instanceMethod yX7_isBetween ∈ wA := inr_14 _ (List.mem_of_getElem? (i := 22) rfl)
theorem mS_X7_isBetween : Cond.selects RX7 yX7_isBetween yX7_isBetween ∈ wA := inr_14 _ (List.mem_of_getElem? (i := 23) rfl)
theorem mC_X7_isBetween : Cond.code yX7_isBetween cX7_isBetween 3 (some .boolean) ∈ wA := inr_15 _ (List.mem_of_getElem? (i := 0) rfl)
theorem mM_X7_125 : Cond.methodLink RX7 125 yX7_takes ∈ wA := inr_15 _ (List.mem_of_getElem? (i := 1) rfl)
theorem mI_X7_takes : Cond.instanceMethod yX7_takes ∈ wA := inr_15 _ (List.mem_of_getElem? (i := 2) rfl)
theorem mS_X7_takes : Cond.selects RX7 yX7_takes yX7_takes ∈ wA := inr_15 _ (List.mem_of_getElem? (i := 3) rfl)
theorem mC_X7_takes : Cond.code yX7_takes cX7_takes 3 (some .boolean) ∈ wA := inr_15 _ (List.mem_of_getElem? (i := 4) rfl)
theorem mM_L_23 : Cond.methodLink RL 23 yX6_flow ∈ wA := inr_15 _ (List.mem_of_getElem? (i := 5) rfl)
theorem mI_X6_flow : Cond.instanceMethod yX6_flow ∈ wA := inr_15 _ (List.mem_of_getElem? (i := 6) rfl)
theorem mS_X6_flow : Cond.selects RX6 yX6_flow yX6_flow ∈ wA := inr_15 _ (List.mem_of_getElem? (i := 7) rfl)
theorem mC_X6_flow : Cond.code yX6_flow cX6_flow 4 (some .int) ∈ wA := inr_15 _ (List.mem_of_getElem? (i := 8) rfl)
theorem mF_X6_97 : Cond.fieldLink RX6 97 "FloorTops$State" "window" "LFloorTops$Window;" ∈ wA := inr_15 _ (List.mem_of_getElem? (i := 9) rfl)
theorem mF_X6_101 : Cond.fieldLink RX6 101 "FloorTops$Window" "arrivals" "I" ∈ wA := inr_15 _ (List.mem_of_getElem? (i := 10) rfl)
theorem mM_X6_93 : Cond.methodLink RX6 93 yX2_bringToWindow ∈ wA := inr_15 _ (List.mem_of_getElem? (i := 11) rfl)
theorem mI_X2_bringToWindow : Cond.instanceMethod yX2_bringToWindow ∈ wA := inr_15 _ (List.mem_of_getElem? (i := 12) rfl)
theorem mS_X2_bringToWindow : Cond.selects RX2 yX2_bringToWindow yX2_bringToWindow ∈ wA := inr_15 _ (List.mem_of_getElem? (i := 13) rfl)
theorem mC_X2_bringToWindow : Cond.code yX2_bringToWindow cX2_bringToWindow 3 none ∈ wA := inr_15 _ (List.mem_of_getElem? (i := 14) rfl)
theorem mF_X2_50 : Cond.fieldLink RX2 50 "FloorTops$Window" "arrivals" "I" ∈ wA := inr_15 _ (List.mem_of_getElem? (i := 15) rfl)
theorem mF_X2_56 : Cond.fieldLink RX2 56 "FloorTops$Window" "begun" "I" ∈ wA := inr_15 _ (List.mem_of_getElem? (i := 16) rfl)
theorem mM_X2_53 : Cond.methodLink RX2 53 yX5_beginBlock ∈ wA := inr_15 _ (List.mem_of_getElem? (i := 17) rfl)
theorem mI_X5_beginBlock : Cond.instanceMethod yX5_beginBlock ∈ wA := inr_15 _ (List.mem_of_getElem? (i := 18) rfl)
theorem mS_X5_beginBlock : Cond.selects RX5 yX5_beginBlock yX5_beginBlock ∈ wA := inr_15 _ (List.mem_of_getElem? (i := 19) rfl)
theorem mC_X5_beginBlock : Cond.code yX5_beginBlock cX5_beginBlock 1 none ∈ wA := inr_15 _ (List.mem_of_getElem? (i := 20) rfl)
theorem mM_X5_31 : Cond.methodLink RX5 31 Lib.Math.min.name ∈ wA := inr_15 _ (List.mem_of_getElem? (i := 21) rfl)
theorem mM_X5_37 : Cond.methodLink RX5 37 yX5_presentBlock ∈ wA := inr_15 _ (List.mem_of_getElem? (i := 22) rfl)
theorem mI_X5_presentBlock : Cond.instanceMethod yX5_presentBlock ∈ wA := inr_15 _ (List.mem_of_getElem? (i := 23) rfl)
theorem mS_X5_presentBlock : Cond.selects RX5 yX5_presentBlock yX5_presentBlock ∈ wA := inr_16 _ (List.mem_of_getElem? (i := 0) rfl)
theorem mC_X5_presentBlock : Cond.code yX5_presentBlock cX5_presentBlock 1 (some (.object "FloorTops$Summary")) ∈ wA := inr_16 _ (List.mem_of_getElem? (i := 1) rfl)
theorem mM_X5_41 : Cond.methodLink RX5 41 yX3_wipe ∈ wA := inr_16 _ (List.mem_of_getElem? (i := 2) rfl)
theorem mI_X3_wipe : Cond.instanceMethod yX3_wipe ∈ wA := inr_16 _ (List.mem_of_getElem? (i := 3) rfl)
theorem mS_X3_wipe : Cond.selects RX3 yX3_wipe yX3_wipe ∈ wA := inr_16 _ (List.mem_of_getElem? (i := 4) rfl)
theorem mC_X3_wipe : Cond.code yX3_wipe cX3_wipe 2 none ∈ wA := inr_16 _ (List.mem_of_getElem? (i := 5) rfl)
theorem mM_X2_63 : Cond.methodLink RX2 63 yX5_presentBlock ∈ wA := inr_16 _ (List.mem_of_getElem? (i := 6) rfl)
theorem mM_X2_67 : Cond.methodLink RX2 67 yX2_bring ∈ wA := inr_16 _ (List.mem_of_getElem? (i := 7) rfl)
theorem mM_L_27 : Cond.methodLink RL 27 yX7_flow ∈ wA := inr_16 _ (List.mem_of_getElem? (i := 8) rfl)
theorem mI_X7_flow : Cond.instanceMethod yX7_flow ∈ wA := inr_16 _ (List.mem_of_getElem? (i := 9) rfl)
theorem mS_X7_flow : Cond.selects RX7 yX7_flow yX7_flow ∈ wA := inr_16 _ (List.mem_of_getElem? (i := 10) rfl)
theorem mC_X7_flow : Cond.code yX7_flow cX7_flow 3 (some .int) ∈ wA := inr_16 _ (List.mem_of_getElem? (i := 11) rfl)
theorem mM_X7_97 : Cond.methodLink RX7 97 yX7_flows ∈ wA := inr_16 _ (List.mem_of_getElem? (i := 12) rfl)
theorem mI_X7_flows : Cond.instanceMethod yX7_flows ∈ wA := inr_16 _ (List.mem_of_getElem? (i := 13) rfl)
theorem mS_X7_flows : Cond.selects RX7 yX7_flows yX7_flows ∈ wA := inr_16 _ (List.mem_of_getElem? (i := 14) rfl)
theorem mC_X7_flows : Cond.code yX7_flows cX7_flows 4 none ∈ wA := inr_16 _ (List.mem_of_getElem? (i := 15) rfl)
theorem mM_X7_87 : Cond.methodLink RX7 87 yX7_present ∈ wA := inr_16 _ (List.mem_of_getElem? (i := 16) rfl)
theorem mI_X7_present : Cond.instanceMethod yX7_present ∈ wA := inr_16 _ (List.mem_of_getElem? (i := 17) rfl)
theorem mS_X7_present : Cond.selects RX7 yX7_present yX7_present ∈ wA := inr_16 _ (List.mem_of_getElem? (i := 18) rfl)
theorem mC_X7_present : Cond.code yX7_present cX7_present 1 (some .int) ∈ wA := inr_16 _ (List.mem_of_getElem? (i := 19) rfl)
theorem mM_X7_91 : Cond.methodLink RX7 91 yX7_copies ∈ wA := inr_16 _ (List.mem_of_getElem? (i := 20) rfl)
theorem mI_X7_copies : Cond.instanceMethod yX7_copies ∈ wA := inr_16 _ (List.mem_of_getElem? (i := 21) rfl)
theorem mS_X7_copies : Cond.selects RX7 yX7_copies yX7_copies ∈ wA := inr_16 _ (List.mem_of_getElem? (i := 22) rfl)
theorem mC_X7_copies : Cond.code yX7_copies cX7_copies 4 none ∈ wA := inr_16 _ (List.mem_of_getElem? (i := 23) rfl)
theorem mM_X7_94 : Cond.methodLink RX7 94 yX7_empties ∈ wA := inr_17 _ (List.mem_of_getElem? (i := 0) rfl)
theorem mI_X7_empties : Cond.instanceMethod yX7_empties ∈ wA := inr_17 _ (List.mem_of_getElem? (i := 1) rfl)
theorem mS_X7_empties : Cond.selects RX7 yX7_empties yX7_empties ∈ wA := inr_17 _ (List.mem_of_getElem? (i := 2) rfl)
theorem mC_X7_empties : Cond.code yX7_empties cX7_empties 3 none ∈ wA := inr_17 _ (List.mem_of_getElem? (i := 3) rfl)
theorem mM_L_28 : Cond.methodLink RL 28 yX6_flowAll ∈ wA := inr_17 _ (List.mem_of_getElem? (i := 4) rfl)
theorem mI_X6_flowAll : Cond.instanceMethod yX6_flowAll ∈ wA := inr_17 _ (List.mem_of_getElem? (i := 5) rfl)
theorem mS_X6_flowAll : Cond.selects RX6 yX6_flowAll yX6_flowAll ∈ wA := inr_17 _ (List.mem_of_getElem? (i := 6) rfl)
theorem mC_X6_flowAll : Cond.code yX6_flowAll cX6_flowAll 3 (some .int) ∈ wA := inr_17 _ (List.mem_of_getElem? (i := 7) rfl)
theorem mM_L_32 : Cond.methodLink RL 32 yX7_flowAll ∈ wA := inr_17 _ (List.mem_of_getElem? (i := 8) rfl)
theorem mI_X7_flowAll : Cond.instanceMethod yX7_flowAll ∈ wA := inr_17 _ (List.mem_of_getElem? (i := 9) rfl)
theorem mS_X7_flowAll : Cond.selects RX7 yX7_flowAll yX7_flowAll ∈ wA := inr_17 _ (List.mem_of_getElem? (i := 10) rfl)
theorem mC_X7_flowAll : Cond.code yX7_flowAll cX7_flowAll 3 (some .int) ∈ wA := inr_17 _ (List.mem_of_getElem? (i := 11) rfl)
theorem mM_L_33 : Cond.methodLink RL 33 yX6_merge ∈ wA := inr_17 _ (List.mem_of_getElem? (i := 12) rfl)
theorem mI_X6_merge : Cond.instanceMethod yX6_merge ∈ wA := inr_17 _ (List.mem_of_getElem? (i := 13) rfl)
theorem mS_X6_merge : Cond.selects RX6 yX6_merge yX6_merge ∈ wA := inr_17 _ (List.mem_of_getElem? (i := 14) rfl)
theorem mC_X6_merge : Cond.code yX6_merge cX6_merge 3 (some .int) ∈ wA := inr_17 _ (List.mem_of_getElem? (i := 15) rfl)
theorem mM_X6_104 : Cond.methodLink RX6 104 yX2_join ∈ wA := inr_17 _ (List.mem_of_getElem? (i := 16) rfl)
theorem mI_X2_join : Cond.instanceMethod yX2_join ∈ wA := inr_17 _ (List.mem_of_getElem? (i := 17) rfl)
theorem mS_X2_join : Cond.selects RX2 yX2_join yX2_join ∈ wA := inr_17 _ (List.mem_of_getElem? (i := 18) rfl)
theorem mC_X2_join : Cond.code yX2_join cX2_join 4 (some .int) ∈ wA := inr_17 _ (List.mem_of_getElem? (i := 19) rfl)
theorem mM_X2_75 : Cond.methodLink RX2 75 yX3_absorb ∈ wA := inr_17 _ (List.mem_of_getElem? (i := 20) rfl)
theorem mI_X3_absorb : Cond.instanceMethod yX3_absorb ∈ wA := inr_17 _ (List.mem_of_getElem? (i := 21) rfl)
theorem mS_X3_absorb : Cond.selects RX3 yX3_absorb yX3_absorb ∈ wA := inr_17 _ (List.mem_of_getElem? (i := 22) rfl)
theorem mC_X3_absorb : Cond.code yX3_absorb cX3_absorb 7 (some .int) ∈ wA := inr_17 _ (List.mem_of_getElem? (i := 23) rfl)
theorem mM_X3_74 : Cond.methodLink RX3 74 yX3_upper ∈ wA := inr_18 _ (List.mem_of_getElem? (i := 0) rfl)
theorem mM_X3_77 : Cond.methodLink RX3 77 yX3_slackToMerge ∈ wA := inr_18 _ (List.mem_of_getElem? (i := 1) rfl)
theorem mI_X3_slackToMerge : Cond.instanceMethod yX3_slackToMerge ∈ wA := inr_18 _ (List.mem_of_getElem? (i := 2) rfl)
theorem mS_X3_slackToMerge : Cond.selects RX3 yX3_slackToMerge yX3_slackToMerge ∈ wA := inr_18 _ (List.mem_of_getElem? (i := 3) rfl)
theorem mC_X3_slackToMerge : Cond.code yX3_slackToMerge cX3_slackToMerge 2 (some .int) ∈ wA := inr_18 _ (List.mem_of_getElem? (i := 4) rfl)
theorem mM_X3_80 : Cond.methodLink RX3 80 yX3_leaveOut ∈ wA := inr_18 _ (List.mem_of_getElem? (i := 5) rfl)
theorem mI_X3_leaveOut : Cond.instanceMethod yX3_leaveOut ∈ wA := inr_18 _ (List.mem_of_getElem? (i := 6) rfl)
theorem mS_X3_leaveOut : Cond.selects RX3 yX3_leaveOut yX3_leaveOut ∈ wA := inr_18 _ (List.mem_of_getElem? (i := 7) rfl)
theorem mC_X3_leaveOut : Cond.code yX3_leaveOut cX3_leaveOut 4 (some .int) ∈ wA := inr_18 _ (List.mem_of_getElem? (i := 8) rfl)
theorem mM_X3_83 : Cond.methodLink RX3 83 yX3_nextLeftOut ∈ wA := inr_18 _ (List.mem_of_getElem? (i := 9) rfl)
theorem mI_X3_nextLeftOut : Cond.instanceMethod yX3_nextLeftOut ∈ wA := inr_18 _ (List.mem_of_getElem? (i := 10) rfl)
theorem mS_X3_nextLeftOut : Cond.selects RX3 yX3_nextLeftOut yX3_nextLeftOut ∈ wA := inr_18 _ (List.mem_of_getElem? (i := 11) rfl)
theorem mC_X3_nextLeftOut : Cond.code yX3_nextLeftOut cX3_nextLeftOut 3 (some .int) ∈ wA := inr_18 _ (List.mem_of_getElem? (i := 12) rfl)
theorem mM_X2_79 : Cond.methodLink RX2 79 yX3_wipe ∈ wA := inr_18 _ (List.mem_of_getElem? (i := 13) rfl)
theorem mM_L_37 : Cond.methodLink RL 37 yX7_merge ∈ wA := inr_18 _ (List.mem_of_getElem? (i := 14) rfl)
theorem mI_X7_merge : Cond.instanceMethod yX7_merge ∈ wA := inr_18 _ (List.mem_of_getElem? (i := 15) rfl)
theorem mS_X7_merge : Cond.selects RX7 yX7_merge yX7_merge ∈ wA := inr_18 _ (List.mem_of_getElem? (i := 16) rfl)
theorem mC_X7_merge : Cond.code yX7_merge cX7_merge 4 (some .int) ∈ wA := inr_18 _ (List.mem_of_getElem? (i := 17) rfl)
theorem mM_X7_100 : Cond.methodLink RX7 100 yX7_joins ∈ wA := inr_18 _ (List.mem_of_getElem? (i := 18) rfl)
theorem mI_X7_joins : Cond.instanceMethod yX7_joins ∈ wA := inr_18 _ (List.mem_of_getElem? (i := 19) rfl)
theorem mS_X7_joins : Cond.selects RX7 yX7_joins yX7_joins ∈ wA := inr_18 _ (List.mem_of_getElem? (i := 20) rfl)
theorem mC_X7_joins : Cond.code yX7_joins cX7_joins 8 (some .int) ∈ wA := inr_18 _ (List.mem_of_getElem? (i := 21) rfl)
theorem mM_L_38 : Cond.methodLink RL 38 yX6_copy ∈ wA := inr_18 _ (List.mem_of_getElem? (i := 22) rfl)
theorem mI_X6_copy : Cond.instanceMethod yX6_copy ∈ wA := inr_18 _ (List.mem_of_getElem? (i := 23) rfl)
theorem mS_X6_copy : Cond.selects RX6 yX6_copy yX6_copy ∈ wA := inr_19 _ (List.mem_of_getElem? (i := 0) rfl)
theorem mC_X6_copy : Cond.code yX6_copy cX6_copy 3 (some .int) ∈ wA := inr_19 _ (List.mem_of_getElem? (i := 1) rfl)
theorem mM_X6_108 : Cond.methodLink RX6 108 yX3_become ∈ wA := inr_19 _ (List.mem_of_getElem? (i := 2) rfl)
theorem mM_X6_112 : Cond.methodLink RX6 112 yX3_counters ∈ wA := inr_19 _ (List.mem_of_getElem? (i := 3) rfl)
theorem mM_L_41 : Cond.methodLink RL 41 yX7_copy ∈ wA := inr_19 _ (List.mem_of_getElem? (i := 4) rfl)
theorem mI_X7_copy : Cond.instanceMethod yX7_copy ∈ wA := inr_19 _ (List.mem_of_getElem? (i := 5) rfl)
theorem mS_X7_copy : Cond.selects RX7 yX7_copy yX7_copy ∈ wA := inr_19 _ (List.mem_of_getElem? (i := 6) rfl)
theorem mC_X7_copy : Cond.code yX7_copy cX7_copy 3 (some .int) ∈ wA := inr_19 _ (List.mem_of_getElem? (i := 7) rfl)
theorem mM_L_42 : Cond.methodLink RL 42 yX6_setSize ∈ wA := inr_19 _ (List.mem_of_getElem? (i := 8) rfl)
theorem mI_X6_setSize : Cond.instanceMethod yX6_setSize ∈ wA := inr_19 _ (List.mem_of_getElem? (i := 9) rfl)
theorem mS_X6_setSize : Cond.selects RX6 yX6_setSize yX6_setSize ∈ wA := inr_19 _ (List.mem_of_getElem? (i := 10) rfl)
theorem mC_X6_setSize : Cond.code yX6_setSize cX6_setSize 3 (some .int) ∈ wA := inr_19 _ (List.mem_of_getElem? (i := 11) rfl)
theorem mF_X6_115 : Cond.fieldLink RX6 115 "FloorTops$Summary" "size" "I" ∈ wA := inr_19 _ (List.mem_of_getElem? (i := 12) rfl)
theorem mM_X6_118 : Cond.methodLink RX6 118 yX2_resize ∈ wA := inr_19 _ (List.mem_of_getElem? (i := 13) rfl)
theorem mI_X2_resize : Cond.instanceMethod yX2_resize ∈ wA := inr_19 _ (List.mem_of_getElem? (i := 14) rfl)
theorem mS_X2_resize : Cond.selects RX2 yX2_resize yX2_resize ∈ wA := inr_19 _ (List.mem_of_getElem? (i := 15) rfl)
theorem mC_X2_resize : Cond.code yX2_resize cX2_resize 6 (some .int) ∈ wA := inr_19 _ (List.mem_of_getElem? (i := 16) rfl)
theorem mF_X2_82 : Cond.fieldLink RX2 82 "FloorTops$Summary" "size" "I" ∈ wA := inr_19 _ (List.mem_of_getElem? (i := 17) rfl)
theorem mM_X2_85 : Cond.methodLink RX2 85 yX3_counters ∈ wA := inr_19 _ (List.mem_of_getElem? (i := 18) rfl)
theorem mM_X2_89 : Cond.methodLink RX2 89 yX3_evictNext ∈ wA := inr_19 _ (List.mem_of_getElem? (i := 19) rfl)
theorem mM_L_45 : Cond.methodLink RL 45 yX7_setSize ∈ wA := inr_19 _ (List.mem_of_getElem? (i := 20) rfl)
theorem mI_X7_setSize : Cond.instanceMethod yX7_setSize ∈ wA := inr_19 _ (List.mem_of_getElem? (i := 21) rfl)
theorem mS_X7_setSize : Cond.selects RX7 yX7_setSize yX7_setSize ∈ wA := inr_19 _ (List.mem_of_getElem? (i := 22) rfl)
theorem mC_X7_setSize : Cond.code yX7_setSize cX7_setSize 4 (some .int) ∈ wA := inr_19 _ (List.mem_of_getElem? (i := 23) rfl)
theorem mM_L_46 : Cond.methodLink RL 46 yX6_clear ∈ wA := inr_20 _ (List.mem_of_getElem? (i := 0) rfl)
theorem mI_X6_clear : Cond.instanceMethod yX6_clear ∈ wA := inr_20 _ (List.mem_of_getElem? (i := 1) rfl)
theorem mS_X6_clear : Cond.selects RX6 yX6_clear yX6_clear ∈ wA := inr_20 _ (List.mem_of_getElem? (i := 2) rfl)
theorem mC_X6_clear : Cond.code yX6_clear cX6_clear 3 (some .int) ∈ wA := inr_20 _ (List.mem_of_getElem? (i := 3) rfl)
theorem mM_X6_121 : Cond.methodLink RX6 121 yX3_wipe ∈ wA := inr_20 _ (List.mem_of_getElem? (i := 4) rfl)
theorem mM_L_49 : Cond.methodLink RL 49 yX7_clear ∈ wA := inr_20 _ (List.mem_of_getElem? (i := 5) rfl)
theorem mI_X7_clear : Cond.instanceMethod yX7_clear ∈ wA := inr_20 _ (List.mem_of_getElem? (i := 6) rfl)
theorem mS_X7_clear : Cond.selects RX7 yX7_clear yX7_clear ∈ wA := inr_20 _ (List.mem_of_getElem? (i := 7) rfl)
theorem mC_X7_clear : Cond.code yX7_clear cX7_clear 3 (some .int) ∈ wA := inr_20 _ (List.mem_of_getElem? (i := 8) rfl)
theorem mM_L_50 : Cond.methodLink RL 50 yX6_type ∈ wA := inr_20 _ (List.mem_of_getElem? (i := 9) rfl)
theorem mI_X6_type : Cond.instanceMethod yX6_type ∈ wA := inr_20 _ (List.mem_of_getElem? (i := 10) rfl)
theorem mS_X6_type : Cond.selects RX6 yX6_type yX6_type ∈ wA := inr_20 _ (List.mem_of_getElem? (i := 11) rfl)
theorem mC_X6_type : Cond.code yX6_type cX6_type 2 (some .int) ∈ wA := inr_20 _ (List.mem_of_getElem? (i := 12) rfl)
theorem mF_X6_124 : Cond.fieldLink RX6 124 "FloorTops$Text" "length" "I" ∈ wA := inr_20 _ (List.mem_of_getElem? (i := 13) rfl)
theorem mM_X6_127 : Cond.methodLink RX6 127 yX4_put ∈ wA := inr_20 _ (List.mem_of_getElem? (i := 14) rfl)
theorem mI_X4_put : Cond.instanceMethod yX4_put ∈ wA := inr_20 _ (List.mem_of_getElem? (i := 15) rfl)
theorem mS_X4_put : Cond.selects RX4 yX4_put yX4_put ∈ wA := inr_20 _ (List.mem_of_getElem? (i := 16) rfl)
theorem mC_X4_put : Cond.code yX4_put cX4_put 2 none ∈ wA := inr_20 _ (List.mem_of_getElem? (i := 17) rfl)
theorem mM_L_54 : Cond.methodLink RL 54 yX7_type ∈ wA := inr_20 _ (List.mem_of_getElem? (i := 18) rfl)
theorem mI_X7_type : Cond.instanceMethod yX7_type ∈ wA := inr_20 _ (List.mem_of_getElem? (i := 19) rfl)
theorem mS_X7_type : Cond.selects RX7 yX7_type yX7_type ∈ wA := inr_20 _ (List.mem_of_getElem? (i := 20) rfl)
theorem mC_X7_type : Cond.code yX7_type cX7_type 2 (some .int) ∈ wA := inr_20 _ (List.mem_of_getElem? (i := 21) rfl)
theorem mM_L_55 : Cond.methodLink RL 55 yX6_clearText ∈ wA := inr_20 _ (List.mem_of_getElem? (i := 22) rfl)
theorem mI_X6_clearText : Cond.instanceMethod yX6_clearText ∈ wA := inr_20 _ (List.mem_of_getElem? (i := 23) rfl)
theorem mS_X6_clearText : Cond.selects RX6 yX6_clearText yX6_clearText ∈ wA := inr_21 _ (List.mem_of_getElem? (i := 0) rfl)
theorem mC_X6_clearText : Cond.code yX6_clearText cX6_clearText 2 (some .int) ∈ wA := inr_21 _ (List.mem_of_getElem? (i := 1) rfl)
theorem mM_L_58 : Cond.methodLink RL 58 yX7_clearText ∈ wA := inr_21 _ (List.mem_of_getElem? (i := 2) rfl)
theorem mI_X7_clearText : Cond.instanceMethod yX7_clearText ∈ wA := inr_21 _ (List.mem_of_getElem? (i := 3) rfl)
theorem mS_X7_clearText : Cond.selects RX7 yX7_clearText yX7_clearText ∈ wA := inr_21 _ (List.mem_of_getElem? (i := 4) rfl)
theorem mC_X7_clearText : Cond.code yX7_clearText cX7_clearText 2 (some .int) ∈ wA := inr_21 _ (List.mem_of_getElem? (i := 5) rfl)
theorem mM_L_59 : Cond.methodLink RL 59 yX6_perform ∈ wA := inr_21 _ (List.mem_of_getElem? (i := 6) rfl)
theorem mI_X6_perform : Cond.instanceMethod yX6_perform ∈ wA := inr_21 _ (List.mem_of_getElem? (i := 7) rfl)
theorem mS_X6_perform : Cond.selects RX6 yX6_perform yX6_perform ∈ wA := inr_21 _ (List.mem_of_getElem? (i := 8) rfl)
theorem mC_X6_perform : Cond.code yX6_perform cX6_perform 2 (some .int) ∈ wA := inr_21 _ (List.mem_of_getElem? (i := 9) rfl)
theorem mF_X6_134 : Cond.fieldLink RX6 134 "FloorTops$Text" "word" "I" ∈ wA := inr_21 _ (List.mem_of_getElem? (i := 10) rfl)
theorem mF_X6_137 : Cond.fieldLink RX6 137 "FloorTops$Text" "firstNumber" "I" ∈ wA := inr_21 _ (List.mem_of_getElem? (i := 11) rfl)
theorem mF_X6_140 : Cond.fieldLink RX6 140 "FloorTops$Text" "secondNumber" "I" ∈ wA := inr_21 _ (List.mem_of_getElem? (i := 12) rfl)
theorem mM_X6_131 : Cond.methodLink RX6 131 yX4_readCommand ∈ wA := inr_21 _ (List.mem_of_getElem? (i := 13) rfl)
theorem mI_X4_readCommand : Cond.instanceMethod yX4_readCommand ∈ wA := inr_21 _ (List.mem_of_getElem? (i := 14) rfl)
theorem mS_X4_readCommand : Cond.selects RX4 yX4_readCommand yX4_readCommand ∈ wA := inr_21 _ (List.mem_of_getElem? (i := 15) rfl)
theorem mC_X4_readCommand : Cond.code yX4_readCommand cX4_readCommand 2 (some .int) ∈ wA := inr_21 _ (List.mem_of_getElem? (i := 16) rfl)
theorem mM_X4_63 : Cond.methodLink RX4 63 yX4_wordBefore ∈ wA := inr_21 _ (List.mem_of_getElem? (i := 17) rfl)
theorem mI_X4_wordBefore : Cond.instanceMethod yX4_wordBefore ∈ wA := inr_21 _ (List.mem_of_getElem? (i := 18) rfl)
theorem mS_X4_wordBefore : Cond.selects RX4 yX4_wordBefore yX4_wordBefore ∈ wA := inr_21 _ (List.mem_of_getElem? (i := 19) rfl)
theorem mC_X4_wordBefore : Cond.code yX4_wordBefore cX4_wordBefore 2 (some .int) ∈ wA := inr_21 _ (List.mem_of_getElem? (i := 20) rfl)
theorem mM_X4_72 : Cond.methodLink RX4 72 yX4_beginsWith ∈ wA := inr_21 _ (List.mem_of_getElem? (i := 21) rfl)
theorem mI_X4_beginsWith : Cond.instanceMethod yX4_beginsWith ∈ wA := inr_21 _ (List.mem_of_getElem? (i := 22) rfl)
theorem mS_X4_beginsWith : Cond.selects RX4 yX4_beginsWith yX4_beginsWith ∈ wA := inr_21 _ (List.mem_of_getElem? (i := 23) rfl)
theorem mC_X4_beginsWith : Cond.code yX4_beginsWith cX4_beginsWith 5 (some .boolean) ∈ wA := inr_22 _ (List.mem_of_getElem? (i := 0) rfl)
theorem mM_X4_82 : Cond.methodLink RX4 82 yJ0_length_8abf5 ∈ wA := inr_22 _ (List.mem_of_getElem? (i := 1) rfl)
theorem mI_J0_length_8abf5 : Cond.instanceMethod yJ0_length_8abf5 ∈ wA := inr_22 _ (List.mem_of_getElem? (i := 2) rfl)
theorem mS_J0_length_8abf5 : Cond.selects RJ0 yJ0_length_8abf5 yJ0_length_8abf5 ∈ wA := inr_22 _ (List.mem_of_getElem? (i := 3) rfl)
theorem mZ_J0 : Cond.initialized RJ0 ∈ wA := inr_22 _ (List.mem_of_getElem? (i := 4) rfl)
theorem mC_J0_length_8abf5 : Cond.code yJ0_length_8abf5 cJ0_length_8abf5 1 (some .int) ∈ wA := inr_22 _ (List.mem_of_getElem? (i := 5) rfl)
theorem mF_J0_9 : Cond.fieldLink RJ0 9 "java/lang/String" "value" "[B" ∈ wA := inr_22 _ (List.mem_of_getElem? (i := 6) rfl)
theorem mM_J0_335 : Cond.methodLink RJ0 335 yJ0_coder_7d493 ∈ wA := inr_22 _ (List.mem_of_getElem? (i := 7) rfl)
theorem mI_J0_coder_7d493 : Cond.instanceMethod yJ0_coder_7d493 ∈ wA := inr_22 _ (List.mem_of_getElem? (i := 8) rfl)
theorem mS_J0_coder_7d493 : Cond.selects RJ0 yJ0_coder_7d493 yJ0_coder_7d493 ∈ wA := inr_22 _ (List.mem_of_getElem? (i := 9) rfl)
theorem mC_J0_coder_7d493 : Cond.code yJ0_coder_7d493 cJ0_coder_7d493 1 (some .byte) ∈ wA := inr_22 _ (List.mem_of_getElem? (i := 10) rfl)
theorem mF_J0_38 : Cond.fieldLink RJ0 38 "java/lang/String" "COMPACT_STRINGS" "Z" ∈ wA := inr_22 _ (List.mem_of_getElem? (i := 11) rfl)
theorem mF_J0_15 : Cond.fieldLink RJ0 15 "java/lang/String" "coder" "B" ∈ wA := inr_22 _ (List.mem_of_getElem? (i := 12) rfl)
theorem mM_X4_86 : Cond.methodLink RX4 86 yJ0_charAt_5068e ∈ wA := inr_22 _ (List.mem_of_getElem? (i := 13) rfl)
theorem mI_J0_charAt_5068e : Cond.instanceMethod yJ0_charAt_5068e ∈ wA := inr_22 _ (List.mem_of_getElem? (i := 14) rfl)
theorem mS_J0_charAt_5068e : Cond.selects RJ0 yJ0_charAt_5068e yJ0_charAt_5068e ∈ wA := inr_22 _ (List.mem_of_getElem? (i := 15) rfl)
theorem mC_J0_charAt_5068e : Cond.code yJ0_charAt_5068e cJ0_charAt_5068e 2 (some .char) ∈ wA := inr_22 _ (List.mem_of_getElem? (i := 16) rfl)
theorem mM_J0_492 : Cond.methodLink RJ0 492 yJ0_isLatin1_aae02 ∈ wA := inr_22 _ (List.mem_of_getElem? (i := 17) rfl)
theorem mI_J0_isLatin1_aae02 : Cond.instanceMethod yJ0_isLatin1_aae02 ∈ wA := inr_22 _ (List.mem_of_getElem? (i := 18) rfl)
theorem mS_J0_isLatin1_aae02 : Cond.selects RJ0 yJ0_isLatin1_aae02 yJ0_isLatin1_aae02 ∈ wA := inr_22 _ (List.mem_of_getElem? (i := 19) rfl)
theorem mC_J0_isLatin1_aae02 : Cond.code yJ0_isLatin1_aae02 cJ0_isLatin1_aae02 1 (some .boolean) ∈ wA := inr_22 _ (List.mem_of_getElem? (i := 20) rfl)
theorem mM_J0_495 : Cond.methodLink RJ0 495 yJ1_charAt_3b067 ∈ wA := inr_22 _ (List.mem_of_getElem? (i := 21) rfl)
theorem mT_J1_charAt_3b067 : Cond.static yJ1_charAt_3b067 ∈ wA := inr_22 _ (List.mem_of_getElem? (i := 22) rfl)
theorem mZ_J1 : Cond.initialized RJ1 ∈ wA := inr_22 _ (List.mem_of_getElem? (i := 23) rfl)
theorem mC_J1_charAt_3b067 : Cond.code yJ1_charAt_3b067 cJ1_charAt_3b067 2 (some .char) ∈ wA := inr_23 _ (List.mem_of_getElem? (i := 0) rfl)
theorem mM_J1_9 : Cond.methodLink RJ1 9 yJ0_checkIndex_df160 ∈ wA := inr_23 _ (List.mem_of_getElem? (i := 1) rfl)
theorem mT_J0_checkIndex_df160 : Cond.static yJ0_checkIndex_df160 ∈ wA := inr_23 _ (List.mem_of_getElem? (i := 2) rfl)
theorem mC_J0_checkIndex_df160 : Cond.code yJ0_checkIndex_df160 cJ0_checkIndex_df160 2 none ∈ wA := inr_23 _ (List.mem_of_getElem? (i := 3) rfl)
theorem mF_J0_1053 : Cond.fieldLink RJ0 1053 "jdk/internal/util/Preconditions" "SIOOBE_FORMATTER" "Ljava/util/function/BiFunction;" ∈ wA := inr_23 _ (List.mem_of_getElem? (i := 4) rfl)
theorem mM_J0_1059 : Cond.methodLink RJ0 1059 yJ3_checkIndex_8e157 ∈ wA := inr_23 _ (List.mem_of_getElem? (i := 5) rfl)
theorem mT_J3_checkIndex_8e157 : Cond.static yJ3_checkIndex_8e157 ∈ wA := inr_23 _ (List.mem_of_getElem? (i := 6) rfl)
theorem mZ_J3 : Cond.initialized RJ3 ∈ wA := inr_23 _ (List.mem_of_getElem? (i := 7) rfl)
theorem mC_J3_checkIndex_8e157 : Cond.code yJ3_checkIndex_8e157 cJ3_checkIndex_8e157 3 (some .int) ∈ wA := inr_23 _ (List.mem_of_getElem? (i := 8) rfl)
theorem mM_J0_498 : Cond.methodLink RJ0 498 yJ2_charAt_3b067 ∈ wA := inr_23 _ (List.mem_of_getElem? (i := 9) rfl)
theorem mT_J2_charAt_3b067 : Cond.static yJ2_charAt_3b067 ∈ wA := inr_23 _ (List.mem_of_getElem? (i := 10) rfl)
theorem mZ_J2 : Cond.initialized RJ2 ∈ wA := inr_23 _ (List.mem_of_getElem? (i := 11) rfl)
theorem mC_J2_charAt_3b067 : Cond.code yJ2_charAt_3b067 cJ2_charAt_3b067 2 (some .char) ∈ wA := inr_23 _ (List.mem_of_getElem? (i := 12) rfl)
theorem mM_J2_67 : Cond.methodLink RJ2 67 yJ2_checkIndex_2214a ∈ wA := inr_23 _ (List.mem_of_getElem? (i := 13) rfl)
theorem mT_J2_checkIndex_2214a : Cond.static yJ2_checkIndex_2214a ∈ wA := inr_23 _ (List.mem_of_getElem? (i := 14) rfl)
theorem mC_J2_checkIndex_2214a : Cond.code yJ2_checkIndex_2214a cJ2_checkIndex_2214a 2 none ∈ wA := inr_23 _ (List.mem_of_getElem? (i := 15) rfl)
theorem mM_J2_48 : Cond.methodLink RJ2 48 yJ2_length_9d52b ∈ wA := inr_23 _ (List.mem_of_getElem? (i := 16) rfl)
theorem mT_J2_length_9d52b : Cond.static yJ2_length_9d52b ∈ wA := inr_23 _ (List.mem_of_getElem? (i := 17) rfl)
theorem mC_J2_length_9d52b : Cond.code yJ2_length_9d52b cJ2_length_9d52b 1 (some .int) ∈ wA := inr_23 _ (List.mem_of_getElem? (i := 18) rfl)
theorem mM_J2_414 : Cond.methodLink RJ2 414 yJ0_checkIndex_df160 ∈ wA := inr_23 _ (List.mem_of_getElem? (i := 19) rfl)
theorem mM_J2_71 : Cond.methodLink RJ2 71 yJ2_getChar_3b067 ∈ wA := inr_23 _ (List.mem_of_getElem? (i := 20) rfl)
theorem mT_J2_getChar_3b067 : Cond.static yJ2_getChar_3b067 ∈ wA := inr_23 _ (List.mem_of_getElem? (i := 21) rfl)
theorem mC_J2_getChar_3b067 : Cond.code yJ2_getChar_3b067 cJ2_getChar_3b067 2 (some .char) ∈ wA := inr_23 _ (List.mem_of_getElem? (i := 22) rfl)
theorem mF_J2_44 : Cond.fieldLink RJ2 44 "java/lang/StringUTF16" "$assertionsDisabled" "Z" ∈ wA := inr_23 _ (List.mem_of_getElem? (i := 23) rfl)
theorem mF_J2_59 : Cond.fieldLink RJ2 59 "java/lang/StringUTF16" "HI_BYTE_SHIFT" "I" ∈ wA := inr_24 _ (List.mem_of_getElem? (i := 0) rfl)
theorem mF_J2_63 : Cond.fieldLink RJ2 63 "java/lang/StringUTF16" "LO_BYTE_SHIFT" "I" ∈ wA := inr_24 _ (List.mem_of_getElem? (i := 1) rfl)
theorem mM_X4_67 : Cond.methodLink RX4 67 yX4_readArgument ∈ wA := inr_24 _ (List.mem_of_getElem? (i := 2) rfl)
theorem mI_X4_readArgument : Cond.instanceMethod yX4_readArgument ∈ wA := inr_24 _ (List.mem_of_getElem? (i := 3) rfl)
theorem mS_X4_readArgument : Cond.selects RX4 yX4_readArgument yX4_readArgument ∈ wA := inr_24 _ (List.mem_of_getElem? (i := 4) rfl)
theorem mC_X4_readArgument : Cond.code yX4_readArgument cX4_readArgument 1 (some .int) ∈ wA := inr_24 _ (List.mem_of_getElem? (i := 5) rfl)
theorem mM_X6_143 : Cond.methodLink RX6 143 yX6_merge ∈ wA := inr_24 _ (List.mem_of_getElem? (i := 6) rfl)
theorem mM_X6_146 : Cond.methodLink RX6 146 yX6_copy ∈ wA := inr_24 _ (List.mem_of_getElem? (i := 7) rfl)
theorem mM_X6_149 : Cond.methodLink RX6 149 yX6_setSize ∈ wA := inr_24 _ (List.mem_of_getElem? (i := 8) rfl)
theorem mM_X6_152 : Cond.methodLink RX6 152 yX6_clear ∈ wA := inr_24 _ (List.mem_of_getElem? (i := 9) rfl)
theorem mM_L_62 : Cond.methodLink RL 62 yX7_perform ∈ wA := inr_24 _ (List.mem_of_getElem? (i := 10) rfl)
theorem mI_X7_perform : Cond.instanceMethod yX7_perform ∈ wA := inr_24 _ (List.mem_of_getElem? (i := 11) rfl)
theorem mS_X7_perform : Cond.selects RX7 yX7_perform yX7_perform ∈ wA := inr_24 _ (List.mem_of_getElem? (i := 12) rfl)
theorem mC_X7_perform : Cond.code yX7_perform cX7_perform 3 (some .int) ∈ wA := inr_24 _ (List.mem_of_getElem? (i := 13) rfl)
theorem mM_X7_135 : Cond.methodLink RX7 135 yX7_word ∈ wA := inr_24 _ (List.mem_of_getElem? (i := 14) rfl)
theorem mI_X7_word : Cond.instanceMethod yX7_word ∈ wA := inr_24 _ (List.mem_of_getElem? (i := 15) rfl)
theorem mS_X7_word : Cond.selects RX7 yX7_word yX7_word ∈ wA := inr_24 _ (List.mem_of_getElem? (i := 16) rfl)
theorem mC_X7_word : Cond.code yX7_word cX7_word 1 (some .int) ∈ wA := inr_24 _ (List.mem_of_getElem? (i := 17) rfl)
theorem mM_X7_131 : Cond.methodLink RX7 131 yX7_isWord ∈ wA := inr_24 _ (List.mem_of_getElem? (i := 18) rfl)
theorem mI_X7_isWord : Cond.instanceMethod yX7_isWord ∈ wA := inr_24 _ (List.mem_of_getElem? (i := 19) rfl)
theorem mS_X7_isWord : Cond.selects RX7 yX7_isWord yX7_isWord ∈ wA := inr_24 _ (List.mem_of_getElem? (i := 20) rfl)
theorem mC_X7_isWord : Cond.code yX7_isWord cX7_isWord 6 (some .boolean) ∈ wA := inr_24 _ (List.mem_of_getElem? (i := 21) rfl)
theorem mM_X7_138 : Cond.methodLink RX7 138 yX7_takesNumber ∈ wA := inr_24 _ (List.mem_of_getElem? (i := 22) rfl)
theorem mI_X7_takesNumber : Cond.instanceMethod yX7_takesNumber ∈ wA := inr_24 _ (List.mem_of_getElem? (i := 23) rfl)
theorem mS_X7_takesNumber : Cond.selects RX7 yX7_takesNumber yX7_takesNumber ∈ wA := inr_25 _ (List.mem_of_getElem? (i := 0) rfl)
theorem mC_X7_takesNumber : Cond.code yX7_takesNumber cX7_takesNumber 1 (some .boolean) ∈ wA := inr_25 _ (List.mem_of_getElem? (i := 1) rfl)
theorem mM_X7_141 : Cond.methodLink RX7 141 yX7_merge ∈ wA := inr_25 _ (List.mem_of_getElem? (i := 2) rfl)
theorem mM_X7_144 : Cond.methodLink RX7 144 yX7_copy ∈ wA := inr_25 _ (List.mem_of_getElem? (i := 3) rfl)
theorem mM_X7_147 : Cond.methodLink RX7 147 yX7_setSize ∈ wA := inr_25 _ (List.mem_of_getElem? (i := 4) rfl)
theorem mM_X7_150 : Cond.methodLink RX7 150 yX7_clear ∈ wA := inr_25 _ (List.mem_of_getElem? (i := 5) rfl)
theorem mM_L_63 : Cond.methodLink RL 63 yX6_undo ∈ wA := inr_25 _ (List.mem_of_getElem? (i := 6) rfl)
theorem mI_X6_undo : Cond.instanceMethod yX6_undo ∈ wA := inr_25 _ (List.mem_of_getElem? (i := 7) rfl)
theorem mS_X6_undo : Cond.selects RX6 yX6_undo yX6_undo ∈ wA := inr_25 _ (List.mem_of_getElem? (i := 8) rfl)
theorem mC_X6_undo : Cond.code yX6_undo cX6_undo 1 (some .int) ∈ wA := inr_25 _ (List.mem_of_getElem? (i := 9) rfl)
theorem mF_X6_155 : Cond.fieldLink RX6 155 "FloorTops$History" "known" "I" ∈ wA := inr_25 _ (List.mem_of_getElem? (i := 10) rfl)
theorem mM_X6_158 : Cond.methodLink RX6 158 yX0_takeBack ∈ wA := inr_25 _ (List.mem_of_getElem? (i := 11) rfl)
theorem mI_X0_takeBack : Cond.instanceMethod yX0_takeBack ∈ wA := inr_25 _ (List.mem_of_getElem? (i := 12) rfl)
theorem mS_X0_takeBack : Cond.selects RX0 yX0_takeBack yX0_takeBack ∈ wA := inr_25 _ (List.mem_of_getElem? (i := 13) rfl)
theorem mC_X0_takeBack : Cond.code yX0_takeBack cX0_takeBack 2 none ∈ wA := inr_25 _ (List.mem_of_getElem? (i := 14) rfl)
theorem mM_L_66 : Cond.methodLink RL 66 yX7_undo ∈ wA := inr_25 _ (List.mem_of_getElem? (i := 15) rfl)
theorem mI_X7_undo : Cond.instanceMethod yX7_undo ∈ wA := inr_25 _ (List.mem_of_getElem? (i := 16) rfl)
theorem mS_X7_undo : Cond.selects RX7 yX7_undo yX7_undo ∈ wA := inr_25 _ (List.mem_of_getElem? (i := 17) rfl)
theorem mC_X7_undo : Cond.code yX7_undo cX7_undo 2 (some .int) ∈ wA := inr_25 _ (List.mem_of_getElem? (i := 18) rfl)
theorem mM_L_67 : Cond.methodLink RL 67 yX6_keep ∈ wA := inr_25 _ (List.mem_of_getElem? (i := 19) rfl)
theorem mI_X6_keep : Cond.instanceMethod yX6_keep ∈ wA := inr_25 _ (List.mem_of_getElem? (i := 20) rfl)
theorem mS_X6_keep : Cond.selects RX6 yX6_keep yX6_keep ∈ wA := inr_25 _ (List.mem_of_getElem? (i := 21) rfl)
theorem mC_X6_keep : Cond.code yX6_keep cX6_keep 1 (some .int) ∈ wA := inr_25 _ (List.mem_of_getElem? (i := 22) rfl)
theorem mF_X6_163 : Cond.fieldLink RX6 163 "FloorTops$State" "time" "I" ∈ wA := inr_25 _ (List.mem_of_getElem? (i := 23) rfl)
theorem mM_X6_161 : Cond.methodLink RX6 161 yX2_become ∈ wA := inr_26 _ (List.mem_of_getElem? (i := 0) rfl)
theorem mM_L_70 : Cond.methodLink RL 70 yX7_keep ∈ wA := inr_26 _ (List.mem_of_getElem? (i := 1) rfl)
theorem mI_X7_keep : Cond.instanceMethod yX7_keep ∈ wA := inr_26 _ (List.mem_of_getElem? (i := 2) rfl)
theorem mS_X7_keep : Cond.selects RX7 yX7_keep yX7_keep ∈ wA := inr_26 _ (List.mem_of_getElem? (i := 3) rfl)
theorem mC_X7_keep : Cond.code yX7_keep cX7_keep 2 (some .int) ∈ wA := inr_26 _ (List.mem_of_getElem? (i := 4) rfl)
theorem mF_X7_153 : Cond.fieldLink RX7 153 "FloorTopsModel" "isFilled" "Z" ∈ wA := inr_26 _ (List.mem_of_getElem? (i := 5) rfl)
theorem mM_L_71 : Cond.methodLink RL 71 yX6_restore ∈ wA := inr_26 _ (List.mem_of_getElem? (i := 6) rfl)
theorem mI_X6_restore : Cond.instanceMethod yX6_restore ∈ wA := inr_26 _ (List.mem_of_getElem? (i := 7) rfl)
theorem mS_X6_restore : Cond.selects RX6 yX6_restore yX6_restore ∈ wA := inr_26 _ (List.mem_of_getElem? (i := 8) rfl)
theorem mC_X6_restore : Cond.code yX6_restore cX6_restore 1 (some .int) ∈ wA := inr_26 _ (List.mem_of_getElem? (i := 9) rfl)
theorem mM_L_74 : Cond.methodLink RL 74 yX7_restore ∈ wA := inr_26 _ (List.mem_of_getElem? (i := 10) rfl)
theorem mI_X7_restore : Cond.instanceMethod yX7_restore ∈ wA := inr_26 _ (List.mem_of_getElem? (i := 11) rfl)
theorem mS_X7_restore : Cond.selects RX7 yX7_restore yX7_restore ∈ wA := inr_26 _ (List.mem_of_getElem? (i := 12) rfl)
theorem mC_X7_restore : Cond.code yX7_restore cX7_restore 2 (some .int) ∈ wA := inr_26 _ (List.mem_of_getElem? (i := 13) rfl)
theorem mM_L_75 : Cond.methodLink RL 75 yX6_summary ∈ wA := inr_26 _ (List.mem_of_getElem? (i := 14) rfl)
theorem mI_X6_summary : Cond.instanceMethod yX6_summary ∈ wA := inr_26 _ (List.mem_of_getElem? (i := 15) rfl)
theorem mS_X6_summary : Cond.selects RX6 yX6_summary yX6_summary ∈ wA := inr_26 _ (List.mem_of_getElem? (i := 16) rfl)
theorem mC_X6_summary : Cond.code yX6_summary cX6_summary 4 (some .int) ∈ wA := inr_26 _ (List.mem_of_getElem? (i := 17) rfl)
theorem mF_X6_170 : Cond.fieldLink RX6 170 "FloorTops$Summary" "floor" "I" ∈ wA := inr_26 _ (List.mem_of_getElem? (i := 18) rfl)
theorem mF_X6_179 : Cond.fieldLink RX6 179 "FloorTops$Summary" "held" "I" ∈ wA := inr_26 _ (List.mem_of_getElem? (i := 19) rfl)
theorem mM_X6_166 : Cond.methodLink RX6 166 yX6_told ∈ wA := inr_26 _ (List.mem_of_getElem? (i := 20) rfl)
theorem mI_X6_told : Cond.instanceMethod yX6_told ∈ wA := inr_26 _ (List.mem_of_getElem? (i := 21) rfl)
theorem mS_X6_told : Cond.selects RX6 yX6_told yX6_told ∈ wA := inr_26 _ (List.mem_of_getElem? (i := 22) rfl)
theorem mC_X6_told : Cond.code yX6_told cX6_told 2 (some (.object "FloorTops$Summary")) ∈ wA := inr_26 _ (List.mem_of_getElem? (i := 23) rfl)
theorem mM_X6_256 : Cond.methodLink RX6 256 yX5_look ∈ wA := inr_27 _ (List.mem_of_getElem? (i := 0) rfl)
theorem mI_X5_look : Cond.instanceMethod yX5_look ∈ wA := inr_27 _ (List.mem_of_getElem? (i := 1) rfl)
theorem mS_X5_look : Cond.selects RX5 yX5_look yX5_look ∈ wA := inr_27 _ (List.mem_of_getElem? (i := 2) rfl)
theorem mC_X5_look : Cond.code yX5_look cX5_look 4 none ∈ wA := inr_27 _ (List.mem_of_getElem? (i := 3) rfl)
theorem mM_X5_44 : Cond.methodLink RX5 44 yX5_blockAt ∈ wA := inr_27 _ (List.mem_of_getElem? (i := 4) rfl)
theorem mI_X5_blockAt : Cond.instanceMethod yX5_blockAt ∈ wA := inr_27 _ (List.mem_of_getElem? (i := 5) rfl)
theorem mS_X5_blockAt : Cond.selects RX5 yX5_blockAt yX5_blockAt ∈ wA := inr_27 _ (List.mem_of_getElem? (i := 6) rfl)
theorem mC_X5_blockAt : Cond.code yX5_blockAt cX5_blockAt 2 (some (.object "FloorTops$Summary")) ∈ wA := inr_27 _ (List.mem_of_getElem? (i := 7) rfl)
theorem mM_X5_52 : Cond.methodLink RX5 52 yX3_absorb ∈ wA := inr_27 _ (List.mem_of_getElem? (i := 8) rfl)
theorem mM_X6_173 : Cond.methodLink RX6 173 yX3_greatestSlack ∈ wA := inr_27 _ (List.mem_of_getElem? (i := 9) rfl)
theorem mI_X3_greatestSlack : Cond.instanceMethod yX3_greatestSlack ∈ wA := inr_27 _ (List.mem_of_getElem? (i := 10) rfl)
theorem mS_X3_greatestSlack : Cond.selects RX3 yX3_greatestSlack yX3_greatestSlack ∈ wA := inr_27 _ (List.mem_of_getElem? (i := 11) rfl)
theorem mC_X3_greatestSlack : Cond.code yX3_greatestSlack cX3_greatestSlack 3 (some .int) ∈ wA := inr_27 _ (List.mem_of_getElem? (i := 12) rfl)
theorem mM_X6_176 : Cond.methodLink RX6 176 yX3_lettersThatCame ∈ wA := inr_27 _ (List.mem_of_getElem? (i := 13) rfl)
theorem mI_X3_lettersThatCame : Cond.instanceMethod yX3_lettersThatCame ∈ wA := inr_27 _ (List.mem_of_getElem? (i := 14) rfl)
theorem mS_X3_lettersThatCame : Cond.selects RX3 yX3_lettersThatCame yX3_lettersThatCame ∈ wA := inr_27 _ (List.mem_of_getElem? (i := 15) rfl)
theorem mC_X3_lettersThatCame : Cond.code yX3_lettersThatCame cX3_lettersThatCame 3 (some .int) ∈ wA := inr_27 _ (List.mem_of_getElem? (i := 16) rfl)
theorem mM_L_78 : Cond.methodLink RL 78 yX7_summary ∈ wA := inr_27 _ (List.mem_of_getElem? (i := 17) rfl)
theorem mI_X7_summary : Cond.instanceMethod yX7_summary ∈ wA := inr_27 _ (List.mem_of_getElem? (i := 18) rfl)
theorem mS_X7_summary : Cond.selects RX7 yX7_summary yX7_summary ∈ wA := inr_27 _ (List.mem_of_getElem? (i := 19) rfl)
theorem mC_X7_summary : Cond.code yX7_summary cX7_summary 4 (some .int) ∈ wA := inr_27 _ (List.mem_of_getElem? (i := 20) rfl)
theorem mM_X7_157 : Cond.methodLink RX7 157 yX7_looks ∈ wA := inr_27 _ (List.mem_of_getElem? (i := 21) rfl)
theorem mI_X7_looks : Cond.instanceMethod yX7_looks ∈ wA := inr_27 _ (List.mem_of_getElem? (i := 22) rfl)
theorem mS_X7_looks : Cond.selects RX7 yX7_looks yX7_looks ∈ wA := inr_27 _ (List.mem_of_getElem? (i := 23) rfl)
theorem mC_X7_looks : Cond.code yX7_looks cX7_looks 3 (some .int) ∈ wA := inr_28 _ (List.mem_of_getElem? (i := 0) rfl)
theorem mM_X7_160 : Cond.methodLink RX7 160 yX7_greatestSlack ∈ wA := inr_28 _ (List.mem_of_getElem? (i := 1) rfl)
theorem mI_X7_greatestSlack : Cond.instanceMethod yX7_greatestSlack ∈ wA := inr_28 _ (List.mem_of_getElem? (i := 2) rfl)
theorem mS_X7_greatestSlack : Cond.selects RX7 yX7_greatestSlack yX7_greatestSlack ∈ wA := inr_28 _ (List.mem_of_getElem? (i := 3) rfl)
theorem mC_X7_greatestSlack : Cond.code yX7_greatestSlack cX7_greatestSlack 4 (some .int) ∈ wA := inr_28 _ (List.mem_of_getElem? (i := 4) rfl)
theorem mM_X7_163 : Cond.methodLink RX7 163 yX7_letters ∈ wA := inr_28 _ (List.mem_of_getElem? (i := 5) rfl)
theorem mI_X7_letters : Cond.instanceMethod yX7_letters ∈ wA := inr_28 _ (List.mem_of_getElem? (i := 6) rfl)
theorem mS_X7_letters : Cond.selects RX7 yX7_letters yX7_letters ∈ wA := inr_28 _ (List.mem_of_getElem? (i := 7) rfl)
theorem mC_X7_letters : Cond.code yX7_letters cX7_letters 5 (some .int) ∈ wA := inr_28 _ (List.mem_of_getElem? (i := 8) rfl)
theorem mM_L_79 : Cond.methodLink RL 79 yX6_bound ∈ wA := inr_28 _ (List.mem_of_getElem? (i := 9) rfl)
theorem mI_X6_bound : Cond.instanceMethod yX6_bound ∈ wA := inr_28 _ (List.mem_of_getElem? (i := 10) rfl)
theorem mS_X6_bound : Cond.selects RX6 yX6_bound yX6_bound ∈ wA := inr_28 _ (List.mem_of_getElem? (i := 11) rfl)
theorem mC_X6_bound : Cond.code yX6_bound cX6_bound 6 (some .int) ∈ wA := inr_28 _ (List.mem_of_getElem? (i := 12) rfl)
theorem mF_X6_185 : Cond.fieldLink RX6 185 "FloorTops$Summary" "came" "[I" ∈ wA := inr_28 _ (List.mem_of_getElem? (i := 13) rfl)
theorem mF_X6_191 : Cond.fieldLink RX6 191 "FloorTops$Summary" "slacks" "[I" ∈ wA := inr_28 _ (List.mem_of_getElem? (i := 14) rfl)
theorem mF_X6_194 : Cond.fieldLink RX6 194 "FloorTops$Summary" "times" "[I" ∈ wA := inr_28 _ (List.mem_of_getElem? (i := 15) rfl)
theorem mM_X6_182 : Cond.methodLink RX6 182 yX3_lower ∈ wA := inr_28 _ (List.mem_of_getElem? (i := 16) rfl)
theorem mI_X3_lower : Cond.instanceMethod yX3_lower ∈ wA := inr_28 _ (List.mem_of_getElem? (i := 17) rfl)
theorem mS_X3_lower : Cond.selects RX3 yX3_lower yX3_lower ∈ wA := inr_28 _ (List.mem_of_getElem? (i := 18) rfl)
theorem mC_X3_lower : Cond.code yX3_lower cX3_lower 2 (some .int) ∈ wA := inr_28 _ (List.mem_of_getElem? (i := 19) rfl)
theorem mM_X6_188 : Cond.methodLink RX6 188 yX3_has ∈ wA := inr_28 _ (List.mem_of_getElem? (i := 20) rfl)
theorem mM_L_82 : Cond.methodLink RL 82 yX7_bound ∈ wA := inr_28 _ (List.mem_of_getElem? (i := 21) rfl)
theorem mI_X7_bound : Cond.instanceMethod yX7_bound ∈ wA := inr_28 _ (List.mem_of_getElem? (i := 22) rfl)
theorem mS_X7_bound : Cond.selects RX7 yX7_bound yX7_bound ∈ wA := inr_28 _ (List.mem_of_getElem? (i := 23) rfl)
theorem mC_X7_bound : Cond.code yX7_bound cX7_bound 6 (some .int) ∈ wA := inr_29 _ (List.mem_of_getElem? (i := 0) rfl)
theorem mM_X7_166 : Cond.methodLink RX7 166 yX7_upper ∈ wA := inr_29 _ (List.mem_of_getElem? (i := 1) rfl)
theorem mI_X7_upper : Cond.instanceMethod yX7_upper ∈ wA := inr_29 _ (List.mem_of_getElem? (i := 2) rfl)
theorem mS_X7_upper : Cond.selects RX7 yX7_upper yX7_upper ∈ wA := inr_29 _ (List.mem_of_getElem? (i := 3) rfl)
theorem mC_X7_upper : Cond.code yX7_upper cX7_upper 3 (some .int) ∈ wA := inr_29 _ (List.mem_of_getElem? (i := 4) rfl)
theorem mM_X7_169 : Cond.methodLink RX7 169 yX7_lower ∈ wA := inr_29 _ (List.mem_of_getElem? (i := 5) rfl)
theorem mI_X7_lower : Cond.instanceMethod yX7_lower ∈ wA := inr_29 _ (List.mem_of_getElem? (i := 6) rfl)
theorem mS_X7_lower : Cond.selects RX7 yX7_lower yX7_lower ∈ wA := inr_29 _ (List.mem_of_getElem? (i := 7) rfl)
theorem mC_X7_lower : Cond.code yX7_lower cX7_lower 3 (some .int) ∈ wA := inr_29 _ (List.mem_of_getElem? (i := 8) rfl)
theorem mM_L_83 : Cond.methodLink RL 83 yX6_top ∈ wA := inr_29 _ (List.mem_of_getElem? (i := 9) rfl)
theorem mI_X6_top : Cond.instanceMethod yX6_top ∈ wA := inr_29 _ (List.mem_of_getElem? (i := 10) rfl)
theorem mS_X6_top : Cond.selects RX6 yX6_top yX6_top ∈ wA := inr_29 _ (List.mem_of_getElem? (i := 11) rfl)
theorem mC_X6_top : Cond.code yX6_top cX6_top 6 (some .int) ∈ wA := inr_29 _ (List.mem_of_getElem? (i := 12) rfl)
theorem mF_X6_203 : Cond.fieldLink RX6 203 "FloorTops$Summary" "counts" "[I" ∈ wA := inr_29 _ (List.mem_of_getElem? (i := 13) rfl)
theorem mM_X6_197 : Cond.methodLink RX6 197 yX3_letterAt ∈ wA := inr_29 _ (List.mem_of_getElem? (i := 14) rfl)
theorem mI_X3_letterAt : Cond.instanceMethod yX3_letterAt ∈ wA := inr_29 _ (List.mem_of_getElem? (i := 15) rfl)
theorem mS_X3_letterAt : Cond.selects RX3 yX3_letterAt yX3_letterAt ∈ wA := inr_29 _ (List.mem_of_getElem? (i := 16) rfl)
theorem mC_X3_letterAt : Cond.code yX3_letterAt cX3_letterAt 3 (some .int) ∈ wA := inr_29 _ (List.mem_of_getElem? (i := 17) rfl)
theorem mM_X3_92 : Cond.methodLink RX3 92 yX3_placeOf ∈ wA := inr_29 _ (List.mem_of_getElem? (i := 18) rfl)
theorem mI_X3_placeOf : Cond.instanceMethod yX3_placeOf ∈ wA := inr_29 _ (List.mem_of_getElem? (i := 19) rfl)
theorem mS_X3_placeOf : Cond.selects RX3 yX3_placeOf yX3_placeOf ∈ wA := inr_29 _ (List.mem_of_getElem? (i := 20) rfl)
theorem mC_X3_placeOf : Cond.code yX3_placeOf cX3_placeOf 4 (some .int) ∈ wA := inr_29 _ (List.mem_of_getElem? (i := 21) rfl)
theorem mM_X6_200 : Cond.methodLink RX6 200 yX6_codeOf ∈ wA := inr_29 _ (List.mem_of_getElem? (i := 22) rfl)
theorem mM_L_87 : Cond.methodLink RL 87 yX7_top ∈ wA := inr_29 _ (List.mem_of_getElem? (i := 23) rfl)
theorem mI_X7_top : Cond.instanceMethod yX7_top ∈ wA := inr_30 _ (List.mem_of_getElem? (i := 0) rfl)
theorem mS_X7_top : Cond.selects RX7 yX7_top yX7_top ∈ wA := inr_30 _ (List.mem_of_getElem? (i := 1) rfl)
theorem mC_X7_top : Cond.code yX7_top cX7_top 9 (some .int) ∈ wA := inr_30 _ (List.mem_of_getElem? (i := 2) rfl)
theorem mM_L_88 : Cond.methodLink RL 88 yX6_first ∈ wA := inr_30 _ (List.mem_of_getElem? (i := 3) rfl)
theorem mI_X6_first : Cond.instanceMethod yX6_first ∈ wA := inr_30 _ (List.mem_of_getElem? (i := 4) rfl)
theorem mS_X6_first : Cond.selects RX6 yX6_first yX6_first ∈ wA := inr_30 _ (List.mem_of_getElem? (i := 5) rfl)
theorem mC_X6_first : Cond.code yX6_first cX6_first 7 (some .int) ∈ wA := inr_30 _ (List.mem_of_getElem? (i := 6) rfl)
theorem mM_X6_206 : Cond.methodLink RX6 206 yX3_lettersAhead ∈ wA := inr_30 _ (List.mem_of_getElem? (i := 7) rfl)
theorem mI_X3_lettersAhead : Cond.instanceMethod yX3_lettersAhead ∈ wA := inr_30 _ (List.mem_of_getElem? (i := 8) rfl)
theorem mS_X3_lettersAhead : Cond.selects RX3 yX3_lettersAhead yX3_lettersAhead ∈ wA := inr_30 _ (List.mem_of_getElem? (i := 9) rfl)
theorem mC_X3_lettersAhead : Cond.code yX3_lettersAhead cX3_lettersAhead 7 (some .int) ∈ wA := inr_30 _ (List.mem_of_getElem? (i := 10) rfl)
theorem mM_X3_95 : Cond.methodLink RX3 95 yX3_lower ∈ wA := inr_30 _ (List.mem_of_getElem? (i := 11) rfl)
theorem mM_L_92 : Cond.methodLink RL 92 yX7_first ∈ wA := inr_30 _ (List.mem_of_getElem? (i := 12) rfl)
theorem mI_X7_first : Cond.instanceMethod yX7_first ∈ wA := inr_30 _ (List.mem_of_getElem? (i := 13) rfl)
theorem mS_X7_first : Cond.selects RX7 yX7_first yX7_first ∈ wA := inr_30 _ (List.mem_of_getElem? (i := 14) rfl)
theorem mC_X7_first : Cond.code yX7_first cX7_first 7 (some .int) ∈ wA := inr_30 _ (List.mem_of_getElem? (i := 15) rfl)
theorem mM_X7_172 : Cond.methodLink RX7 172 yX7_ahead ∈ wA := inr_30 _ (List.mem_of_getElem? (i := 16) rfl)
theorem mI_X7_ahead : Cond.instanceMethod yX7_ahead ∈ wA := inr_30 _ (List.mem_of_getElem? (i := 17) rfl)
theorem mS_X7_ahead : Cond.selects RX7 yX7_ahead yX7_ahead ∈ wA := inr_30 _ (List.mem_of_getElem? (i := 18) rfl)
theorem mC_X7_ahead : Cond.code yX7_ahead cX7_ahead 7 (some .int) ∈ wA := inr_30 _ (List.mem_of_getElem? (i := 19) rfl)
theorem mM_L_93 : Cond.methodLink RL 93 yX6_above ∈ wA := inr_30 _ (List.mem_of_getElem? (i := 20) rfl)
theorem mI_X6_above : Cond.instanceMethod yX6_above ∈ wA := inr_30 _ (List.mem_of_getElem? (i := 21) rfl)
theorem mS_X6_above : Cond.selects RX6 yX6_above yX6_above ∈ wA := inr_30 _ (List.mem_of_getElem? (i := 22) rfl)
theorem mC_X6_above : Cond.code yX6_above cX6_above 8 (some .int) ∈ wA := inr_30 _ (List.mem_of_getElem? (i := 23) rfl)
theorem mN_X6_210 : Cond.constantLong RX6 210 (100) ∈ wA := inr_31 _ (List.mem_of_getElem? (i := 0) rfl)
theorem mM_L_96 : Cond.methodLink RL 96 yX7_above ∈ wA := inr_31 _ (List.mem_of_getElem? (i := 1) rfl)
theorem mI_X7_above : Cond.instanceMethod yX7_above ∈ wA := inr_31 _ (List.mem_of_getElem? (i := 2) rfl)
theorem mS_X7_above : Cond.selects RX7 yX7_above yX7_above ∈ wA := inr_31 _ (List.mem_of_getElem? (i := 3) rfl)
theorem mC_X7_above : Cond.code yX7_above cX7_above 8 (some .int) ∈ wA := inr_31 _ (List.mem_of_getElem? (i := 4) rfl)
theorem mM_L_97 : Cond.methodLink RL 97 yX6_rank ∈ wA := inr_31 _ (List.mem_of_getElem? (i := 5) rfl)
theorem mI_X6_rank : Cond.instanceMethod yX6_rank ∈ wA := inr_31 _ (List.mem_of_getElem? (i := 6) rfl)
theorem mS_X6_rank : Cond.selects RX6 yX6_rank yX6_rank ∈ wA := inr_31 _ (List.mem_of_getElem? (i := 7) rfl)
theorem mC_X6_rank : Cond.code yX6_rank cX6_rank 6 (some .int) ∈ wA := inr_31 _ (List.mem_of_getElem? (i := 8) rfl)
theorem mM_L_101 : Cond.methodLink RL 101 yX7_rank ∈ wA := inr_31 _ (List.mem_of_getElem? (i := 9) rfl)
theorem mI_X7_rank : Cond.instanceMethod yX7_rank ∈ wA := inr_31 _ (List.mem_of_getElem? (i := 10) rfl)
theorem mS_X7_rank : Cond.selects RX7 yX7_rank yX7_rank ∈ wA := inr_31 _ (List.mem_of_getElem? (i := 11) rfl)
theorem mC_X7_rank : Cond.code yX7_rank cX7_rank 5 (some .int) ∈ wA := inr_31 _ (List.mem_of_getElem? (i := 12) rfl)
theorem mM_L_102 : Cond.methodLink RL 102 yX6_alike ∈ wA := inr_31 _ (List.mem_of_getElem? (i := 13) rfl)
theorem mI_X6_alike : Cond.instanceMethod yX6_alike ∈ wA := inr_31 _ (List.mem_of_getElem? (i := 14) rfl)
theorem mS_X6_alike : Cond.selects RX6 yX6_alike yX6_alike ∈ wA := inr_31 _ (List.mem_of_getElem? (i := 15) rfl)
theorem mC_X6_alike : Cond.code yX6_alike cX6_alike 7 (some .int) ∈ wA := inr_31 _ (List.mem_of_getElem? (i := 16) rfl)
theorem mM_L_105 : Cond.methodLink RL 105 yX7_alike ∈ wA := inr_31 _ (List.mem_of_getElem? (i := 17) rfl)
theorem mI_X7_alike : Cond.instanceMethod yX7_alike ∈ wA := inr_31 _ (List.mem_of_getElem? (i := 18) rfl)
theorem mS_X7_alike : Cond.selects RX7 yX7_alike yX7_alike ∈ wA := inr_31 _ (List.mem_of_getElem? (i := 19) rfl)
theorem mC_X7_alike : Cond.code yX7_alike cX7_alike 7 (some .int) ∈ wA := inr_31 _ (List.mem_of_getElem? (i := 20) rfl)
theorem mM_L_106 : Cond.methodLink RL 106 yX6_wouldEvict ∈ wA := inr_31 _ (List.mem_of_getElem? (i := 21) rfl)
theorem mI_X6_wouldEvict : Cond.instanceMethod yX6_wouldEvict ∈ wA := inr_31 _ (List.mem_of_getElem? (i := 22) rfl)
theorem mS_X6_wouldEvict : Cond.selects RX6 yX6_wouldEvict yX6_wouldEvict ∈ wA := inr_31 _ (List.mem_of_getElem? (i := 23) rfl)
theorem mC_X6_wouldEvict : Cond.code yX6_wouldEvict cX6_wouldEvict 6 (some .int) ∈ wA := inr_32 _ (List.mem_of_getElem? (i := 0) rfl)
theorem mM_X6_212 : Cond.methodLink RX6 212 yX3_needsRoomFor ∈ wA := inr_32 _ (List.mem_of_getElem? (i := 1) rfl)
theorem mM_X6_215 : Cond.methodLink RX6 215 yX3_nextEvicted ∈ wA := inr_32 _ (List.mem_of_getElem? (i := 2) rfl)
theorem mM_L_110 : Cond.methodLink RL 110 yX7_wouldEvict ∈ wA := inr_32 _ (List.mem_of_getElem? (i := 3) rfl)
theorem mI_X7_wouldEvict : Cond.instanceMethod yX7_wouldEvict ∈ wA := inr_32 _ (List.mem_of_getElem? (i := 4) rfl)
theorem mS_X7_wouldEvict : Cond.selects RX7 yX7_wouldEvict yX7_wouldEvict ∈ wA := inr_32 _ (List.mem_of_getElem? (i := 5) rfl)
theorem mC_X7_wouldEvict : Cond.code yX7_wouldEvict cX7_wouldEvict 4 (some .int) ∈ wA := inr_32 _ (List.mem_of_getElem? (i := 6) rfl)
theorem mM_L_111 : Cond.methodLink RL 111 yX6_block ∈ wA := inr_32 _ (List.mem_of_getElem? (i := 7) rfl)
theorem mI_X6_block : Cond.instanceMethod yX6_block ∈ wA := inr_32 _ (List.mem_of_getElem? (i := 8) rfl)
theorem mS_X6_block : Cond.selects RX6 yX6_block yX6_block ∈ wA := inr_32 _ (List.mem_of_getElem? (i := 9) rfl)
theorem mC_X6_block : Cond.code yX6_block cX6_block 4 (some .int) ∈ wA := inr_32 _ (List.mem_of_getElem? (i := 10) rfl)
theorem mF_X6_218 : Cond.fieldLink RX6 218 "FloorTops$Window" "kept" "I" ∈ wA := inr_32 _ (List.mem_of_getElem? (i := 11) rfl)
theorem mM_X6_221 : Cond.methodLink RX6 221 yX5_blockAt ∈ wA := inr_32 _ (List.mem_of_getElem? (i := 12) rfl)
theorem mM_X6_224 : Cond.methodLink RX6 224 yX5_arrivalsOf ∈ wA := inr_32 _ (List.mem_of_getElem? (i := 13) rfl)
theorem mI_X5_arrivalsOf : Cond.instanceMethod yX5_arrivalsOf ∈ wA := inr_32 _ (List.mem_of_getElem? (i := 14) rfl)
theorem mS_X5_arrivalsOf : Cond.selects RX5 yX5_arrivalsOf yX5_arrivalsOf ∈ wA := inr_32 _ (List.mem_of_getElem? (i := 15) rfl)
theorem mC_X5_arrivalsOf : Cond.code yX5_arrivalsOf cX5_arrivalsOf 2 (some .int) ∈ wA := inr_32 _ (List.mem_of_getElem? (i := 16) rfl)
theorem mM_L_114 : Cond.methodLink RL 114 yX7_block ∈ wA := inr_32 _ (List.mem_of_getElem? (i := 17) rfl)
theorem mI_X7_block : Cond.instanceMethod yX7_block ∈ wA := inr_32 _ (List.mem_of_getElem? (i := 18) rfl)
theorem mS_X7_block : Cond.selects RX7 yX7_block yX7_block ∈ wA := inr_32 _ (List.mem_of_getElem? (i := 19) rfl)
theorem mC_X7_block : Cond.code yX7_block cX7_block 4 (some .int) ∈ wA := inr_32 _ (List.mem_of_getElem? (i := 20) rfl)
theorem mM_L_115 : Cond.methodLink RL 115 yX6_event ∈ wA := inr_32 _ (List.mem_of_getElem? (i := 21) rfl)
theorem mI_X6_event : Cond.instanceMethod yX6_event ∈ wA := inr_32 _ (List.mem_of_getElem? (i := 22) rfl)
theorem mS_X6_event : Cond.selects RX6 yX6_event yX6_event ∈ wA := inr_32 _ (List.mem_of_getElem? (i := 23) rfl)
theorem mC_X6_event : Cond.code yX6_event cX6_event 4 (some .int) ∈ wA := inr_33 _ (List.mem_of_getElem? (i := 0) rfl)
theorem mF_X6_227 : Cond.fieldLink RX6 227 "FloorTops$State" "log" "LFloorTops$Log;" ∈ wA := inr_33 _ (List.mem_of_getElem? (i := 1) rfl)
theorem mF_X6_231 : Cond.fieldLink RX6 231 "FloorTops$Log" "known" "I" ∈ wA := inr_33 _ (List.mem_of_getElem? (i := 2) rfl)
theorem mF_X6_237 : Cond.fieldLink RX6 237 "FloorTops$Log" "kinds" "[I" ∈ wA := inr_33 _ (List.mem_of_getElem? (i := 3) rfl)
theorem mF_X6_240 : Cond.fieldLink RX6 240 "FloorTops$Log" "places" "[I" ∈ wA := inr_33 _ (List.mem_of_getElem? (i := 4) rfl)
theorem mF_X6_243 : Cond.fieldLink RX6 243 "FloorTops$Log" "values" "[I" ∈ wA := inr_33 _ (List.mem_of_getElem? (i := 5) rfl)
theorem mF_X6_246 : Cond.fieldLink RX6 246 "FloorTops$Log" "times" "[I" ∈ wA := inr_33 _ (List.mem_of_getElem? (i := 6) rfl)
theorem mM_X6_234 : Cond.methodLink RX6 234 yX1_slotOf ∈ wA := inr_33 _ (List.mem_of_getElem? (i := 7) rfl)
theorem mI_X1_slotOf : Cond.instanceMethod yX1_slotOf ∈ wA := inr_33 _ (List.mem_of_getElem? (i := 8) rfl)
theorem mS_X1_slotOf : Cond.selects RX1 yX1_slotOf yX1_slotOf ∈ wA := inr_33 _ (List.mem_of_getElem? (i := 9) rfl)
theorem mC_X1_slotOf : Cond.code yX1_slotOf cX1_slotOf 2 (some .int) ∈ wA := inr_33 _ (List.mem_of_getElem? (i := 10) rfl)
theorem mM_L_118 : Cond.methodLink RL 118 yX7_event ∈ wA := inr_33 _ (List.mem_of_getElem? (i := 11) rfl)
theorem mI_X7_event : Cond.instanceMethod yX7_event ∈ wA := inr_33 _ (List.mem_of_getElem? (i := 12) rfl)
theorem mS_X7_event : Cond.selects RX7 yX7_event yX7_event ∈ wA := inr_33 _ (List.mem_of_getElem? (i := 13) rfl)
theorem mC_X7_event : Cond.code yX7_event cX7_event 3 (some .int) ∈ wA := inr_33 _ (List.mem_of_getElem? (i := 14) rfl)
theorem mM_L_119 : Cond.methodLink RL 119 yX6_count ∈ wA := inr_33 _ (List.mem_of_getElem? (i := 15) rfl)
theorem mI_X6_count : Cond.instanceMethod yX6_count ∈ wA := inr_33 _ (List.mem_of_getElem? (i := 16) rfl)
theorem mS_X6_count : Cond.selects RX6 yX6_count yX6_count ∈ wA := inr_33 _ (List.mem_of_getElem? (i := 17) rfl)
theorem mC_X6_count : Cond.code yX6_count cX6_count 2 (some .int) ∈ wA := inr_33 _ (List.mem_of_getElem? (i := 18) rfl)
theorem mF_X6_247 : Cond.fieldLink RX6 247 "FloorTops$State" "evictions" "I" ∈ wA := inr_33 _ (List.mem_of_getElem? (i := 19) rfl)
theorem mF_X6_250 : Cond.fieldLink RX6 250 "FloorTops$State" "merges" "I" ∈ wA := inr_33 _ (List.mem_of_getElem? (i := 20) rfl)
theorem mF_X6_253 : Cond.fieldLink RX6 253 "FloorTops$Window" "begun" "I" ∈ wA := inr_33 _ (List.mem_of_getElem? (i := 21) rfl)
theorem mM_L_122 : Cond.methodLink RL 122 yX7_count ∈ wA := inr_33 _ (List.mem_of_getElem? (i := 22) rfl)
theorem mI_X7_count : Cond.instanceMethod yX7_count ∈ wA := inr_33 _ (List.mem_of_getElem? (i := 23) rfl)
theorem mS_X7_count : Cond.selects RX7 yX7_count yX7_count ∈ wA := inr_34 _ (List.mem_of_getElem? (i := 0) rfl)
theorem mC_X7_count : Cond.code yX7_count cX7_count 2 (some .int) ∈ wA := inr_34 _ (List.mem_of_getElem? (i := 1) rfl)
set_option maxRecDepth 100000 in
theorem gdA : wA.all goodWord = true := by decide +kernel
theorem gA : GoodIn wA wA := goodIn_sub (fun _ h => h) gdA
end
section
theorem dX0_init_0 : decode cX0_init 0 = .ok (.aload_n 0, 1) := by decide +kernel
theorem dX0_init_1 : decode cX0_init 1 = .ok (.invokespecial 3, 3) := by decide +kernel
theorem dX0_init_4 : decode cX0_init 4 = .ok (.aload_n 0, 1) := by decide +kernel
theorem dX0_init_5 : decode cX0_init 5 = .ok (.iconst 4, 1) := by decide +kernel
theorem dX0_init_6 : decode cX0_init 6 = .ok (.anewarray 9, 3) := by decide +kernel
theorem dX0_init_9 : decode cX0_init 9 = .ok (.putfield 11, 3) := by decide +kernel
theorem dX0_init_12 : decode cX0_init 12 = .ok (.aload_n 0, 1) := by decide +kernel
theorem dX0_init_13 : decode cX0_init 13 = .ok (.iconst 0, 1) := by decide +kernel
theorem dX0_init_14 : decode cX0_init 14 = .ok (.putfield 17, 3) := by decide +kernel
theorem dX0_init_17 : decode cX0_init 17 = .ok (.aload_n 0, 1) := by decide +kernel
theorem dX0_init_18 : decode cX0_init 18 = .ok (.iconst 0, 1) := by decide +kernel
theorem dX0_init_19 : decode cX0_init 19 = .ok (.putfield 21, 3) := by decide +kernel
theorem dX0_init_22 : decode cX0_init 22 = .ok (.iconst 0, 1) := by decide +kernel
theorem dX0_init_23 : decode cX0_init 23 = .ok (.istore_n 1, 1) := by decide +kernel
theorem dX0_init_24 : decode cX0_init 24 = .ok (.iload_n 1, 1) := by decide +kernel
theorem dX0_init_25 : decode cX0_init 25 = .ok (.iconst 4, 1) := by decide +kernel
theorem dX0_init_26 : decode cX0_init 26 = .ok (.if_icmp .ge 22, 3) := by decide +kernel
theorem dX0_init_29 : decode cX0_init 29 = .ok (.aload_n 0, 1) := by decide +kernel
theorem dX0_init_30 : decode cX0_init 30 = .ok (.getfield 11, 3) := by decide +kernel
theorem dX0_init_33 : decode cX0_init 33 = .ok (.iload_n 1, 1) := by decide +kernel
theorem dX0_init_34 : decode cX0_init 34 = .ok (.new 9, 3) := by decide +kernel
theorem dX0_init_37 : decode cX0_init 37 = .ok (.dup, 1) := by decide +kernel
theorem dX0_init_38 : decode cX0_init 38 = .ok (.invokespecial 24, 3) := by decide +kernel
theorem dX0_init_41 : decode cX0_init 41 = .ok (.aastore, 1) := by decide +kernel
theorem dX0_init_42 : decode cX0_init 42 = .ok (.iinc 1 1, 3) := by decide +kernel
theorem dX0_init_45 : decode cX0_init 45 = .ok (.goto (-21), 3) := by decide +kernel
theorem dX0_init_48 : decode cX0_init 48 = .ok (.return_, 1) := by decide +kernel
theorem dX0_remember_0 : decode cX0_remember 0 = .ok (.aload_n 0, 1) := by decide +kernel
theorem dX0_remember_1 : decode cX0_remember 1 = .ok (.getfield 11, 3) := by decide +kernel
theorem dX0_remember_4 : decode cX0_remember 4 = .ok (.aload_n 0, 1) := by decide +kernel
theorem dX0_remember_5 : decode cX0_remember 5 = .ok (.getfield 17, 3) := by decide +kernel
theorem dX0_remember_8 : decode cX0_remember 8 = .ok (.iconst 3, 1) := by decide +kernel
theorem dX0_remember_9 : decode cX0_remember 9 = .ok (.iand, 1) := by decide +kernel
theorem dX0_remember_10 : decode cX0_remember 10 = .ok (.aaload, 1) := by decide +kernel
theorem dX0_remember_11 : decode cX0_remember 11 = .ok (.aload_n 1, 1) := by decide +kernel
theorem dX0_remember_12 : decode cX0_remember 12 = .ok (.invokevirtual 25, 3) := by decide +kernel
theorem dX0_remember_15 : decode cX0_remember 15 = .ok (.aload_n 0, 1) := by decide +kernel
theorem dX0_remember_16 : decode cX0_remember 16 = .ok (.aload_n 0, 1) := by decide +kernel
theorem dX0_remember_17 : decode cX0_remember 17 = .ok (.getfield 17, 3) := by decide +kernel
theorem dX0_remember_20 : decode cX0_remember 20 = .ok (.iconst 1, 1) := by decide +kernel
theorem dX0_remember_21 : decode cX0_remember 21 = .ok (.iadd, 1) := by decide +kernel
theorem dX0_remember_22 : decode cX0_remember 22 = .ok (.iconst 3, 1) := by decide +kernel
theorem dX0_remember_23 : decode cX0_remember 23 = .ok (.iand, 1) := by decide +kernel
theorem dX0_remember_24 : decode cX0_remember 24 = .ok (.putfield 17, 3) := by decide +kernel
theorem dX0_remember_27 : decode cX0_remember 27 = .ok (.aload_n 0, 1) := by decide +kernel
theorem dX0_remember_28 : decode cX0_remember 28 = .ok (.aload_n 0, 1) := by decide +kernel
theorem dX0_remember_29 : decode cX0_remember 29 = .ok (.getfield 21, 3) := by decide +kernel
theorem dX0_remember_32 : decode cX0_remember 32 = .ok (.iconst 1, 1) := by decide +kernel
theorem dX0_remember_33 : decode cX0_remember 33 = .ok (.iadd, 1) := by decide +kernel
theorem dX0_remember_34 : decode cX0_remember 34 = .ok (.iconst 4, 1) := by decide +kernel
theorem dX0_remember_35 : decode cX0_remember 35 = .ok (.invokestatic 29, 3) := by decide +kernel
theorem dX0_remember_38 : decode cX0_remember 38 = .ok (.putfield 21, 3) := by decide +kernel
theorem dX0_remember_41 : decode cX0_remember 41 = .ok (.return_, 1) := by decide +kernel
theorem dX0_takeBack_0 : decode cX0_takeBack 0 = .ok (.aload_n 0, 1) := by decide +kernel
theorem dX0_takeBack_1 : decode cX0_takeBack 1 = .ok (.aload_n 0, 1) := by decide +kernel
theorem dX0_takeBack_2 : decode cX0_takeBack 2 = .ok (.getfield 17, 3) := by decide +kernel
theorem dX0_takeBack_5 : decode cX0_takeBack 5 = .ok (.iconst 1, 1) := by decide +kernel
theorem dX0_takeBack_6 : decode cX0_takeBack 6 = .ok (.isub, 1) := by decide +kernel
theorem dX0_takeBack_7 : decode cX0_takeBack 7 = .ok (.iconst 3, 1) := by decide +kernel
theorem dX0_takeBack_8 : decode cX0_takeBack 8 = .ok (.iand, 1) := by decide +kernel
theorem dX0_takeBack_9 : decode cX0_takeBack 9 = .ok (.putfield 17, 3) := by decide +kernel
theorem dX0_takeBack_12 : decode cX0_takeBack 12 = .ok (.aload_n 0, 1) := by decide +kernel
theorem dX0_takeBack_13 : decode cX0_takeBack 13 = .ok (.dup, 1) := by decide +kernel
theorem dX0_takeBack_14 : decode cX0_takeBack 14 = .ok (.getfield 21, 3) := by decide +kernel
theorem dX0_takeBack_17 : decode cX0_takeBack 17 = .ok (.iconst 1, 1) := by decide +kernel
theorem dX0_takeBack_18 : decode cX0_takeBack 18 = .ok (.isub, 1) := by decide +kernel
theorem dX0_takeBack_19 : decode cX0_takeBack 19 = .ok (.putfield 21, 3) := by decide +kernel
theorem dX0_takeBack_22 : decode cX0_takeBack 22 = .ok (.aload_n 1, 1) := by decide +kernel
theorem dX0_takeBack_23 : decode cX0_takeBack 23 = .ok (.aload_n 0, 1) := by decide +kernel
theorem dX0_takeBack_24 : decode cX0_takeBack 24 = .ok (.getfield 11, 3) := by decide +kernel
theorem dX0_takeBack_27 : decode cX0_takeBack 27 = .ok (.aload_n 0, 1) := by decide +kernel
theorem dX0_takeBack_28 : decode cX0_takeBack 28 = .ok (.getfield 17, 3) := by decide +kernel
theorem dX0_takeBack_31 : decode cX0_takeBack 31 = .ok (.aaload, 1) := by decide +kernel
theorem dX0_takeBack_32 : decode cX0_takeBack 32 = .ok (.invokevirtual 25, 3) := by decide +kernel
theorem dX0_takeBack_35 : decode cX0_takeBack 35 = .ok (.return_, 1) := by decide +kernel
theorem dX1_init_0 : decode cX1_init 0 = .ok (.aload_n 0, 1) := by decide +kernel
theorem dX1_init_1 : decode cX1_init 1 = .ok (.invokespecial 3, 3) := by decide +kernel
theorem dX1_init_4 : decode cX1_init 4 = .ok (.aload_n 0, 1) := by decide +kernel
theorem dX1_init_5 : decode cX1_init 5 = .ok (.bipush 8, 2) := by decide +kernel
theorem dX1_init_7 : decode cX1_init 7 = .ok (.newarray .int, 2) := by decide +kernel
theorem dX1_init_9 : decode cX1_init 9 = .ok (.putfield 9, 3) := by decide +kernel
theorem dX1_init_12 : decode cX1_init 12 = .ok (.aload_n 0, 1) := by decide +kernel
theorem dX1_init_13 : decode cX1_init 13 = .ok (.bipush 8, 2) := by decide +kernel
theorem dX1_init_15 : decode cX1_init 15 = .ok (.newarray .int, 2) := by decide +kernel
theorem dX1_init_17 : decode cX1_init 17 = .ok (.putfield 15, 3) := by decide +kernel
theorem dX1_init_20 : decode cX1_init 20 = .ok (.aload_n 0, 1) := by decide +kernel
theorem dX1_init_21 : decode cX1_init 21 = .ok (.bipush 8, 2) := by decide +kernel
theorem dX1_init_23 : decode cX1_init 23 = .ok (.newarray .int, 2) := by decide +kernel
theorem dX1_init_25 : decode cX1_init 25 = .ok (.putfield 18, 3) := by decide +kernel
theorem dX1_init_28 : decode cX1_init 28 = .ok (.aload_n 0, 1) := by decide +kernel
theorem dX1_init_29 : decode cX1_init 29 = .ok (.bipush 8, 2) := by decide +kernel
theorem dX1_init_31 : decode cX1_init 31 = .ok (.newarray .int, 2) := by decide +kernel
theorem dX1_init_33 : decode cX1_init 33 = .ok (.putfield 21, 3) := by decide +kernel
theorem dX1_init_36 : decode cX1_init 36 = .ok (.aload_n 0, 1) := by decide +kernel
theorem dX1_init_37 : decode cX1_init 37 = .ok (.iconst 0, 1) := by decide +kernel
theorem dX1_init_38 : decode cX1_init 38 = .ok (.putfield 24, 3) := by decide +kernel
theorem dX1_init_41 : decode cX1_init 41 = .ok (.aload_n 0, 1) := by decide +kernel
theorem dX1_init_42 : decode cX1_init 42 = .ok (.iconst 0, 1) := by decide +kernel
theorem dX1_init_43 : decode cX1_init 43 = .ok (.putfield 28, 3) := by decide +kernel
theorem dX1_init_46 : decode cX1_init 46 = .ok (.return_, 1) := by decide +kernel
theorem dX1_note_0 : decode cX1_note 0 = .ok (.aload_n 0, 1) := by decide +kernel
theorem dX1_note_1 : decode cX1_note 1 = .ok (.getfield 24, 3) := by decide +kernel
theorem dX1_note_4 : decode cX1_note 4 = .ok (.bipush 7, 2) := by decide +kernel
theorem dX1_note_6 : decode cX1_note 6 = .ok (.iand, 1) := by decide +kernel
theorem dX1_note_7 : decode cX1_note 7 = .ok (.istore 5, 2) := by decide +kernel
theorem dX1_note_9 : decode cX1_note 9 = .ok (.aload_n 0, 1) := by decide +kernel
theorem dX1_note_10 : decode cX1_note 10 = .ok (.getfield 9, 3) := by decide +kernel
theorem dX1_note_13 : decode cX1_note 13 = .ok (.iload 5, 2) := by decide +kernel
theorem dX1_note_15 : decode cX1_note 15 = .ok (.iload_n 1, 1) := by decide +kernel
theorem dX1_note_16 : decode cX1_note 16 = .ok (.iastore, 1) := by decide +kernel
theorem dX1_note_17 : decode cX1_note 17 = .ok (.aload_n 0, 1) := by decide +kernel
theorem dX1_note_18 : decode cX1_note 18 = .ok (.getfield 15, 3) := by decide +kernel
theorem dX1_note_21 : decode cX1_note 21 = .ok (.iload 5, 2) := by decide +kernel
theorem dX1_note_23 : decode cX1_note 23 = .ok (.iload_n 2, 1) := by decide +kernel
theorem dX1_note_24 : decode cX1_note 24 = .ok (.iastore, 1) := by decide +kernel
theorem dX1_note_25 : decode cX1_note 25 = .ok (.aload_n 0, 1) := by decide +kernel
theorem dX1_note_26 : decode cX1_note 26 = .ok (.getfield 18, 3) := by decide +kernel
theorem dX1_note_29 : decode cX1_note 29 = .ok (.iload 5, 2) := by decide +kernel
theorem dX1_note_31 : decode cX1_note 31 = .ok (.iload_n 3, 1) := by decide +kernel
theorem dX1_note_32 : decode cX1_note 32 = .ok (.iastore, 1) := by decide +kernel
theorem dX1_note_33 : decode cX1_note 33 = .ok (.aload_n 0, 1) := by decide +kernel
theorem dX1_note_34 : decode cX1_note 34 = .ok (.getfield 21, 3) := by decide +kernel
theorem dX1_note_37 : decode cX1_note 37 = .ok (.iload 5, 2) := by decide +kernel
theorem dX1_note_39 : decode cX1_note 39 = .ok (.iload 4, 2) := by decide +kernel
theorem dX1_note_41 : decode cX1_note 41 = .ok (.iastore, 1) := by decide +kernel
theorem dX1_note_42 : decode cX1_note 42 = .ok (.aload_n 0, 1) := by decide +kernel
theorem dX1_note_43 : decode cX1_note 43 = .ok (.aload_n 0, 1) := by decide +kernel
theorem dX1_note_44 : decode cX1_note 44 = .ok (.getfield 24, 3) := by decide +kernel
theorem dX1_note_47 : decode cX1_note 47 = .ok (.iconst 1, 1) := by decide +kernel
theorem dX1_note_48 : decode cX1_note 48 = .ok (.iadd, 1) := by decide +kernel
theorem dX1_note_49 : decode cX1_note 49 = .ok (.bipush 7, 2) := by decide +kernel
theorem dX1_note_51 : decode cX1_note 51 = .ok (.iand, 1) := by decide +kernel
theorem dX1_note_52 : decode cX1_note 52 = .ok (.putfield 24, 3) := by decide +kernel
theorem dX1_note_55 : decode cX1_note 55 = .ok (.aload_n 0, 1) := by decide +kernel
theorem dX1_note_56 : decode cX1_note 56 = .ok (.aload_n 0, 1) := by decide +kernel
theorem dX1_note_57 : decode cX1_note 57 = .ok (.getfield 28, 3) := by decide +kernel
theorem dX1_note_60 : decode cX1_note 60 = .ok (.iconst 1, 1) := by decide +kernel
theorem dX1_note_61 : decode cX1_note 61 = .ok (.iadd, 1) := by decide +kernel
theorem dX1_note_62 : decode cX1_note 62 = .ok (.bipush 8, 2) := by decide +kernel
theorem dX1_note_64 : decode cX1_note 64 = .ok (.invokestatic 31, 3) := by decide +kernel
theorem dX1_note_67 : decode cX1_note 67 = .ok (.putfield 28, 3) := by decide +kernel
theorem dX1_note_70 : decode cX1_note 70 = .ok (.return_, 1) := by decide +kernel
theorem dX1_slotOf_0 : decode cX1_slotOf 0 = .ok (.aload_n 0, 1) := by decide +kernel
theorem dX1_slotOf_1 : decode cX1_slotOf 1 = .ok (.getfield 24, 3) := by decide +kernel
theorem dX1_slotOf_4 : decode cX1_slotOf 4 = .ok (.iconst 1, 1) := by decide +kernel
theorem dX1_slotOf_5 : decode cX1_slotOf 5 = .ok (.isub, 1) := by decide +kernel
theorem dX1_slotOf_6 : decode cX1_slotOf 6 = .ok (.iload_n 1, 1) := by decide +kernel
theorem dX1_slotOf_7 : decode cX1_slotOf 7 = .ok (.isub, 1) := by decide +kernel
theorem dX1_slotOf_8 : decode cX1_slotOf 8 = .ok (.bipush 7, 2) := by decide +kernel
theorem dX1_slotOf_10 : decode cX1_slotOf 10 = .ok (.iand, 1) := by decide +kernel
theorem dX1_slotOf_11 : decode cX1_slotOf 11 = .ok (.ireturn, 1) := by decide +kernel
theorem dX1_become_0 : decode cX1_become 0 = .ok (.aload_n 1, 1) := by decide +kernel
theorem dX1_become_1 : decode cX1_become 1 = .ok (.getfield 9, 3) := by decide +kernel
theorem dX1_become_4 : decode cX1_become 4 = .ok (.iconst 0, 1) := by decide +kernel
theorem dX1_become_5 : decode cX1_become 5 = .ok (.aload_n 0, 1) := by decide +kernel
theorem dX1_become_6 : decode cX1_become 6 = .ok (.getfield 9, 3) := by decide +kernel
theorem dX1_become_9 : decode cX1_become 9 = .ok (.iconst 0, 1) := by decide +kernel
theorem dX1_become_10 : decode cX1_become 10 = .ok (.bipush 8, 2) := by decide +kernel
theorem dX1_become_12 : decode cX1_become 12 = .ok (.invokestatic 37, 3) := by decide +kernel
theorem dX1_become_15 : decode cX1_become 15 = .ok (.aload_n 1, 1) := by decide +kernel
theorem dX1_become_16 : decode cX1_become 16 = .ok (.getfield 15, 3) := by decide +kernel
theorem dX1_become_19 : decode cX1_become 19 = .ok (.iconst 0, 1) := by decide +kernel
theorem dX1_become_20 : decode cX1_become 20 = .ok (.aload_n 0, 1) := by decide +kernel
theorem dX1_become_21 : decode cX1_become 21 = .ok (.getfield 15, 3) := by decide +kernel
theorem dX1_become_24 : decode cX1_become 24 = .ok (.iconst 0, 1) := by decide +kernel
theorem dX1_become_25 : decode cX1_become 25 = .ok (.bipush 8, 2) := by decide +kernel
theorem dX1_become_27 : decode cX1_become 27 = .ok (.invokestatic 37, 3) := by decide +kernel
theorem dX1_become_30 : decode cX1_become 30 = .ok (.aload_n 1, 1) := by decide +kernel
theorem dX1_become_31 : decode cX1_become 31 = .ok (.getfield 18, 3) := by decide +kernel
theorem dX1_become_34 : decode cX1_become 34 = .ok (.iconst 0, 1) := by decide +kernel
theorem dX1_become_35 : decode cX1_become 35 = .ok (.aload_n 0, 1) := by decide +kernel
theorem dX1_become_36 : decode cX1_become 36 = .ok (.getfield 18, 3) := by decide +kernel
theorem dX1_become_39 : decode cX1_become 39 = .ok (.iconst 0, 1) := by decide +kernel
theorem dX1_become_40 : decode cX1_become 40 = .ok (.bipush 8, 2) := by decide +kernel
theorem dX1_become_42 : decode cX1_become 42 = .ok (.invokestatic 37, 3) := by decide +kernel
theorem dX1_become_45 : decode cX1_become 45 = .ok (.aload_n 1, 1) := by decide +kernel
theorem dX1_become_46 : decode cX1_become 46 = .ok (.getfield 21, 3) := by decide +kernel
theorem dX1_become_49 : decode cX1_become 49 = .ok (.iconst 0, 1) := by decide +kernel
theorem dX1_become_50 : decode cX1_become 50 = .ok (.aload_n 0, 1) := by decide +kernel
theorem dX1_become_51 : decode cX1_become 51 = .ok (.getfield 21, 3) := by decide +kernel
theorem dX1_become_54 : decode cX1_become 54 = .ok (.iconst 0, 1) := by decide +kernel
theorem dX1_become_55 : decode cX1_become 55 = .ok (.bipush 8, 2) := by decide +kernel
theorem dX1_become_57 : decode cX1_become 57 = .ok (.invokestatic 37, 3) := by decide +kernel
theorem dX1_become_60 : decode cX1_become 60 = .ok (.aload_n 0, 1) := by decide +kernel
theorem dX1_become_61 : decode cX1_become 61 = .ok (.aload_n 1, 1) := by decide +kernel
theorem dX1_become_62 : decode cX1_become 62 = .ok (.getfield 24, 3) := by decide +kernel
theorem dX1_become_65 : decode cX1_become 65 = .ok (.putfield 24, 3) := by decide +kernel
theorem dX1_become_68 : decode cX1_become 68 = .ok (.aload_n 0, 1) := by decide +kernel
theorem dX1_become_69 : decode cX1_become 69 = .ok (.aload_n 1, 1) := by decide +kernel
theorem dX1_become_70 : decode cX1_become 70 = .ok (.getfield 28, 3) := by decide +kernel
theorem dX1_become_73 : decode cX1_become 73 = .ok (.putfield 28, 3) := by decide +kernel
theorem dX1_become_76 : decode cX1_become 76 = .ok (.return_, 1) := by decide +kernel
theorem dX2_init_0 : decode cX2_init 0 = .ok (.aload_n 0, 1) := by decide +kernel
theorem dX2_init_1 : decode cX2_init 1 = .ok (.invokespecial 3, 3) := by decide +kernel
theorem dX2_init_4 : decode cX2_init 4 = .ok (.aload_n 0, 1) := by decide +kernel
theorem dX2_init_5 : decode cX2_init 5 = .ok (.iconst 4, 1) := by decide +kernel
theorem dX2_init_6 : decode cX2_init 6 = .ok (.anewarray 9, 3) := by decide +kernel
theorem dX2_init_9 : decode cX2_init 9 = .ok (.putfield 11, 3) := by decide +kernel
theorem dX2_init_12 : decode cX2_init 12 = .ok (.aload_n 0, 1) := by decide +kernel
theorem dX2_init_13 : decode cX2_init 13 = .ok (.new 17, 3) := by decide +kernel
theorem dX2_init_16 : decode cX2_init 16 = .ok (.dup, 1) := by decide +kernel
theorem dX2_init_17 : decode cX2_init 17 = .ok (.invokespecial 19, 3) := by decide +kernel
theorem dX2_init_20 : decode cX2_init 20 = .ok (.putfield 20, 3) := by decide +kernel
theorem dX2_init_23 : decode cX2_init 23 = .ok (.aload_n 0, 1) := by decide +kernel
theorem dX2_init_24 : decode cX2_init 24 = .ok (.new 24, 3) := by decide +kernel
theorem dX2_init_27 : decode cX2_init 27 = .ok (.dup, 1) := by decide +kernel
theorem dX2_init_28 : decode cX2_init 28 = .ok (.invokespecial 26, 3) := by decide +kernel
theorem dX2_init_31 : decode cX2_init 31 = .ok (.putfield 27, 3) := by decide +kernel
theorem dX2_init_34 : decode cX2_init 34 = .ok (.aload_n 0, 1) := by decide +kernel
theorem dX2_init_35 : decode cX2_init 35 = .ok (.iconst 0, 1) := by decide +kernel
theorem dX2_init_36 : decode cX2_init 36 = .ok (.putfield 31, 3) := by decide +kernel
theorem dX2_init_39 : decode cX2_init 39 = .ok (.aload_n 0, 1) := by decide +kernel
theorem dX2_init_40 : decode cX2_init 40 = .ok (.iconst 0, 1) := by decide +kernel
theorem dX2_init_41 : decode cX2_init 41 = .ok (.putfield 35, 3) := by decide +kernel
theorem dX2_init_44 : decode cX2_init 44 = .ok (.aload_n 0, 1) := by decide +kernel
theorem dX2_init_45 : decode cX2_init 45 = .ok (.iconst 0, 1) := by decide +kernel
theorem dX2_init_46 : decode cX2_init 46 = .ok (.putfield 38, 3) := by decide +kernel
theorem dX2_init_49 : decode cX2_init 49 = .ok (.iconst 0, 1) := by decide +kernel
theorem dX2_init_50 : decode cX2_init 50 = .ok (.istore_n 1, 1) := by decide +kernel
theorem dX2_init_51 : decode cX2_init 51 = .ok (.iload_n 1, 1) := by decide +kernel
theorem dX2_init_52 : decode cX2_init 52 = .ok (.iconst 4, 1) := by decide +kernel
theorem dX2_init_53 : decode cX2_init 53 = .ok (.if_icmp .ge 22, 3) := by decide +kernel
theorem dX2_init_56 : decode cX2_init 56 = .ok (.aload_n 0, 1) := by decide +kernel
theorem dX2_init_57 : decode cX2_init 57 = .ok (.getfield 11, 3) := by decide +kernel
theorem dX2_init_60 : decode cX2_init 60 = .ok (.iload_n 1, 1) := by decide +kernel
theorem dX2_init_61 : decode cX2_init 61 = .ok (.new 9, 3) := by decide +kernel
theorem dX2_init_64 : decode cX2_init 64 = .ok (.dup, 1) := by decide +kernel
theorem dX2_init_65 : decode cX2_init 65 = .ok (.invokespecial 41, 3) := by decide +kernel
theorem dX2_init_68 : decode cX2_init 68 = .ok (.aastore, 1) := by decide +kernel
theorem dX2_init_69 : decode cX2_init 69 = .ok (.iinc 1 1, 3) := by decide +kernel
theorem dX2_init_72 : decode cX2_init 72 = .ok (.goto (-21), 3) := by decide +kernel
theorem dX2_init_75 : decode cX2_init 75 = .ok (.return_, 1) := by decide +kernel
theorem dX2_bring_0 : decode cX2_bring 0 = .ok (.aload_n 0, 1) := by decide +kernel
theorem dX2_bring_1 : decode cX2_bring 1 = .ok (.dup, 1) := by decide +kernel
theorem dX2_bring_2 : decode cX2_bring 2 = .ok (.getfield 31, 3) := by decide +kernel
theorem dX2_bring_5 : decode cX2_bring 5 = .ok (.iconst 1, 1) := by decide +kernel
theorem dX2_bring_6 : decode cX2_bring 6 = .ok (.iadd, 1) := by decide +kernel
theorem dX2_bring_7 : decode cX2_bring 7 = .ok (.putfield 31, 3) := by decide +kernel
theorem dX2_bring_10 : decode cX2_bring 10 = .ok (.aload_n 0, 1) := by decide +kernel
theorem dX2_bring_11 : decode cX2_bring 11 = .ok (.iload_n 1, 1) := by decide +kernel
theorem dX2_bring_12 : decode cX2_bring 12 = .ok (.aload_n 2, 1) := by decide +kernel
theorem dX2_bring_13 : decode cX2_bring 13 = .ok (.iload_n 3, 1) := by decide +kernel
theorem dX2_bring_14 : decode cX2_bring 14 = .ok (.iload 4, 2) := by decide +kernel
theorem dX2_bring_16 : decode cX2_bring 16 = .ok (.aload_n 0, 1) := by decide +kernel
theorem dX2_bring_17 : decode cX2_bring 17 = .ok (.getfield 31, 3) := by decide +kernel
theorem dX2_bring_20 : decode cX2_bring 20 = .ok (.invokevirtual 42, 3) := by decide +kernel
theorem dX2_bring_23 : decode cX2_bring 23 = .ok (.invokevirtual 46, 3) := by decide +kernel
theorem dX2_bring_26 : decode cX2_bring 26 = .ok (.return_, 1) := by decide +kernel
theorem dX2_bringToWindow_0 : decode cX2_bringToWindow 0 = .ok (.aload_n 0, 1) := by decide +kernel
theorem dX2_bringToWindow_1 : decode cX2_bringToWindow 1 = .ok (.getfield 20, 3) := by decide +kernel
theorem dX2_bringToWindow_4 : decode cX2_bringToWindow 4 = .ok (.getfield 50, 3) := by decide +kernel
theorem dX2_bringToWindow_7 : decode cX2_bringToWindow 7 = .ok (.bipush 8, 2) := by decide +kernel
theorem dX2_bringToWindow_9 : decode cX2_bringToWindow 9 = .ok (.if_icmp .lt 30, 3) := by decide +kernel
theorem dX2_bringToWindow_12 : decode cX2_bringToWindow 12 = .ok (.aload_n 0, 1) := by decide +kernel
theorem dX2_bringToWindow_13 : decode cX2_bringToWindow 13 = .ok (.getfield 20, 3) := by decide +kernel
theorem dX2_bringToWindow_16 : decode cX2_bringToWindow 16 = .ok (.invokevirtual 53, 3) := by decide +kernel
theorem dX2_bringToWindow_19 : decode cX2_bringToWindow 19 = .ok (.aload_n 0, 1) := by decide +kernel
theorem dX2_bringToWindow_20 : decode cX2_bringToWindow 20 = .ok (.getfield 27, 3) := by decide +kernel
theorem dX2_bringToWindow_23 : decode cX2_bringToWindow 23 = .ok (.iconst 2, 1) := by decide +kernel
theorem dX2_bringToWindow_24 : decode cX2_bringToWindow 24 = .ok (.iconst 4, 1) := by decide +kernel
theorem dX2_bringToWindow_25 : decode cX2_bringToWindow 25 = .ok (.aload_n 0, 1) := by decide +kernel
theorem dX2_bringToWindow_26 : decode cX2_bringToWindow 26 = .ok (.getfield 20, 3) := by decide +kernel
theorem dX2_bringToWindow_29 : decode cX2_bringToWindow 29 = .ok (.getfield 56, 3) := by decide +kernel
theorem dX2_bringToWindow_32 : decode cX2_bringToWindow 32 = .ok (.aload_n 0, 1) := by decide +kernel
theorem dX2_bringToWindow_33 : decode cX2_bringToWindow 33 = .ok (.getfield 31, 3) := by decide +kernel
theorem dX2_bringToWindow_36 : decode cX2_bringToWindow 36 = .ok (.invokevirtual 59, 3) := by decide +kernel
theorem dX2_bringToWindow_39 : decode cX2_bringToWindow 39 = .ok (.aload_n 0, 1) := by decide +kernel
theorem dX2_bringToWindow_40 : decode cX2_bringToWindow 40 = .ok (.getfield 20, 3) := by decide +kernel
theorem dX2_bringToWindow_43 : decode cX2_bringToWindow 43 = .ok (.dup, 1) := by decide +kernel
theorem dX2_bringToWindow_44 : decode cX2_bringToWindow 44 = .ok (.getfield 50, 3) := by decide +kernel
theorem dX2_bringToWindow_47 : decode cX2_bringToWindow 47 = .ok (.iconst 1, 1) := by decide +kernel
theorem dX2_bringToWindow_48 : decode cX2_bringToWindow 48 = .ok (.iadd, 1) := by decide +kernel
theorem dX2_bringToWindow_49 : decode cX2_bringToWindow 49 = .ok (.putfield 50, 3) := by decide +kernel
theorem dX2_bringToWindow_52 : decode cX2_bringToWindow 52 = .ok (.aload_n 0, 1) := by decide +kernel
theorem dX2_bringToWindow_53 : decode cX2_bringToWindow 53 = .ok (.iconst 4, 1) := by decide +kernel
theorem dX2_bringToWindow_54 : decode cX2_bringToWindow 54 = .ok (.aload_n 0, 1) := by decide +kernel
theorem dX2_bringToWindow_55 : decode cX2_bringToWindow 55 = .ok (.getfield 20, 3) := by decide +kernel
theorem dX2_bringToWindow_58 : decode cX2_bringToWindow 58 = .ok (.invokevirtual 63, 3) := by decide +kernel
theorem dX2_bringToWindow_61 : decode cX2_bringToWindow 61 = .ok (.iload_n 1, 1) := by decide +kernel
theorem dX2_bringToWindow_62 : decode cX2_bringToWindow 62 = .ok (.iload_n 2, 1) := by decide +kernel
theorem dX2_bringToWindow_63 : decode cX2_bringToWindow 63 = .ok (.invokevirtual 67, 3) := by decide +kernel
theorem dX2_bringToWindow_66 : decode cX2_bringToWindow 66 = .ok (.return_, 1) := by decide +kernel
theorem dX2_noteEviction_0 : decode cX2_noteEviction 0 = .ok (.iload_n 2, 1) := by decide +kernel
theorem dX2_noteEviction_1 : decode cX2_noteEviction 1 = .ok (.iconst (-1), 1) := by decide +kernel
theorem dX2_noteEviction_2 : decode cX2_noteEviction 2 = .ok (.if_icmp .eq 30, 3) := by decide +kernel
theorem dX2_noteEviction_5 : decode cX2_noteEviction 5 = .ok (.aload_n 0, 1) := by decide +kernel
theorem dX2_noteEviction_6 : decode cX2_noteEviction 6 = .ok (.dup, 1) := by decide +kernel
theorem dX2_noteEviction_7 : decode cX2_noteEviction 7 = .ok (.getfield 35, 3) := by decide +kernel
theorem dX2_noteEviction_10 : decode cX2_noteEviction 10 = .ok (.iconst 1, 1) := by decide +kernel
theorem dX2_noteEviction_11 : decode cX2_noteEviction 11 = .ok (.iadd, 1) := by decide +kernel
theorem dX2_noteEviction_12 : decode cX2_noteEviction 12 = .ok (.putfield 35, 3) := by decide +kernel
theorem dX2_noteEviction_15 : decode cX2_noteEviction 15 = .ok (.aload_n 0, 1) := by decide +kernel
theorem dX2_noteEviction_16 : decode cX2_noteEviction 16 = .ok (.getfield 27, 3) := by decide +kernel
theorem dX2_noteEviction_19 : decode cX2_noteEviction 19 = .ok (.iconst 0, 1) := by decide +kernel
theorem dX2_noteEviction_20 : decode cX2_noteEviction 20 = .ok (.iload_n 1, 1) := by decide +kernel
theorem dX2_noteEviction_21 : decode cX2_noteEviction 21 = .ok (.iload_n 2, 1) := by decide +kernel
theorem dX2_noteEviction_22 : decode cX2_noteEviction 22 = .ok (.invokestatic 71, 3) := by decide +kernel
theorem dX2_noteEviction_25 : decode cX2_noteEviction 25 = .ok (.aload_n 0, 1) := by decide +kernel
theorem dX2_noteEviction_26 : decode cX2_noteEviction 26 = .ok (.getfield 31, 3) := by decide +kernel
theorem dX2_noteEviction_29 : decode cX2_noteEviction 29 = .ok (.invokevirtual 59, 3) := by decide +kernel
theorem dX2_noteEviction_32 : decode cX2_noteEviction 32 = .ok (.return_, 1) := by decide +kernel
theorem dX2_join_0 : decode cX2_join 0 = .ok (.aload_n 0, 1) := by decide +kernel
theorem dX2_join_1 : decode cX2_join 1 = .ok (.getfield 11, 3) := by decide +kernel
theorem dX2_join_4 : decode cX2_join 4 = .ok (.iload_n 1, 1) := by decide +kernel
theorem dX2_join_5 : decode cX2_join 5 = .ok (.aaload, 1) := by decide +kernel
theorem dX2_join_6 : decode cX2_join 6 = .ok (.aload_n 0, 1) := by decide +kernel
theorem dX2_join_7 : decode cX2_join 7 = .ok (.getfield 11, 3) := by decide +kernel
theorem dX2_join_10 : decode cX2_join 10 = .ok (.iload_n 2, 1) := by decide +kernel
theorem dX2_join_11 : decode cX2_join 11 = .ok (.aaload, 1) := by decide +kernel
theorem dX2_join_12 : decode cX2_join 12 = .ok (.aload_n 0, 1) := by decide +kernel
theorem dX2_join_13 : decode cX2_join 13 = .ok (.getfield 31, 3) := by decide +kernel
theorem dX2_join_16 : decode cX2_join 16 = .ok (.invokevirtual 75, 3) := by decide +kernel
theorem dX2_join_19 : decode cX2_join 19 = .ok (.istore_n 3, 1) := by decide +kernel
theorem dX2_join_20 : decode cX2_join 20 = .ok (.aload_n 0, 1) := by decide +kernel
theorem dX2_join_21 : decode cX2_join 21 = .ok (.getfield 11, 3) := by decide +kernel
theorem dX2_join_24 : decode cX2_join 24 = .ok (.iload_n 2, 1) := by decide +kernel
theorem dX2_join_25 : decode cX2_join 25 = .ok (.aaload, 1) := by decide +kernel
theorem dX2_join_26 : decode cX2_join 26 = .ok (.invokevirtual 79, 3) := by decide +kernel
theorem dX2_join_29 : decode cX2_join 29 = .ok (.aload_n 0, 1) := by decide +kernel
theorem dX2_join_30 : decode cX2_join 30 = .ok (.dup, 1) := by decide +kernel
theorem dX2_join_31 : decode cX2_join 31 = .ok (.getfield 38, 3) := by decide +kernel
theorem dX2_join_34 : decode cX2_join 34 = .ok (.iconst 1, 1) := by decide +kernel
theorem dX2_join_35 : decode cX2_join 35 = .ok (.iadd, 1) := by decide +kernel
theorem dX2_join_36 : decode cX2_join 36 = .ok (.putfield 38, 3) := by decide +kernel
theorem dX2_join_39 : decode cX2_join 39 = .ok (.aload_n 0, 1) := by decide +kernel
theorem dX2_join_40 : decode cX2_join 40 = .ok (.getfield 27, 3) := by decide +kernel
theorem dX2_join_43 : decode cX2_join 43 = .ok (.iconst 1, 1) := by decide +kernel
theorem dX2_join_44 : decode cX2_join 44 = .ok (.iload_n 1, 1) := by decide +kernel
theorem dX2_join_45 : decode cX2_join 45 = .ok (.iload_n 3, 1) := by decide +kernel
theorem dX2_join_46 : decode cX2_join 46 = .ok (.aload_n 0, 1) := by decide +kernel
theorem dX2_join_47 : decode cX2_join 47 = .ok (.getfield 31, 3) := by decide +kernel
theorem dX2_join_50 : decode cX2_join 50 = .ok (.invokevirtual 59, 3) := by decide +kernel
theorem dX2_join_53 : decode cX2_join 53 = .ok (.iload_n 3, 1) := by decide +kernel
theorem dX2_join_54 : decode cX2_join 54 = .ok (.ireturn, 1) := by decide +kernel
theorem dX2_resize_0 : decode cX2_resize 0 = .ok (.aload_n 0, 1) := by decide +kernel
theorem dX2_resize_1 : decode cX2_resize 1 = .ok (.getfield 11, 3) := by decide +kernel
theorem dX2_resize_4 : decode cX2_resize 4 = .ok (.iload_n 1, 1) := by decide +kernel
theorem dX2_resize_5 : decode cX2_resize 5 = .ok (.aaload, 1) := by decide +kernel
theorem dX2_resize_6 : decode cX2_resize 6 = .ok (.astore_n 3, 1) := by decide +kernel
theorem dX2_resize_7 : decode cX2_resize 7 = .ok (.iconst 0, 1) := by decide +kernel
theorem dX2_resize_8 : decode cX2_resize 8 = .ok (.istore 4, 2) := by decide +kernel
theorem dX2_resize_10 : decode cX2_resize 10 = .ok (.aload_n 3, 1) := by decide +kernel
theorem dX2_resize_11 : decode cX2_resize 11 = .ok (.iload_n 2, 1) := by decide +kernel
theorem dX2_resize_12 : decode cX2_resize 12 = .ok (.putfield 82, 3) := by decide +kernel
theorem dX2_resize_15 : decode cX2_resize 15 = .ok (.iconst 0, 1) := by decide +kernel
theorem dX2_resize_16 : decode cX2_resize 16 = .ok (.istore 5, 2) := by decide +kernel
theorem dX2_resize_18 : decode cX2_resize 18 = .ok (.iload 5, 2) := by decide +kernel
theorem dX2_resize_20 : decode cX2_resize 20 = .ok (.bipush 26, 2) := by decide +kernel
theorem dX2_resize_22 : decode cX2_resize 22 = .ok (.if_icmp .ge 29, 3) := by decide +kernel
theorem dX2_resize_25 : decode cX2_resize 25 = .ok (.aload_n 3, 1) := by decide +kernel
theorem dX2_resize_26 : decode cX2_resize 26 = .ok (.invokevirtual 85, 3) := by decide +kernel
theorem dX2_resize_29 : decode cX2_resize 29 = .ok (.iload_n 2, 1) := by decide +kernel
theorem dX2_resize_30 : decode cX2_resize 30 = .ok (.if_icmp .le 21, 3) := by decide +kernel
theorem dX2_resize_33 : decode cX2_resize 33 = .ok (.aload_n 0, 1) := by decide +kernel
theorem dX2_resize_34 : decode cX2_resize 34 = .ok (.iload_n 1, 1) := by decide +kernel
theorem dX2_resize_35 : decode cX2_resize 35 = .ok (.aload_n 3, 1) := by decide +kernel
theorem dX2_resize_36 : decode cX2_resize 36 = .ok (.invokevirtual 89, 3) := by decide +kernel
theorem dX2_resize_39 : decode cX2_resize 39 = .ok (.invokevirtual 46, 3) := by decide +kernel
theorem dX2_resize_42 : decode cX2_resize 42 = .ok (.iinc 4 1, 3) := by decide +kernel
theorem dX2_resize_45 : decode cX2_resize 45 = .ok (.iinc 5 1, 3) := by decide +kernel
theorem dX2_resize_48 : decode cX2_resize 48 = .ok (.goto (-30), 3) := by decide +kernel
theorem dX2_resize_51 : decode cX2_resize 51 = .ok (.iload 4, 2) := by decide +kernel
theorem dX2_resize_53 : decode cX2_resize 53 = .ok (.ireturn, 1) := by decide +kernel
theorem dX2_become_0 : decode cX2_become 0 = .ok (.iconst 0, 1) := by decide +kernel
theorem dX2_become_1 : decode cX2_become 1 = .ok (.istore_n 2, 1) := by decide +kernel
theorem dX2_become_2 : decode cX2_become 2 = .ok (.iload_n 2, 1) := by decide +kernel
theorem dX2_become_3 : decode cX2_become 3 = .ok (.iconst 4, 1) := by decide +kernel
theorem dX2_become_4 : decode cX2_become 4 = .ok (.if_icmp .ge 24, 3) := by decide +kernel
theorem dX2_become_7 : decode cX2_become 7 = .ok (.aload_n 0, 1) := by decide +kernel
theorem dX2_become_8 : decode cX2_become 8 = .ok (.getfield 11, 3) := by decide +kernel
theorem dX2_become_11 : decode cX2_become 11 = .ok (.iload_n 2, 1) := by decide +kernel
theorem dX2_become_12 : decode cX2_become 12 = .ok (.aaload, 1) := by decide +kernel
theorem dX2_become_13 : decode cX2_become 13 = .ok (.aload_n 1, 1) := by decide +kernel
theorem dX2_become_14 : decode cX2_become 14 = .ok (.getfield 11, 3) := by decide +kernel
theorem dX2_become_17 : decode cX2_become 17 = .ok (.iload_n 2, 1) := by decide +kernel
theorem dX2_become_18 : decode cX2_become 18 = .ok (.aaload, 1) := by decide +kernel
theorem dX2_become_19 : decode cX2_become 19 = .ok (.invokevirtual 92, 3) := by decide +kernel
theorem dX2_become_22 : decode cX2_become 22 = .ok (.iinc 2 1, 3) := by decide +kernel
theorem dX2_become_25 : decode cX2_become 25 = .ok (.goto (-23), 3) := by decide +kernel
theorem dX2_become_28 : decode cX2_become 28 = .ok (.aload_n 0, 1) := by decide +kernel
theorem dX2_become_29 : decode cX2_become 29 = .ok (.getfield 20, 3) := by decide +kernel
theorem dX2_become_32 : decode cX2_become 32 = .ok (.aload_n 1, 1) := by decide +kernel
theorem dX2_become_33 : decode cX2_become 33 = .ok (.getfield 20, 3) := by decide +kernel
theorem dX2_become_36 : decode cX2_become 36 = .ok (.invokevirtual 96, 3) := by decide +kernel
theorem dX2_become_39 : decode cX2_become 39 = .ok (.aload_n 0, 1) := by decide +kernel
theorem dX2_become_40 : decode cX2_become 40 = .ok (.getfield 27, 3) := by decide +kernel
theorem dX2_become_43 : decode cX2_become 43 = .ok (.aload_n 1, 1) := by decide +kernel
theorem dX2_become_44 : decode cX2_become 44 = .ok (.getfield 27, 3) := by decide +kernel
theorem dX2_become_47 : decode cX2_become 47 = .ok (.invokevirtual 99, 3) := by decide +kernel
theorem dX2_become_50 : decode cX2_become 50 = .ok (.aload_n 0, 1) := by decide +kernel
theorem dX2_become_51 : decode cX2_become 51 = .ok (.aload_n 1, 1) := by decide +kernel
theorem dX2_become_52 : decode cX2_become 52 = .ok (.getfield 31, 3) := by decide +kernel
theorem dX2_become_55 : decode cX2_become 55 = .ok (.putfield 31, 3) := by decide +kernel
theorem dX2_become_58 : decode cX2_become 58 = .ok (.aload_n 0, 1) := by decide +kernel
theorem dX2_become_59 : decode cX2_become 59 = .ok (.aload_n 1, 1) := by decide +kernel
theorem dX2_become_60 : decode cX2_become 60 = .ok (.getfield 35, 3) := by decide +kernel
theorem dX2_become_63 : decode cX2_become 63 = .ok (.putfield 35, 3) := by decide +kernel
theorem dX2_become_66 : decode cX2_become 66 = .ok (.aload_n 0, 1) := by decide +kernel
theorem dX2_become_67 : decode cX2_become 67 = .ok (.aload_n 1, 1) := by decide +kernel
theorem dX2_become_68 : decode cX2_become 68 = .ok (.getfield 38, 3) := by decide +kernel
theorem dX2_become_71 : decode cX2_become 71 = .ok (.putfield 38, 3) := by decide +kernel
theorem dX2_become_74 : decode cX2_become 74 = .ok (.return_, 1) := by decide +kernel
theorem dX3_init_0 : decode cX3_init 0 = .ok (.aload_n 0, 1) := by decide +kernel
theorem dX3_init_1 : decode cX3_init 1 = .ok (.invokespecial 3, 3) := by decide +kernel
theorem dX3_init_4 : decode cX3_init 4 = .ok (.aload_n 0, 1) := by decide +kernel
theorem dX3_init_5 : decode cX3_init 5 = .ok (.iconst 4, 1) := by decide +kernel
theorem dX3_init_6 : decode cX3_init 6 = .ok (.putfield 9, 3) := by decide +kernel
theorem dX3_init_9 : decode cX3_init 9 = .ok (.aload_n 0, 1) := by decide +kernel
theorem dX3_init_10 : decode cX3_init 10 = .ok (.iconst 0, 1) := by decide +kernel
theorem dX3_init_11 : decode cX3_init 11 = .ok (.putfield 15, 3) := by decide +kernel
theorem dX3_init_14 : decode cX3_init 14 = .ok (.aload_n 0, 1) := by decide +kernel
theorem dX3_init_15 : decode cX3_init 15 = .ok (.iconst 0, 1) := by decide +kernel
theorem dX3_init_16 : decode cX3_init 16 = .ok (.putfield 18, 3) := by decide +kernel
theorem dX3_init_19 : decode cX3_init 19 = .ok (.aload_n 0, 1) := by decide +kernel
theorem dX3_init_20 : decode cX3_init 20 = .ok (.iconst 0, 1) := by decide +kernel
theorem dX3_init_21 : decode cX3_init 21 = .ok (.putfield 21, 3) := by decide +kernel
theorem dX3_init_24 : decode cX3_init 24 = .ok (.aload_n 0, 1) := by decide +kernel
theorem dX3_init_25 : decode cX3_init 25 = .ok (.bipush 26, 2) := by decide +kernel
theorem dX3_init_27 : decode cX3_init 27 = .ok (.newarray .int, 2) := by decide +kernel
theorem dX3_init_29 : decode cX3_init 29 = .ok (.putfield 24, 3) := by decide +kernel
theorem dX3_init_32 : decode cX3_init 32 = .ok (.aload_n 0, 1) := by decide +kernel
theorem dX3_init_33 : decode cX3_init 33 = .ok (.bipush 26, 2) := by decide +kernel
theorem dX3_init_35 : decode cX3_init 35 = .ok (.newarray .int, 2) := by decide +kernel
theorem dX3_init_37 : decode cX3_init 37 = .ok (.putfield 28, 3) := by decide +kernel
theorem dX3_init_40 : decode cX3_init 40 = .ok (.aload_n 0, 1) := by decide +kernel
theorem dX3_init_41 : decode cX3_init 41 = .ok (.bipush 26, 2) := by decide +kernel
theorem dX3_init_43 : decode cX3_init 43 = .ok (.newarray .int, 2) := by decide +kernel
theorem dX3_init_45 : decode cX3_init 45 = .ok (.putfield 31, 3) := by decide +kernel
theorem dX3_init_48 : decode cX3_init 48 = .ok (.aload_n 0, 1) := by decide +kernel
theorem dX3_init_49 : decode cX3_init 49 = .ok (.bipush 26, 2) := by decide +kernel
theorem dX3_init_51 : decode cX3_init 51 = .ok (.newarray .int, 2) := by decide +kernel
theorem dX3_init_53 : decode cX3_init 53 = .ok (.putfield 34, 3) := by decide +kernel
theorem dX3_init_56 : decode cX3_init 56 = .ok (.return_, 1) := by decide +kernel
theorem dX3_has_0 : decode cX3_has 0 = .ok (.aload_n 0, 1) := by decide +kernel
theorem dX3_has_1 : decode cX3_has 1 = .ok (.getfield 21, 3) := by decide +kernel
theorem dX3_has_4 : decode cX3_has 4 = .ok (.iload_n 1, 1) := by decide +kernel
theorem dX3_has_5 : decode cX3_has 5 = .ok (.ishr, 1) := by decide +kernel
theorem dX3_has_6 : decode cX3_has 6 = .ok (.iconst 1, 1) := by decide +kernel
theorem dX3_has_7 : decode cX3_has 7 = .ok (.iand, 1) := by decide +kernel
theorem dX3_has_8 : decode cX3_has 8 = .ok (.ifCond .eq 7, 3) := by decide +kernel
theorem dX3_has_11 : decode cX3_has 11 = .ok (.iconst 1, 1) := by decide +kernel
theorem dX3_has_12 : decode cX3_has 12 = .ok (.goto 4, 3) := by decide +kernel
theorem dX3_has_15 : decode cX3_has 15 = .ok (.iconst 0, 1) := by decide +kernel
theorem dX3_has_16 : decode cX3_has 16 = .ok (.ireturn, 1) := by decide +kernel
theorem dX3_counters_0 : decode cX3_counters 0 = .ok (.aload_n 0, 1) := by decide +kernel
theorem dX3_counters_1 : decode cX3_counters 1 = .ok (.getfield 21, 3) := by decide +kernel
theorem dX3_counters_4 : decode cX3_counters 4 = .ok (.invokestatic 37, 3) := by decide +kernel
theorem dX3_counters_7 : decode cX3_counters 7 = .ok (.ireturn, 1) := by decide +kernel
theorem dX3_upper_0 : decode cX3_upper 0 = .ok (.aload_n 0, 1) := by decide +kernel
theorem dX3_upper_1 : decode cX3_upper 1 = .ok (.iload_n 1, 1) := by decide +kernel
theorem dX3_upper_2 : decode cX3_upper 2 = .ok (.invokevirtual 43, 3) := by decide +kernel
theorem dX3_upper_5 : decode cX3_upper 5 = .ok (.ifCond .eq 12, 3) := by decide +kernel
theorem dX3_upper_8 : decode cX3_upper 8 = .ok (.aload_n 0, 1) := by decide +kernel
theorem dX3_upper_9 : decode cX3_upper 9 = .ok (.getfield 24, 3) := by decide +kernel
theorem dX3_upper_12 : decode cX3_upper 12 = .ok (.iload_n 1, 1) := by decide +kernel
theorem dX3_upper_13 : decode cX3_upper 13 = .ok (.iaload, 1) := by decide +kernel
theorem dX3_upper_14 : decode cX3_upper 14 = .ok (.goto 7, 3) := by decide +kernel
theorem dX3_upper_17 : decode cX3_upper 17 = .ok (.aload_n 0, 1) := by decide +kernel
theorem dX3_upper_18 : decode cX3_upper 18 = .ok (.getfield 15, 3) := by decide +kernel
theorem dX3_upper_21 : decode cX3_upper 21 = .ok (.ireturn, 1) := by decide +kernel
theorem dX3_lower_0 : decode cX3_lower 0 = .ok (.aload_n 0, 1) := by decide +kernel
theorem dX3_lower_1 : decode cX3_lower 1 = .ok (.iload_n 1, 1) := by decide +kernel
theorem dX3_lower_2 : decode cX3_lower 2 = .ok (.invokevirtual 43, 3) := by decide +kernel
theorem dX3_lower_5 : decode cX3_lower 5 = .ok (.ifCond .eq 19, 3) := by decide +kernel
theorem dX3_lower_8 : decode cX3_lower 8 = .ok (.aload_n 0, 1) := by decide +kernel
theorem dX3_lower_9 : decode cX3_lower 9 = .ok (.getfield 24, 3) := by decide +kernel
theorem dX3_lower_12 : decode cX3_lower 12 = .ok (.iload_n 1, 1) := by decide +kernel
theorem dX3_lower_13 : decode cX3_lower 13 = .ok (.iaload, 1) := by decide +kernel
theorem dX3_lower_14 : decode cX3_lower 14 = .ok (.aload_n 0, 1) := by decide +kernel
theorem dX3_lower_15 : decode cX3_lower 15 = .ok (.getfield 28, 3) := by decide +kernel
theorem dX3_lower_18 : decode cX3_lower 18 = .ok (.iload_n 1, 1) := by decide +kernel
theorem dX3_lower_19 : decode cX3_lower 19 = .ok (.iaload, 1) := by decide +kernel
theorem dX3_lower_20 : decode cX3_lower 20 = .ok (.isub, 1) := by decide +kernel
theorem dX3_lower_21 : decode cX3_lower 21 = .ok (.goto 4, 3) := by decide +kernel
theorem dX3_lower_24 : decode cX3_lower 24 = .ok (.iconst 0, 1) := by decide +kernel
theorem dX3_lower_25 : decode cX3_lower 25 = .ok (.ireturn, 1) := by decide +kernel
theorem dX3_slackToMerge_0 : decode cX3_slackToMerge 0 = .ok (.aload_n 0, 1) := by decide +kernel
theorem dX3_slackToMerge_1 : decode cX3_slackToMerge 1 = .ok (.iload_n 1, 1) := by decide +kernel
theorem dX3_slackToMerge_2 : decode cX3_slackToMerge 2 = .ok (.invokevirtual 43, 3) := by decide +kernel
theorem dX3_slackToMerge_5 : decode cX3_slackToMerge 5 = .ok (.ifCond .eq 12, 3) := by decide +kernel
theorem dX3_slackToMerge_8 : decode cX3_slackToMerge 8 = .ok (.aload_n 0, 1) := by decide +kernel
theorem dX3_slackToMerge_9 : decode cX3_slackToMerge 9 = .ok (.getfield 28, 3) := by decide +kernel
theorem dX3_slackToMerge_12 : decode cX3_slackToMerge 12 = .ok (.iload_n 1, 1) := by decide +kernel
theorem dX3_slackToMerge_13 : decode cX3_slackToMerge 13 = .ok (.iaload, 1) := by decide +kernel
theorem dX3_slackToMerge_14 : decode cX3_slackToMerge 14 = .ok (.goto 7, 3) := by decide +kernel
theorem dX3_slackToMerge_17 : decode cX3_slackToMerge 17 = .ok (.aload_n 0, 1) := by decide +kernel
theorem dX3_slackToMerge_18 : decode cX3_slackToMerge 18 = .ok (.getfield 15, 3) := by decide +kernel
theorem dX3_slackToMerge_21 : decode cX3_slackToMerge 21 = .ok (.ireturn, 1) := by decide +kernel
theorem dX3_needsRoomFor_0 : decode cX3_needsRoomFor 0 = .ok (.aload_n 0, 1) := by decide +kernel
theorem dX3_needsRoomFor_1 : decode cX3_needsRoomFor 1 = .ok (.iload_n 1, 1) := by decide +kernel
theorem dX3_needsRoomFor_2 : decode cX3_needsRoomFor 2 = .ok (.invokevirtual 43, 3) := by decide +kernel
theorem dX3_needsRoomFor_5 : decode cX3_needsRoomFor 5 = .ok (.ifCond .ne 18, 3) := by decide +kernel
theorem dX3_needsRoomFor_8 : decode cX3_needsRoomFor 8 = .ok (.aload_n 0, 1) := by decide +kernel
theorem dX3_needsRoomFor_9 : decode cX3_needsRoomFor 9 = .ok (.invokevirtual 47, 3) := by decide +kernel
theorem dX3_needsRoomFor_12 : decode cX3_needsRoomFor 12 = .ok (.aload_n 0, 1) := by decide +kernel
theorem dX3_needsRoomFor_13 : decode cX3_needsRoomFor 13 = .ok (.getfield 9, 3) := by decide +kernel
theorem dX3_needsRoomFor_16 : decode cX3_needsRoomFor 16 = .ok (.if_icmp .lt 7, 3) := by decide +kernel
theorem dX3_needsRoomFor_19 : decode cX3_needsRoomFor 19 = .ok (.iconst 1, 1) := by decide +kernel
theorem dX3_needsRoomFor_20 : decode cX3_needsRoomFor 20 = .ok (.goto 4, 3) := by decide +kernel
theorem dX3_needsRoomFor_23 : decode cX3_needsRoomFor 23 = .ok (.iconst 0, 1) := by decide +kernel
theorem dX3_needsRoomFor_24 : decode cX3_needsRoomFor 24 = .ok (.ireturn, 1) := by decide +kernel
theorem dX3_receive_0 : decode cX3_receive 0 = .ok (.iconst (-1), 1) := by decide +kernel
theorem dX3_receive_1 : decode cX3_receive 1 = .ok (.istore 4, 2) := by decide +kernel
theorem dX3_receive_3 : decode cX3_receive 3 = .ok (.aload_n 0, 1) := by decide +kernel
theorem dX3_receive_4 : decode cX3_receive 4 = .ok (.dup, 1) := by decide +kernel
theorem dX3_receive_5 : decode cX3_receive 5 = .ok (.getfield 18, 3) := by decide +kernel
theorem dX3_receive_8 : decode cX3_receive 8 = .ok (.iload_n 2, 1) := by decide +kernel
theorem dX3_receive_9 : decode cX3_receive 9 = .ok (.iadd, 1) := by decide +kernel
theorem dX3_receive_10 : decode cX3_receive 10 = .ok (.putfield 18, 3) := by decide +kernel
theorem dX3_receive_13 : decode cX3_receive 13 = .ok (.aload_n 0, 1) := by decide +kernel
theorem dX3_receive_14 : decode cX3_receive 14 = .ok (.getfield 34, 3) := by decide +kernel
theorem dX3_receive_17 : decode cX3_receive 17 = .ok (.iload_n 1, 1) := by decide +kernel
theorem dX3_receive_18 : decode cX3_receive 18 = .ok (.dup2, 1) := by decide +kernel
theorem dX3_receive_19 : decode cX3_receive 19 = .ok (.iaload, 1) := by decide +kernel
theorem dX3_receive_20 : decode cX3_receive 20 = .ok (.iload_n 2, 1) := by decide +kernel
theorem dX3_receive_21 : decode cX3_receive 21 = .ok (.iadd, 1) := by decide +kernel
theorem dX3_receive_22 : decode cX3_receive 22 = .ok (.iastore, 1) := by decide +kernel
theorem dX3_receive_23 : decode cX3_receive 23 = .ok (.aload_n 0, 1) := by decide +kernel
theorem dX3_receive_24 : decode cX3_receive 24 = .ok (.iload_n 1, 1) := by decide +kernel
theorem dX3_receive_25 : decode cX3_receive 25 = .ok (.invokevirtual 43, 3) := by decide +kernel
theorem dX3_receive_28 : decode cX3_receive 28 = .ok (.ifCond .eq 16, 3) := by decide +kernel
theorem dX3_receive_31 : decode cX3_receive 31 = .ok (.aload_n 0, 1) := by decide +kernel
theorem dX3_receive_32 : decode cX3_receive 32 = .ok (.getfield 24, 3) := by decide +kernel
theorem dX3_receive_35 : decode cX3_receive 35 = .ok (.iload_n 1, 1) := by decide +kernel
theorem dX3_receive_36 : decode cX3_receive 36 = .ok (.dup2, 1) := by decide +kernel
theorem dX3_receive_37 : decode cX3_receive 37 = .ok (.iaload, 1) := by decide +kernel
theorem dX3_receive_38 : decode cX3_receive 38 = .ok (.iload_n 2, 1) := by decide +kernel
theorem dX3_receive_39 : decode cX3_receive 39 = .ok (.iadd, 1) := by decide +kernel
theorem dX3_receive_40 : decode cX3_receive 40 = .ok (.iastore, 1) := by decide +kernel
theorem dX3_receive_41 : decode cX3_receive 41 = .ok (.goto 51, 3) := by decide +kernel
theorem dX3_receive_44 : decode cX3_receive 44 = .ok (.aload_n 0, 1) := by decide +kernel
theorem dX3_receive_45 : decode cX3_receive 45 = .ok (.iload_n 1, 1) := by decide +kernel
theorem dX3_receive_46 : decode cX3_receive 46 = .ok (.invokevirtual 51, 3) := by decide +kernel
theorem dX3_receive_49 : decode cX3_receive 49 = .ok (.ifCond .eq 9, 3) := by decide +kernel
theorem dX3_receive_52 : decode cX3_receive 52 = .ok (.aload_n 0, 1) := by decide +kernel
theorem dX3_receive_53 : decode cX3_receive 53 = .ok (.invokevirtual 54, 3) := by decide +kernel
theorem dX3_receive_56 : decode cX3_receive 56 = .ok (.istore 4, 2) := by decide +kernel
theorem dX3_receive_58 : decode cX3_receive 58 = .ok (.aload_n 0, 1) := by decide +kernel
theorem dX3_receive_59 : decode cX3_receive 59 = .ok (.getfield 24, 3) := by decide +kernel
theorem dX3_receive_62 : decode cX3_receive 62 = .ok (.iload_n 1, 1) := by decide +kernel
theorem dX3_receive_63 : decode cX3_receive 63 = .ok (.aload_n 0, 1) := by decide +kernel
theorem dX3_receive_64 : decode cX3_receive 64 = .ok (.getfield 15, 3) := by decide +kernel
theorem dX3_receive_67 : decode cX3_receive 67 = .ok (.iload_n 2, 1) := by decide +kernel
theorem dX3_receive_68 : decode cX3_receive 68 = .ok (.iadd, 1) := by decide +kernel
theorem dX3_receive_69 : decode cX3_receive 69 = .ok (.iastore, 1) := by decide +kernel
theorem dX3_receive_70 : decode cX3_receive 70 = .ok (.aload_n 0, 1) := by decide +kernel
theorem dX3_receive_71 : decode cX3_receive 71 = .ok (.getfield 28, 3) := by decide +kernel
theorem dX3_receive_74 : decode cX3_receive 74 = .ok (.iload_n 1, 1) := by decide +kernel
theorem dX3_receive_75 : decode cX3_receive 75 = .ok (.aload_n 0, 1) := by decide +kernel
theorem dX3_receive_76 : decode cX3_receive 76 = .ok (.getfield 15, 3) := by decide +kernel
theorem dX3_receive_79 : decode cX3_receive 79 = .ok (.iastore, 1) := by decide +kernel
theorem dX3_receive_80 : decode cX3_receive 80 = .ok (.aload_n 0, 1) := by decide +kernel
theorem dX3_receive_81 : decode cX3_receive 81 = .ok (.dup, 1) := by decide +kernel
theorem dX3_receive_82 : decode cX3_receive 82 = .ok (.getfield 21, 3) := by decide +kernel
theorem dX3_receive_85 : decode cX3_receive 85 = .ok (.iconst 1, 1) := by decide +kernel
theorem dX3_receive_86 : decode cX3_receive 86 = .ok (.iload_n 1, 1) := by decide +kernel
theorem dX3_receive_87 : decode cX3_receive 87 = .ok (.ishl, 1) := by decide +kernel
theorem dX3_receive_88 : decode cX3_receive 88 = .ok (.ior, 1) := by decide +kernel
theorem dX3_receive_89 : decode cX3_receive 89 = .ok (.putfield 21, 3) := by decide +kernel
theorem dX3_receive_92 : decode cX3_receive 92 = .ok (.aload_n 0, 1) := by decide +kernel
theorem dX3_receive_93 : decode cX3_receive 93 = .ok (.getfield 31, 3) := by decide +kernel
theorem dX3_receive_96 : decode cX3_receive 96 = .ok (.iload_n 1, 1) := by decide +kernel
theorem dX3_receive_97 : decode cX3_receive 97 = .ok (.iload_n 3, 1) := by decide +kernel
theorem dX3_receive_98 : decode cX3_receive 98 = .ok (.iastore, 1) := by decide +kernel
theorem dX3_receive_99 : decode cX3_receive 99 = .ok (.iload 4, 2) := by decide +kernel
theorem dX3_receive_101 : decode cX3_receive 101 = .ok (.ireturn, 1) := by decide +kernel
theorem dX3_nextEvicted_0 : decode cX3_nextEvicted 0 = .ok (.iconst (-1), 1) := by decide +kernel
theorem dX3_nextEvicted_1 : decode cX3_nextEvicted 1 = .ok (.istore_n 1, 1) := by decide +kernel
theorem dX3_nextEvicted_2 : decode cX3_nextEvicted 2 = .ok (.iconst 0, 1) := by decide +kernel
theorem dX3_nextEvicted_3 : decode cX3_nextEvicted 3 = .ok (.istore_n 2, 1) := by decide +kernel
theorem dX3_nextEvicted_4 : decode cX3_nextEvicted 4 = .ok (.iload_n 2, 1) := by decide +kernel
theorem dX3_nextEvicted_5 : decode cX3_nextEvicted 5 = .ok (.bipush 26, 2) := by decide +kernel
theorem dX3_nextEvicted_7 : decode cX3_nextEvicted 7 = .ok (.if_icmp .ge 33, 3) := by decide +kernel
theorem dX3_nextEvicted_10 : decode cX3_nextEvicted 10 = .ok (.aload_n 0, 1) := by decide +kernel
theorem dX3_nextEvicted_11 : decode cX3_nextEvicted 11 = .ok (.iload_n 2, 1) := by decide +kernel
theorem dX3_nextEvicted_12 : decode cX3_nextEvicted 12 = .ok (.invokevirtual 43, 3) := by decide +kernel
theorem dX3_nextEvicted_15 : decode cX3_nextEvicted 15 = .ok (.ifCond .eq 19, 3) := by decide +kernel
theorem dX3_nextEvicted_18 : decode cX3_nextEvicted 18 = .ok (.iload_n 1, 1) := by decide +kernel
theorem dX3_nextEvicted_19 : decode cX3_nextEvicted 19 = .ok (.iconst (-1), 1) := by decide +kernel
theorem dX3_nextEvicted_20 : decode cX3_nextEvicted 20 = .ok (.if_icmp .eq 12, 3) := by decide +kernel
theorem dX3_nextEvicted_23 : decode cX3_nextEvicted 23 = .ok (.aload_n 0, 1) := by decide +kernel
theorem dX3_nextEvicted_24 : decode cX3_nextEvicted 24 = .ok (.iload_n 2, 1) := by decide +kernel
theorem dX3_nextEvicted_25 : decode cX3_nextEvicted 25 = .ok (.iload_n 1, 1) := by decide +kernel
theorem dX3_nextEvicted_26 : decode cX3_nextEvicted 26 = .ok (.invokevirtual 57, 3) := by decide +kernel
theorem dX3_nextEvicted_29 : decode cX3_nextEvicted 29 = .ok (.ifCond .eq 5, 3) := by decide +kernel
theorem dX3_nextEvicted_32 : decode cX3_nextEvicted 32 = .ok (.iload_n 2, 1) := by decide +kernel
theorem dX3_nextEvicted_33 : decode cX3_nextEvicted 33 = .ok (.istore_n 1, 1) := by decide +kernel
theorem dX3_nextEvicted_34 : decode cX3_nextEvicted 34 = .ok (.iinc 2 1, 3) := by decide +kernel
theorem dX3_nextEvicted_37 : decode cX3_nextEvicted 37 = .ok (.goto (-33), 3) := by decide +kernel
theorem dX3_nextEvicted_40 : decode cX3_nextEvicted 40 = .ok (.iload_n 1, 1) := by decide +kernel
theorem dX3_nextEvicted_41 : decode cX3_nextEvicted 41 = .ok (.ireturn, 1) := by decide +kernel
theorem dX3_goesBefore_0 : decode cX3_goesBefore 0 = .ok (.aload_n 0, 1) := by decide +kernel
theorem dX3_goesBefore_1 : decode cX3_goesBefore 1 = .ok (.getfield 24, 3) := by decide +kernel
theorem dX3_goesBefore_4 : decode cX3_goesBefore 4 = .ok (.iload_n 1, 1) := by decide +kernel
theorem dX3_goesBefore_5 : decode cX3_goesBefore 5 = .ok (.iaload, 1) := by decide +kernel
theorem dX3_goesBefore_6 : decode cX3_goesBefore 6 = .ok (.aload_n 0, 1) := by decide +kernel
theorem dX3_goesBefore_7 : decode cX3_goesBefore 7 = .ok (.getfield 24, 3) := by decide +kernel
theorem dX3_goesBefore_10 : decode cX3_goesBefore 10 = .ok (.iload_n 2, 1) := by decide +kernel
theorem dX3_goesBefore_11 : decode cX3_goesBefore 11 = .ok (.iaload, 1) := by decide +kernel
theorem dX3_goesBefore_12 : decode cX3_goesBefore 12 = .ok (.if_icmp .lt 33, 3) := by decide +kernel
theorem dX3_goesBefore_15 : decode cX3_goesBefore 15 = .ok (.aload_n 0, 1) := by decide +kernel
theorem dX3_goesBefore_16 : decode cX3_goesBefore 16 = .ok (.getfield 24, 3) := by decide +kernel
theorem dX3_goesBefore_19 : decode cX3_goesBefore 19 = .ok (.iload_n 1, 1) := by decide +kernel
theorem dX3_goesBefore_20 : decode cX3_goesBefore 20 = .ok (.iaload, 1) := by decide +kernel
theorem dX3_goesBefore_21 : decode cX3_goesBefore 21 = .ok (.aload_n 0, 1) := by decide +kernel
theorem dX3_goesBefore_22 : decode cX3_goesBefore 22 = .ok (.getfield 24, 3) := by decide +kernel
theorem dX3_goesBefore_25 : decode cX3_goesBefore 25 = .ok (.iload_n 2, 1) := by decide +kernel
theorem dX3_goesBefore_26 : decode cX3_goesBefore 26 = .ok (.iaload, 1) := by decide +kernel
theorem dX3_goesBefore_27 : decode cX3_goesBefore 27 = .ok (.if_icmp .ne 22, 3) := by decide +kernel
theorem dX3_goesBefore_30 : decode cX3_goesBefore 30 = .ok (.aload_n 0, 1) := by decide +kernel
theorem dX3_goesBefore_31 : decode cX3_goesBefore 31 = .ok (.getfield 31, 3) := by decide +kernel
theorem dX3_goesBefore_34 : decode cX3_goesBefore 34 = .ok (.iload_n 1, 1) := by decide +kernel
theorem dX3_goesBefore_35 : decode cX3_goesBefore 35 = .ok (.iaload, 1) := by decide +kernel
theorem dX3_goesBefore_36 : decode cX3_goesBefore 36 = .ok (.aload_n 0, 1) := by decide +kernel
theorem dX3_goesBefore_37 : decode cX3_goesBefore 37 = .ok (.getfield 31, 3) := by decide +kernel
theorem dX3_goesBefore_40 : decode cX3_goesBefore 40 = .ok (.iload_n 2, 1) := by decide +kernel
theorem dX3_goesBefore_41 : decode cX3_goesBefore 41 = .ok (.iaload, 1) := by decide +kernel
theorem dX3_goesBefore_42 : decode cX3_goesBefore 42 = .ok (.if_icmp .ge 7, 3) := by decide +kernel
theorem dX3_goesBefore_45 : decode cX3_goesBefore 45 = .ok (.iconst 1, 1) := by decide +kernel
theorem dX3_goesBefore_46 : decode cX3_goesBefore 46 = .ok (.goto 4, 3) := by decide +kernel
theorem dX3_goesBefore_49 : decode cX3_goesBefore 49 = .ok (.iconst 0, 1) := by decide +kernel
theorem dX3_goesBefore_50 : decode cX3_goesBefore 50 = .ok (.ireturn, 1) := by decide +kernel
theorem dX3_evictNext_0 : decode cX3_evictNext 0 = .ok (.aload_n 0, 1) := by decide +kernel
theorem dX3_evictNext_1 : decode cX3_evictNext 1 = .ok (.invokevirtual 61, 3) := by decide +kernel
theorem dX3_evictNext_4 : decode cX3_evictNext 4 = .ok (.istore_n 1, 1) := by decide +kernel
theorem dX3_evictNext_5 : decode cX3_evictNext 5 = .ok (.iload_n 1, 1) := by decide +kernel
theorem dX3_evictNext_6 : decode cX3_evictNext 6 = .ok (.iconst (-1), 1) := by decide +kernel
theorem dX3_evictNext_7 : decode cX3_evictNext 7 = .ok (.if_icmp .eq 8, 3) := by decide +kernel
theorem dX3_evictNext_10 : decode cX3_evictNext 10 = .ok (.aload_n 0, 1) := by decide +kernel
theorem dX3_evictNext_11 : decode cX3_evictNext 11 = .ok (.iload_n 1, 1) := by decide +kernel
theorem dX3_evictNext_12 : decode cX3_evictNext 12 = .ok (.invokevirtual 64, 3) := by decide +kernel
theorem dX3_evictNext_15 : decode cX3_evictNext 15 = .ok (.iload_n 1, 1) := by decide +kernel
theorem dX3_evictNext_16 : decode cX3_evictNext 16 = .ok (.ireturn, 1) := by decide +kernel
theorem dX3_takeCounter_0 : decode cX3_takeCounter 0 = .ok (.aload_n 0, 1) := by decide +kernel
theorem dX3_takeCounter_1 : decode cX3_takeCounter 1 = .ok (.aload_n 0, 1) := by decide +kernel
theorem dX3_takeCounter_2 : decode cX3_takeCounter 2 = .ok (.getfield 15, 3) := by decide +kernel
theorem dX3_takeCounter_5 : decode cX3_takeCounter 5 = .ok (.aload_n 0, 1) := by decide +kernel
theorem dX3_takeCounter_6 : decode cX3_takeCounter 6 = .ok (.getfield 24, 3) := by decide +kernel
theorem dX3_takeCounter_9 : decode cX3_takeCounter 9 = .ok (.iload_n 1, 1) := by decide +kernel
theorem dX3_takeCounter_10 : decode cX3_takeCounter 10 = .ok (.iaload, 1) := by decide +kernel
theorem dX3_takeCounter_11 : decode cX3_takeCounter 11 = .ok (.invokestatic 68, 3) := by decide +kernel
theorem dX3_takeCounter_14 : decode cX3_takeCounter 14 = .ok (.putfield 15, 3) := by decide +kernel
theorem dX3_takeCounter_17 : decode cX3_takeCounter 17 = .ok (.aload_n 0, 1) := by decide +kernel
theorem dX3_takeCounter_18 : decode cX3_takeCounter 18 = .ok (.dup, 1) := by decide +kernel
theorem dX3_takeCounter_19 : decode cX3_takeCounter 19 = .ok (.getfield 21, 3) := by decide +kernel
theorem dX3_takeCounter_22 : decode cX3_takeCounter 22 = .ok (.iconst 1, 1) := by decide +kernel
theorem dX3_takeCounter_23 : decode cX3_takeCounter 23 = .ok (.iload_n 1, 1) := by decide +kernel
theorem dX3_takeCounter_24 : decode cX3_takeCounter 24 = .ok (.ishl, 1) := by decide +kernel
theorem dX3_takeCounter_25 : decode cX3_takeCounter 25 = .ok (.iconst (-1), 1) := by decide +kernel
theorem dX3_takeCounter_26 : decode cX3_takeCounter 26 = .ok (.ixor, 1) := by decide +kernel
theorem dX3_takeCounter_27 : decode cX3_takeCounter 27 = .ok (.iand, 1) := by decide +kernel
theorem dX3_takeCounter_28 : decode cX3_takeCounter 28 = .ok (.putfield 21, 3) := by decide +kernel
theorem dX3_takeCounter_31 : decode cX3_takeCounter 31 = .ok (.return_, 1) := by decide +kernel
theorem dX3_absorb_0 : decode cX3_absorb 0 = .ok (.aload_n 0, 1) := by decide +kernel
theorem dX3_absorb_1 : decode cX3_absorb 1 = .ok (.getfield 21, 3) := by decide +kernel
theorem dX3_absorb_4 : decode cX3_absorb 4 = .ok (.aload_n 1, 1) := by decide +kernel
theorem dX3_absorb_5 : decode cX3_absorb 5 = .ok (.getfield 21, 3) := by decide +kernel
theorem dX3_absorb_8 : decode cX3_absorb 8 = .ok (.ior, 1) := by decide +kernel
theorem dX3_absorb_9 : decode cX3_absorb 9 = .ok (.istore_n 3, 1) := by decide +kernel
theorem dX3_absorb_10 : decode cX3_absorb 10 = .ok (.iconst 0, 1) := by decide +kernel
theorem dX3_absorb_11 : decode cX3_absorb 11 = .ok (.istore 4, 2) := by decide +kernel
theorem dX3_absorb_13 : decode cX3_absorb 13 = .ok (.iload 4, 2) := by decide +kernel
theorem dX3_absorb_15 : decode cX3_absorb 15 = .ok (.bipush 26, 2) := by decide +kernel
theorem dX3_absorb_17 : decode cX3_absorb 17 = .ok (.if_icmp .ge 91, 3) := by decide +kernel
theorem dX3_absorb_20 : decode cX3_absorb 20 = .ok (.iload_n 3, 1) := by decide +kernel
theorem dX3_absorb_21 : decode cX3_absorb 21 = .ok (.iload 4, 2) := by decide +kernel
theorem dX3_absorb_23 : decode cX3_absorb 23 = .ok (.ishr, 1) := by decide +kernel
theorem dX3_absorb_24 : decode cX3_absorb 24 = .ok (.iconst 1, 1) := by decide +kernel
theorem dX3_absorb_25 : decode cX3_absorb 25 = .ok (.iand, 1) := by decide +kernel
theorem dX3_absorb_26 : decode cX3_absorb 26 = .ok (.ifCond .eq 59, 3) := by decide +kernel
theorem dX3_absorb_29 : decode cX3_absorb 29 = .ok (.aload_n 0, 1) := by decide +kernel
theorem dX3_absorb_30 : decode cX3_absorb 30 = .ok (.iload 4, 2) := by decide +kernel
theorem dX3_absorb_32 : decode cX3_absorb 32 = .ok (.invokevirtual 74, 3) := by decide +kernel
theorem dX3_absorb_35 : decode cX3_absorb 35 = .ok (.aload_n 1, 1) := by decide +kernel
theorem dX3_absorb_36 : decode cX3_absorb 36 = .ok (.iload 4, 2) := by decide +kernel
theorem dX3_absorb_38 : decode cX3_absorb 38 = .ok (.invokevirtual 74, 3) := by decide +kernel
theorem dX3_absorb_41 : decode cX3_absorb 41 = .ok (.iadd, 1) := by decide +kernel
theorem dX3_absorb_42 : decode cX3_absorb 42 = .ok (.istore 5, 2) := by decide +kernel
theorem dX3_absorb_44 : decode cX3_absorb 44 = .ok (.aload_n 0, 1) := by decide +kernel
theorem dX3_absorb_45 : decode cX3_absorb 45 = .ok (.iload 4, 2) := by decide +kernel
theorem dX3_absorb_47 : decode cX3_absorb 47 = .ok (.invokevirtual 77, 3) := by decide +kernel
theorem dX3_absorb_50 : decode cX3_absorb 50 = .ok (.aload_n 1, 1) := by decide +kernel
theorem dX3_absorb_51 : decode cX3_absorb 51 = .ok (.iload 4, 2) := by decide +kernel
theorem dX3_absorb_53 : decode cX3_absorb 53 = .ok (.invokevirtual 77, 3) := by decide +kernel
theorem dX3_absorb_56 : decode cX3_absorb 56 = .ok (.iadd, 1) := by decide +kernel
theorem dX3_absorb_57 : decode cX3_absorb 57 = .ok (.istore 6, 2) := by decide +kernel
theorem dX3_absorb_59 : decode cX3_absorb 59 = .ok (.aload_n 0, 1) := by decide +kernel
theorem dX3_absorb_60 : decode cX3_absorb 60 = .ok (.getfield 24, 3) := by decide +kernel
theorem dX3_absorb_63 : decode cX3_absorb 63 = .ok (.iload 4, 2) := by decide +kernel
theorem dX3_absorb_65 : decode cX3_absorb 65 = .ok (.iload 5, 2) := by decide +kernel
theorem dX3_absorb_67 : decode cX3_absorb 67 = .ok (.iastore, 1) := by decide +kernel
theorem dX3_absorb_68 : decode cX3_absorb 68 = .ok (.aload_n 0, 1) := by decide +kernel
theorem dX3_absorb_69 : decode cX3_absorb 69 = .ok (.getfield 28, 3) := by decide +kernel
theorem dX3_absorb_72 : decode cX3_absorb 72 = .ok (.iload 4, 2) := by decide +kernel
theorem dX3_absorb_74 : decode cX3_absorb 74 = .ok (.iload 6, 2) := by decide +kernel
theorem dX3_absorb_76 : decode cX3_absorb 76 = .ok (.iastore, 1) := by decide +kernel
theorem dX3_absorb_77 : decode cX3_absorb 77 = .ok (.aload_n 0, 1) := by decide +kernel
theorem dX3_absorb_78 : decode cX3_absorb 78 = .ok (.getfield 31, 3) := by decide +kernel
theorem dX3_absorb_81 : decode cX3_absorb 81 = .ok (.iload 4, 2) := by decide +kernel
theorem dX3_absorb_83 : decode cX3_absorb 83 = .ok (.iload_n 2, 1) := by decide +kernel
theorem dX3_absorb_84 : decode cX3_absorb 84 = .ok (.iastore, 1) := by decide +kernel
theorem dX3_absorb_85 : decode cX3_absorb 85 = .ok (.aload_n 0, 1) := by decide +kernel
theorem dX3_absorb_86 : decode cX3_absorb 86 = .ok (.getfield 34, 3) := by decide +kernel
theorem dX3_absorb_89 : decode cX3_absorb 89 = .ok (.iload 4, 2) := by decide +kernel
theorem dX3_absorb_91 : decode cX3_absorb 91 = .ok (.dup2, 1) := by decide +kernel
theorem dX3_absorb_92 : decode cX3_absorb 92 = .ok (.iaload, 1) := by decide +kernel
theorem dX3_absorb_93 : decode cX3_absorb 93 = .ok (.aload_n 1, 1) := by decide +kernel
theorem dX3_absorb_94 : decode cX3_absorb 94 = .ok (.getfield 34, 3) := by decide +kernel
theorem dX3_absorb_97 : decode cX3_absorb 97 = .ok (.iload 4, 2) := by decide +kernel
theorem dX3_absorb_99 : decode cX3_absorb 99 = .ok (.iaload, 1) := by decide +kernel
theorem dX3_absorb_100 : decode cX3_absorb 100 = .ok (.iadd, 1) := by decide +kernel
theorem dX3_absorb_101 : decode cX3_absorb 101 = .ok (.iastore, 1) := by decide +kernel
theorem dX3_absorb_102 : decode cX3_absorb 102 = .ok (.iinc 4 1, 3) := by decide +kernel
theorem dX3_absorb_105 : decode cX3_absorb 105 = .ok (.goto (-92), 3) := by decide +kernel
theorem dX3_absorb_108 : decode cX3_absorb 108 = .ok (.aload_n 0, 1) := by decide +kernel
theorem dX3_absorb_109 : decode cX3_absorb 109 = .ok (.iload_n 3, 1) := by decide +kernel
theorem dX3_absorb_110 : decode cX3_absorb 110 = .ok (.putfield 21, 3) := by decide +kernel
theorem dX3_absorb_113 : decode cX3_absorb 113 = .ok (.aload_n 0, 1) := by decide +kernel
theorem dX3_absorb_114 : decode cX3_absorb 114 = .ok (.dup, 1) := by decide +kernel
theorem dX3_absorb_115 : decode cX3_absorb 115 = .ok (.getfield 15, 3) := by decide +kernel
theorem dX3_absorb_118 : decode cX3_absorb 118 = .ok (.aload_n 1, 1) := by decide +kernel
theorem dX3_absorb_119 : decode cX3_absorb 119 = .ok (.getfield 15, 3) := by decide +kernel
theorem dX3_absorb_122 : decode cX3_absorb 122 = .ok (.iadd, 1) := by decide +kernel
theorem dX3_absorb_123 : decode cX3_absorb 123 = .ok (.putfield 15, 3) := by decide +kernel
theorem dX3_absorb_126 : decode cX3_absorb 126 = .ok (.aload_n 0, 1) := by decide +kernel
theorem dX3_absorb_127 : decode cX3_absorb 127 = .ok (.dup, 1) := by decide +kernel
theorem dX3_absorb_128 : decode cX3_absorb 128 = .ok (.getfield 18, 3) := by decide +kernel
theorem dX3_absorb_131 : decode cX3_absorb 131 = .ok (.aload_n 1, 1) := by decide +kernel
theorem dX3_absorb_132 : decode cX3_absorb 132 = .ok (.getfield 18, 3) := by decide +kernel
theorem dX3_absorb_135 : decode cX3_absorb 135 = .ok (.iadd, 1) := by decide +kernel
theorem dX3_absorb_136 : decode cX3_absorb 136 = .ok (.putfield 18, 3) := by decide +kernel
theorem dX3_absorb_139 : decode cX3_absorb 139 = .ok (.aload_n 0, 1) := by decide +kernel
theorem dX3_absorb_140 : decode cX3_absorb 140 = .ok (.invokevirtual 80, 3) := by decide +kernel
theorem dX3_absorb_143 : decode cX3_absorb 143 = .ok (.ireturn, 1) := by decide +kernel
theorem dX3_leaveOut_0 : decode cX3_leaveOut 0 = .ok (.iconst 0, 1) := by decide +kernel
theorem dX3_leaveOut_1 : decode cX3_leaveOut 1 = .ok (.istore_n 1, 1) := by decide +kernel
theorem dX3_leaveOut_2 : decode cX3_leaveOut 2 = .ok (.iconst 0, 1) := by decide +kernel
theorem dX3_leaveOut_3 : decode cX3_leaveOut 3 = .ok (.istore_n 2, 1) := by decide +kernel
theorem dX3_leaveOut_4 : decode cX3_leaveOut 4 = .ok (.iload_n 2, 1) := by decide +kernel
theorem dX3_leaveOut_5 : decode cX3_leaveOut 5 = .ok (.bipush 26, 2) := by decide +kernel
theorem dX3_leaveOut_7 : decode cX3_leaveOut 7 = .ok (.if_icmp .ge 38, 3) := by decide +kernel
theorem dX3_leaveOut_10 : decode cX3_leaveOut 10 = .ok (.aload_n 0, 1) := by decide +kernel
theorem dX3_leaveOut_11 : decode cX3_leaveOut 11 = .ok (.invokevirtual 47, 3) := by decide +kernel
theorem dX3_leaveOut_14 : decode cX3_leaveOut 14 = .ok (.aload_n 0, 1) := by decide +kernel
theorem dX3_leaveOut_15 : decode cX3_leaveOut 15 = .ok (.getfield 9, 3) := by decide +kernel
theorem dX3_leaveOut_18 : decode cX3_leaveOut 18 = .ok (.if_icmp .le 27, 3) := by decide +kernel
theorem dX3_leaveOut_21 : decode cX3_leaveOut 21 = .ok (.aload_n 0, 1) := by decide +kernel
theorem dX3_leaveOut_22 : decode cX3_leaveOut 22 = .ok (.invokevirtual 83, 3) := by decide +kernel
theorem dX3_leaveOut_25 : decode cX3_leaveOut 25 = .ok (.istore_n 3, 1) := by decide +kernel
theorem dX3_leaveOut_26 : decode cX3_leaveOut 26 = .ok (.iload_n 3, 1) := by decide +kernel
theorem dX3_leaveOut_27 : decode cX3_leaveOut 27 = .ok (.iconst (-1), 1) := by decide +kernel
theorem dX3_leaveOut_28 : decode cX3_leaveOut 28 = .ok (.if_icmp .eq 11, 3) := by decide +kernel
theorem dX3_leaveOut_31 : decode cX3_leaveOut 31 = .ok (.aload_n 0, 1) := by decide +kernel
theorem dX3_leaveOut_32 : decode cX3_leaveOut 32 = .ok (.iload_n 3, 1) := by decide +kernel
theorem dX3_leaveOut_33 : decode cX3_leaveOut 33 = .ok (.invokevirtual 64, 3) := by decide +kernel
theorem dX3_leaveOut_36 : decode cX3_leaveOut 36 = .ok (.iinc 1 1, 3) := by decide +kernel
theorem dX3_leaveOut_39 : decode cX3_leaveOut 39 = .ok (.iinc 2 1, 3) := by decide +kernel
theorem dX3_leaveOut_42 : decode cX3_leaveOut 42 = .ok (.goto (-38), 3) := by decide +kernel
theorem dX3_leaveOut_45 : decode cX3_leaveOut 45 = .ok (.iload_n 1, 1) := by decide +kernel
theorem dX3_leaveOut_46 : decode cX3_leaveOut 46 = .ok (.ireturn, 1) := by decide +kernel
theorem dX3_nextLeftOut_0 : decode cX3_nextLeftOut 0 = .ok (.iconst (-1), 1) := by decide +kernel
theorem dX3_nextLeftOut_1 : decode cX3_nextLeftOut 1 = .ok (.istore_n 1, 1) := by decide +kernel
theorem dX3_nextLeftOut_2 : decode cX3_nextLeftOut 2 = .ok (.iconst 0, 1) := by decide +kernel
theorem dX3_nextLeftOut_3 : decode cX3_nextLeftOut 3 = .ok (.istore_n 2, 1) := by decide +kernel
theorem dX3_nextLeftOut_4 : decode cX3_nextLeftOut 4 = .ok (.iload_n 2, 1) := by decide +kernel
theorem dX3_nextLeftOut_5 : decode cX3_nextLeftOut 5 = .ok (.bipush 26, 2) := by decide +kernel
theorem dX3_nextLeftOut_7 : decode cX3_nextLeftOut 7 = .ok (.if_icmp .ge 39, 3) := by decide +kernel
theorem dX3_nextLeftOut_10 : decode cX3_nextLeftOut 10 = .ok (.aload_n 0, 1) := by decide +kernel
theorem dX3_nextLeftOut_11 : decode cX3_nextLeftOut 11 = .ok (.iload_n 2, 1) := by decide +kernel
theorem dX3_nextLeftOut_12 : decode cX3_nextLeftOut 12 = .ok (.invokevirtual 43, 3) := by decide +kernel
theorem dX3_nextLeftOut_15 : decode cX3_nextLeftOut 15 = .ok (.ifCond .eq 25, 3) := by decide +kernel
theorem dX3_nextLeftOut_18 : decode cX3_nextLeftOut 18 = .ok (.iload_n 1, 1) := by decide +kernel
theorem dX3_nextLeftOut_19 : decode cX3_nextLeftOut 19 = .ok (.iconst (-1), 1) := by decide +kernel
theorem dX3_nextLeftOut_20 : decode cX3_nextLeftOut 20 = .ok (.if_icmp .eq 18, 3) := by decide +kernel
theorem dX3_nextLeftOut_23 : decode cX3_nextLeftOut 23 = .ok (.aload_n 0, 1) := by decide +kernel
theorem dX3_nextLeftOut_24 : decode cX3_nextLeftOut 24 = .ok (.getfield 24, 3) := by decide +kernel
theorem dX3_nextLeftOut_27 : decode cX3_nextLeftOut 27 = .ok (.iload_n 2, 1) := by decide +kernel
theorem dX3_nextLeftOut_28 : decode cX3_nextLeftOut 28 = .ok (.iaload, 1) := by decide +kernel
theorem dX3_nextLeftOut_29 : decode cX3_nextLeftOut 29 = .ok (.aload_n 0, 1) := by decide +kernel
theorem dX3_nextLeftOut_30 : decode cX3_nextLeftOut 30 = .ok (.getfield 24, 3) := by decide +kernel
theorem dX3_nextLeftOut_33 : decode cX3_nextLeftOut 33 = .ok (.iload_n 1, 1) := by decide +kernel
theorem dX3_nextLeftOut_34 : decode cX3_nextLeftOut 34 = .ok (.iaload, 1) := by decide +kernel
theorem dX3_nextLeftOut_35 : decode cX3_nextLeftOut 35 = .ok (.if_icmp .gt 5, 3) := by decide +kernel
theorem dX3_nextLeftOut_38 : decode cX3_nextLeftOut 38 = .ok (.iload_n 2, 1) := by decide +kernel
theorem dX3_nextLeftOut_39 : decode cX3_nextLeftOut 39 = .ok (.istore_n 1, 1) := by decide +kernel
theorem dX3_nextLeftOut_40 : decode cX3_nextLeftOut 40 = .ok (.iinc 2 1, 3) := by decide +kernel
theorem dX3_nextLeftOut_43 : decode cX3_nextLeftOut 43 = .ok (.goto (-39), 3) := by decide +kernel
theorem dX3_nextLeftOut_46 : decode cX3_nextLeftOut 46 = .ok (.iload_n 1, 1) := by decide +kernel
theorem dX3_nextLeftOut_47 : decode cX3_nextLeftOut 47 = .ok (.ireturn, 1) := by decide +kernel
theorem dX3_become_0 : decode cX3_become 0 = .ok (.aload_n 0, 1) := by decide +kernel
theorem dX3_become_1 : decode cX3_become 1 = .ok (.aload_n 1, 1) := by decide +kernel
theorem dX3_become_2 : decode cX3_become 2 = .ok (.getfield 9, 3) := by decide +kernel
theorem dX3_become_5 : decode cX3_become 5 = .ok (.putfield 9, 3) := by decide +kernel
theorem dX3_become_8 : decode cX3_become 8 = .ok (.aload_n 0, 1) := by decide +kernel
theorem dX3_become_9 : decode cX3_become 9 = .ok (.aload_n 1, 1) := by decide +kernel
theorem dX3_become_10 : decode cX3_become 10 = .ok (.getfield 15, 3) := by decide +kernel
theorem dX3_become_13 : decode cX3_become 13 = .ok (.putfield 15, 3) := by decide +kernel
theorem dX3_become_16 : decode cX3_become 16 = .ok (.aload_n 0, 1) := by decide +kernel
theorem dX3_become_17 : decode cX3_become 17 = .ok (.aload_n 1, 1) := by decide +kernel
theorem dX3_become_18 : decode cX3_become 18 = .ok (.getfield 18, 3) := by decide +kernel
theorem dX3_become_21 : decode cX3_become 21 = .ok (.putfield 18, 3) := by decide +kernel
theorem dX3_become_24 : decode cX3_become 24 = .ok (.aload_n 0, 1) := by decide +kernel
theorem dX3_become_25 : decode cX3_become 25 = .ok (.aload_n 1, 1) := by decide +kernel
theorem dX3_become_26 : decode cX3_become 26 = .ok (.getfield 21, 3) := by decide +kernel
theorem dX3_become_29 : decode cX3_become 29 = .ok (.putfield 21, 3) := by decide +kernel
theorem dX3_become_32 : decode cX3_become 32 = .ok (.aload_n 1, 1) := by decide +kernel
theorem dX3_become_33 : decode cX3_become 33 = .ok (.getfield 24, 3) := by decide +kernel
theorem dX3_become_36 : decode cX3_become 36 = .ok (.iconst 0, 1) := by decide +kernel
theorem dX3_become_37 : decode cX3_become 37 = .ok (.aload_n 0, 1) := by decide +kernel
theorem dX3_become_38 : decode cX3_become 38 = .ok (.getfield 24, 3) := by decide +kernel
theorem dX3_become_41 : decode cX3_become 41 = .ok (.iconst 0, 1) := by decide +kernel
theorem dX3_become_42 : decode cX3_become 42 = .ok (.bipush 26, 2) := by decide +kernel
theorem dX3_become_44 : decode cX3_become 44 = .ok (.invokestatic 86, 3) := by decide +kernel
theorem dX3_become_47 : decode cX3_become 47 = .ok (.aload_n 1, 1) := by decide +kernel
theorem dX3_become_48 : decode cX3_become 48 = .ok (.getfield 28, 3) := by decide +kernel
theorem dX3_become_51 : decode cX3_become 51 = .ok (.iconst 0, 1) := by decide +kernel
theorem dX3_become_52 : decode cX3_become 52 = .ok (.aload_n 0, 1) := by decide +kernel
theorem dX3_become_53 : decode cX3_become 53 = .ok (.getfield 28, 3) := by decide +kernel
theorem dX3_become_56 : decode cX3_become 56 = .ok (.iconst 0, 1) := by decide +kernel
theorem dX3_become_57 : decode cX3_become 57 = .ok (.bipush 26, 2) := by decide +kernel
theorem dX3_become_59 : decode cX3_become 59 = .ok (.invokestatic 86, 3) := by decide +kernel
theorem dX3_become_62 : decode cX3_become 62 = .ok (.aload_n 1, 1) := by decide +kernel
theorem dX3_become_63 : decode cX3_become 63 = .ok (.getfield 31, 3) := by decide +kernel
theorem dX3_become_66 : decode cX3_become 66 = .ok (.iconst 0, 1) := by decide +kernel
theorem dX3_become_67 : decode cX3_become 67 = .ok (.aload_n 0, 1) := by decide +kernel
theorem dX3_become_68 : decode cX3_become 68 = .ok (.getfield 31, 3) := by decide +kernel
theorem dX3_become_71 : decode cX3_become 71 = .ok (.iconst 0, 1) := by decide +kernel
theorem dX3_become_72 : decode cX3_become 72 = .ok (.bipush 26, 2) := by decide +kernel
theorem dX3_become_74 : decode cX3_become 74 = .ok (.invokestatic 86, 3) := by decide +kernel
theorem dX3_become_77 : decode cX3_become 77 = .ok (.aload_n 1, 1) := by decide +kernel
theorem dX3_become_78 : decode cX3_become 78 = .ok (.getfield 34, 3) := by decide +kernel
theorem dX3_become_81 : decode cX3_become 81 = .ok (.iconst 0, 1) := by decide +kernel
theorem dX3_become_82 : decode cX3_become 82 = .ok (.aload_n 0, 1) := by decide +kernel
theorem dX3_become_83 : decode cX3_become 83 = .ok (.getfield 34, 3) := by decide +kernel
theorem dX3_become_86 : decode cX3_become 86 = .ok (.iconst 0, 1) := by decide +kernel
theorem dX3_become_87 : decode cX3_become 87 = .ok (.bipush 26, 2) := by decide +kernel
theorem dX3_become_89 : decode cX3_become 89 = .ok (.invokestatic 86, 3) := by decide +kernel
theorem dX3_become_92 : decode cX3_become 92 = .ok (.return_, 1) := by decide +kernel
theorem dX3_wipe_0 : decode cX3_wipe 0 = .ok (.aload_n 0, 1) := by decide +kernel
theorem dX3_wipe_1 : decode cX3_wipe 1 = .ok (.iconst 0, 1) := by decide +kernel
theorem dX3_wipe_2 : decode cX3_wipe 2 = .ok (.putfield 15, 3) := by decide +kernel
theorem dX3_wipe_5 : decode cX3_wipe 5 = .ok (.aload_n 0, 1) := by decide +kernel
theorem dX3_wipe_6 : decode cX3_wipe 6 = .ok (.iconst 0, 1) := by decide +kernel
theorem dX3_wipe_7 : decode cX3_wipe 7 = .ok (.putfield 18, 3) := by decide +kernel
theorem dX3_wipe_10 : decode cX3_wipe 10 = .ok (.aload_n 0, 1) := by decide +kernel
theorem dX3_wipe_11 : decode cX3_wipe 11 = .ok (.iconst 0, 1) := by decide +kernel
theorem dX3_wipe_12 : decode cX3_wipe 12 = .ok (.putfield 21, 3) := by decide +kernel
theorem dX3_wipe_15 : decode cX3_wipe 15 = .ok (.iconst 0, 1) := by decide +kernel
theorem dX3_wipe_16 : decode cX3_wipe 16 = .ok (.istore_n 1, 1) := by decide +kernel
theorem dX3_wipe_17 : decode cX3_wipe 17 = .ok (.iload_n 1, 1) := by decide +kernel
theorem dX3_wipe_18 : decode cX3_wipe 18 = .ok (.bipush 26, 2) := by decide +kernel
theorem dX3_wipe_20 : decode cX3_wipe 20 = .ok (.if_icmp .ge 16, 3) := by decide +kernel
theorem dX3_wipe_23 : decode cX3_wipe 23 = .ok (.aload_n 0, 1) := by decide +kernel
theorem dX3_wipe_24 : decode cX3_wipe 24 = .ok (.getfield 34, 3) := by decide +kernel
theorem dX3_wipe_27 : decode cX3_wipe 27 = .ok (.iload_n 1, 1) := by decide +kernel
theorem dX3_wipe_28 : decode cX3_wipe 28 = .ok (.iconst 0, 1) := by decide +kernel
theorem dX3_wipe_29 : decode cX3_wipe 29 = .ok (.iastore, 1) := by decide +kernel
theorem dX3_wipe_30 : decode cX3_wipe 30 = .ok (.iinc 1 1, 3) := by decide +kernel
theorem dX3_wipe_33 : decode cX3_wipe 33 = .ok (.goto (-16), 3) := by decide +kernel
theorem dX3_wipe_36 : decode cX3_wipe 36 = .ok (.return_, 1) := by decide +kernel
theorem dX3_greatestSlack_0 : decode cX3_greatestSlack 0 = .ok (.iconst 0, 1) := by decide +kernel
theorem dX3_greatestSlack_1 : decode cX3_greatestSlack 1 = .ok (.istore_n 1, 1) := by decide +kernel
theorem dX3_greatestSlack_2 : decode cX3_greatestSlack 2 = .ok (.iconst 0, 1) := by decide +kernel
theorem dX3_greatestSlack_3 : decode cX3_greatestSlack 3 = .ok (.istore_n 2, 1) := by decide +kernel
theorem dX3_greatestSlack_4 : decode cX3_greatestSlack 4 = .ok (.iload_n 2, 1) := by decide +kernel
theorem dX3_greatestSlack_5 : decode cX3_greatestSlack 5 = .ok (.bipush 26, 2) := by decide +kernel
theorem dX3_greatestSlack_7 : decode cX3_greatestSlack 7 = .ok (.if_icmp .ge 28, 3) := by decide +kernel
theorem dX3_greatestSlack_10 : decode cX3_greatestSlack 10 = .ok (.aload_n 0, 1) := by decide +kernel
theorem dX3_greatestSlack_11 : decode cX3_greatestSlack 11 = .ok (.iload_n 2, 1) := by decide +kernel
theorem dX3_greatestSlack_12 : decode cX3_greatestSlack 12 = .ok (.invokevirtual 43, 3) := by decide +kernel
theorem dX3_greatestSlack_15 : decode cX3_greatestSlack 15 = .ok (.ifCond .eq 14, 3) := by decide +kernel
theorem dX3_greatestSlack_18 : decode cX3_greatestSlack 18 = .ok (.iload_n 1, 1) := by decide +kernel
theorem dX3_greatestSlack_19 : decode cX3_greatestSlack 19 = .ok (.aload_n 0, 1) := by decide +kernel
theorem dX3_greatestSlack_20 : decode cX3_greatestSlack 20 = .ok (.getfield 28, 3) := by decide +kernel
theorem dX3_greatestSlack_23 : decode cX3_greatestSlack 23 = .ok (.iload_n 2, 1) := by decide +kernel
theorem dX3_greatestSlack_24 : decode cX3_greatestSlack 24 = .ok (.iaload, 1) := by decide +kernel
theorem dX3_greatestSlack_25 : decode cX3_greatestSlack 25 = .ok (.invokestatic 68, 3) := by decide +kernel
theorem dX3_greatestSlack_28 : decode cX3_greatestSlack 28 = .ok (.istore_n 1, 1) := by decide +kernel
theorem dX3_greatestSlack_29 : decode cX3_greatestSlack 29 = .ok (.iinc 2 1, 3) := by decide +kernel
theorem dX3_greatestSlack_32 : decode cX3_greatestSlack 32 = .ok (.goto (-28), 3) := by decide +kernel
theorem dX3_greatestSlack_35 : decode cX3_greatestSlack 35 = .ok (.iload_n 1, 1) := by decide +kernel
theorem dX3_greatestSlack_36 : decode cX3_greatestSlack 36 = .ok (.ireturn, 1) := by decide +kernel
theorem dX3_lettersThatCame_0 : decode cX3_lettersThatCame 0 = .ok (.iconst 0, 1) := by decide +kernel
theorem dX3_lettersThatCame_1 : decode cX3_lettersThatCame 1 = .ok (.istore_n 1, 1) := by decide +kernel
theorem dX3_lettersThatCame_2 : decode cX3_lettersThatCame 2 = .ok (.iconst 0, 1) := by decide +kernel
theorem dX3_lettersThatCame_3 : decode cX3_lettersThatCame 3 = .ok (.istore_n 2, 1) := by decide +kernel
theorem dX3_lettersThatCame_4 : decode cX3_lettersThatCame 4 = .ok (.iload_n 2, 1) := by decide +kernel
theorem dX3_lettersThatCame_5 : decode cX3_lettersThatCame 5 = .ok (.bipush 26, 2) := by decide +kernel
theorem dX3_lettersThatCame_7 : decode cX3_lettersThatCame 7 = .ok (.if_icmp .ge 24, 3) := by decide +kernel
theorem dX3_lettersThatCame_10 : decode cX3_lettersThatCame 10 = .ok (.aload_n 0, 1) := by decide +kernel
theorem dX3_lettersThatCame_11 : decode cX3_lettersThatCame 11 = .ok (.getfield 34, 3) := by decide +kernel
theorem dX3_lettersThatCame_14 : decode cX3_lettersThatCame 14 = .ok (.iload_n 2, 1) := by decide +kernel
theorem dX3_lettersThatCame_15 : decode cX3_lettersThatCame 15 = .ok (.iaload, 1) := by decide +kernel
theorem dX3_lettersThatCame_16 : decode cX3_lettersThatCame 16 = .ok (.ifCond .le 9, 3) := by decide +kernel
theorem dX3_lettersThatCame_19 : decode cX3_lettersThatCame 19 = .ok (.iload_n 1, 1) := by decide +kernel
theorem dX3_lettersThatCame_20 : decode cX3_lettersThatCame 20 = .ok (.iconst 1, 1) := by decide +kernel
theorem dX3_lettersThatCame_21 : decode cX3_lettersThatCame 21 = .ok (.iload_n 2, 1) := by decide +kernel
theorem dX3_lettersThatCame_22 : decode cX3_lettersThatCame 22 = .ok (.ishl, 1) := by decide +kernel
theorem dX3_lettersThatCame_23 : decode cX3_lettersThatCame 23 = .ok (.ior, 1) := by decide +kernel
theorem dX3_lettersThatCame_24 : decode cX3_lettersThatCame 24 = .ok (.istore_n 1, 1) := by decide +kernel
theorem dX3_lettersThatCame_25 : decode cX3_lettersThatCame 25 = .ok (.iinc 2 1, 3) := by decide +kernel
theorem dX3_lettersThatCame_28 : decode cX3_lettersThatCame 28 = .ok (.goto (-24), 3) := by decide +kernel
theorem dX3_lettersThatCame_31 : decode cX3_lettersThatCame 31 = .ok (.iload_n 1, 1) := by decide +kernel
theorem dX3_lettersThatCame_32 : decode cX3_lettersThatCame 32 = .ok (.ireturn, 1) := by decide +kernel
theorem dX3_letterAt_0 : decode cX3_letterAt 0 = .ok (.iconst 0, 1) := by decide +kernel
theorem dX3_letterAt_1 : decode cX3_letterAt 1 = .ok (.istore_n 2, 1) := by decide +kernel
theorem dX3_letterAt_2 : decode cX3_letterAt 2 = .ok (.iload_n 2, 1) := by decide +kernel
theorem dX3_letterAt_3 : decode cX3_letterAt 3 = .ok (.bipush 26, 2) := by decide +kernel
theorem dX3_letterAt_5 : decode cX3_letterAt 5 = .ok (.if_icmp .ge 28, 3) := by decide +kernel
theorem dX3_letterAt_8 : decode cX3_letterAt 8 = .ok (.aload_n 0, 1) := by decide +kernel
theorem dX3_letterAt_9 : decode cX3_letterAt 9 = .ok (.iload_n 2, 1) := by decide +kernel
theorem dX3_letterAt_10 : decode cX3_letterAt 10 = .ok (.invokevirtual 43, 3) := by decide +kernel
theorem dX3_letterAt_13 : decode cX3_letterAt 13 = .ok (.ifCond .eq 14, 3) := by decide +kernel
theorem dX3_letterAt_16 : decode cX3_letterAt 16 = .ok (.aload_n 0, 1) := by decide +kernel
theorem dX3_letterAt_17 : decode cX3_letterAt 17 = .ok (.iload_n 2, 1) := by decide +kernel
theorem dX3_letterAt_18 : decode cX3_letterAt 18 = .ok (.invokevirtual 92, 3) := by decide +kernel
theorem dX3_letterAt_21 : decode cX3_letterAt 21 = .ok (.iload_n 1, 1) := by decide +kernel
theorem dX3_letterAt_22 : decode cX3_letterAt 22 = .ok (.if_icmp .ne 5, 3) := by decide +kernel
theorem dX3_letterAt_25 : decode cX3_letterAt 25 = .ok (.iload_n 2, 1) := by decide +kernel
theorem dX3_letterAt_26 : decode cX3_letterAt 26 = .ok (.ireturn, 1) := by decide +kernel
theorem dX3_letterAt_27 : decode cX3_letterAt 27 = .ok (.iinc 2 1, 3) := by decide +kernel
theorem dX3_letterAt_30 : decode cX3_letterAt 30 = .ok (.goto (-28), 3) := by decide +kernel
theorem dX3_letterAt_33 : decode cX3_letterAt 33 = .ok (.iconst (-1), 1) := by decide +kernel
theorem dX3_letterAt_34 : decode cX3_letterAt 34 = .ok (.ireturn, 1) := by decide +kernel
theorem dX3_placeOf_0 : decode cX3_placeOf 0 = .ok (.iconst 0, 1) := by decide +kernel
theorem dX3_placeOf_1 : decode cX3_placeOf 1 = .ok (.istore_n 2, 1) := by decide +kernel
theorem dX3_placeOf_2 : decode cX3_placeOf 2 = .ok (.iconst 0, 1) := by decide +kernel
theorem dX3_placeOf_3 : decode cX3_placeOf 3 = .ok (.istore_n 3, 1) := by decide +kernel
theorem dX3_placeOf_4 : decode cX3_placeOf 4 = .ok (.iload_n 3, 1) := by decide +kernel
theorem dX3_placeOf_5 : decode cX3_placeOf 5 = .ok (.bipush 26, 2) := by decide +kernel
theorem dX3_placeOf_7 : decode cX3_placeOf 7 = .ok (.if_icmp .ge 55, 3) := by decide +kernel
theorem dX3_placeOf_10 : decode cX3_placeOf 10 = .ok (.aload_n 0, 1) := by decide +kernel
theorem dX3_placeOf_11 : decode cX3_placeOf 11 = .ok (.iload_n 3, 1) := by decide +kernel
theorem dX3_placeOf_12 : decode cX3_placeOf 12 = .ok (.invokevirtual 43, 3) := by decide +kernel
theorem dX3_placeOf_15 : decode cX3_placeOf 15 = .ok (.ifCond .eq 41, 3) := by decide +kernel
theorem dX3_placeOf_18 : decode cX3_placeOf 18 = .ok (.aload_n 0, 1) := by decide +kernel
theorem dX3_placeOf_19 : decode cX3_placeOf 19 = .ok (.getfield 24, 3) := by decide +kernel
theorem dX3_placeOf_22 : decode cX3_placeOf 22 = .ok (.iload_n 3, 1) := by decide +kernel
theorem dX3_placeOf_23 : decode cX3_placeOf 23 = .ok (.iaload, 1) := by decide +kernel
theorem dX3_placeOf_24 : decode cX3_placeOf 24 = .ok (.aload_n 0, 1) := by decide +kernel
theorem dX3_placeOf_25 : decode cX3_placeOf 25 = .ok (.getfield 24, 3) := by decide +kernel
theorem dX3_placeOf_28 : decode cX3_placeOf 28 = .ok (.iload_n 1, 1) := by decide +kernel
theorem dX3_placeOf_29 : decode cX3_placeOf 29 = .ok (.iaload, 1) := by decide +kernel
theorem dX3_placeOf_30 : decode cX3_placeOf 30 = .ok (.if_icmp .gt 23, 3) := by decide +kernel
theorem dX3_placeOf_33 : decode cX3_placeOf 33 = .ok (.aload_n 0, 1) := by decide +kernel
theorem dX3_placeOf_34 : decode cX3_placeOf 34 = .ok (.getfield 24, 3) := by decide +kernel
theorem dX3_placeOf_37 : decode cX3_placeOf 37 = .ok (.iload_n 3, 1) := by decide +kernel
theorem dX3_placeOf_38 : decode cX3_placeOf 38 = .ok (.iaload, 1) := by decide +kernel
theorem dX3_placeOf_39 : decode cX3_placeOf 39 = .ok (.aload_n 0, 1) := by decide +kernel
theorem dX3_placeOf_40 : decode cX3_placeOf 40 = .ok (.getfield 24, 3) := by decide +kernel
theorem dX3_placeOf_43 : decode cX3_placeOf 43 = .ok (.iload_n 1, 1) := by decide +kernel
theorem dX3_placeOf_44 : decode cX3_placeOf 44 = .ok (.iaload, 1) := by decide +kernel
theorem dX3_placeOf_45 : decode cX3_placeOf 45 = .ok (.if_icmp .ne 11, 3) := by decide +kernel
theorem dX3_placeOf_48 : decode cX3_placeOf 48 = .ok (.iload_n 3, 1) := by decide +kernel
theorem dX3_placeOf_49 : decode cX3_placeOf 49 = .ok (.iload_n 1, 1) := by decide +kernel
theorem dX3_placeOf_50 : decode cX3_placeOf 50 = .ok (.if_icmp .ge 6, 3) := by decide +kernel
theorem dX3_placeOf_53 : decode cX3_placeOf 53 = .ok (.iinc 2 1, 3) := by decide +kernel
theorem dX3_placeOf_56 : decode cX3_placeOf 56 = .ok (.iinc 3 1, 3) := by decide +kernel
theorem dX3_placeOf_59 : decode cX3_placeOf 59 = .ok (.goto (-55), 3) := by decide +kernel
theorem dX3_placeOf_62 : decode cX3_placeOf 62 = .ok (.iload_n 2, 1) := by decide +kernel
theorem dX3_placeOf_63 : decode cX3_placeOf 63 = .ok (.ireturn, 1) := by decide +kernel
theorem dX3_lettersAhead_0 : decode cX3_lettersAhead 0 = .ok (.iload_n 2, 1) := by decide +kernel
theorem dX3_lettersAhead_1 : decode cX3_lettersAhead 1 = .ok (.ifCond .eq 11, 3) := by decide +kernel
theorem dX3_lettersAhead_4 : decode cX3_lettersAhead 4 = .ok (.aload_n 0, 1) := by decide +kernel
theorem dX3_lettersAhead_5 : decode cX3_lettersAhead 5 = .ok (.iload_n 1, 1) := by decide +kernel
theorem dX3_lettersAhead_6 : decode cX3_lettersAhead 6 = .ok (.invokevirtual 95, 3) := by decide +kernel
theorem dX3_lettersAhead_9 : decode cX3_lettersAhead 9 = .ok (.goto 8, 3) := by decide +kernel
theorem dX3_lettersAhead_12 : decode cX3_lettersAhead 12 = .ok (.aload_n 0, 1) := by decide +kernel
theorem dX3_lettersAhead_13 : decode cX3_lettersAhead 13 = .ok (.iload_n 1, 1) := by decide +kernel
theorem dX3_lettersAhead_14 : decode cX3_lettersAhead 14 = .ok (.invokevirtual 74, 3) := by decide +kernel
theorem dX3_lettersAhead_17 : decode cX3_lettersAhead 17 = .ok (.istore_n 3, 1) := by decide +kernel
theorem dX3_lettersAhead_18 : decode cX3_lettersAhead 18 = .ok (.iconst 0, 1) := by decide +kernel
theorem dX3_lettersAhead_19 : decode cX3_lettersAhead 19 = .ok (.istore 4, 2) := by decide +kernel
theorem dX3_lettersAhead_21 : decode cX3_lettersAhead 21 = .ok (.iconst 0, 1) := by decide +kernel
theorem dX3_lettersAhead_22 : decode cX3_lettersAhead 22 = .ok (.istore 5, 2) := by decide +kernel
theorem dX3_lettersAhead_24 : decode cX3_lettersAhead 24 = .ok (.iload 5, 2) := by decide +kernel
theorem dX3_lettersAhead_26 : decode cX3_lettersAhead 26 = .ok (.bipush 26, 2) := by decide +kernel
theorem dX3_lettersAhead_28 : decode cX3_lettersAhead 28 = .ok (.if_icmp .ge 45, 3) := by decide +kernel
theorem dX3_lettersAhead_31 : decode cX3_lettersAhead 31 = .ok (.iload_n 2, 1) := by decide +kernel
theorem dX3_lettersAhead_32 : decode cX3_lettersAhead 32 = .ok (.ifCond .eq 12, 3) := by decide +kernel
theorem dX3_lettersAhead_35 : decode cX3_lettersAhead 35 = .ok (.aload_n 0, 1) := by decide +kernel
theorem dX3_lettersAhead_36 : decode cX3_lettersAhead 36 = .ok (.iload 5, 2) := by decide +kernel
theorem dX3_lettersAhead_38 : decode cX3_lettersAhead 38 = .ok (.invokevirtual 74, 3) := by decide +kernel
theorem dX3_lettersAhead_41 : decode cX3_lettersAhead 41 = .ok (.goto 9, 3) := by decide +kernel
theorem dX3_lettersAhead_44 : decode cX3_lettersAhead 44 = .ok (.aload_n 0, 1) := by decide +kernel
theorem dX3_lettersAhead_45 : decode cX3_lettersAhead 45 = .ok (.iload 5, 2) := by decide +kernel
theorem dX3_lettersAhead_47 : decode cX3_lettersAhead 47 = .ok (.invokevirtual 95, 3) := by decide +kernel
theorem dX3_lettersAhead_50 : decode cX3_lettersAhead 50 = .ok (.istore 6, 2) := by decide +kernel
theorem dX3_lettersAhead_52 : decode cX3_lettersAhead 52 = .ok (.iload 5, 2) := by decide +kernel
theorem dX3_lettersAhead_54 : decode cX3_lettersAhead 54 = .ok (.iload_n 1, 1) := by decide +kernel
theorem dX3_lettersAhead_55 : decode cX3_lettersAhead 55 = .ok (.if_icmp .eq 12, 3) := by decide +kernel
theorem dX3_lettersAhead_58 : decode cX3_lettersAhead 58 = .ok (.iload 6, 2) := by decide +kernel
theorem dX3_lettersAhead_60 : decode cX3_lettersAhead 60 = .ok (.iload_n 3, 1) := by decide +kernel
theorem dX3_lettersAhead_61 : decode cX3_lettersAhead 61 = .ok (.if_icmp .le 6, 3) := by decide +kernel
theorem dX3_lettersAhead_64 : decode cX3_lettersAhead 64 = .ok (.iinc 4 1, 3) := by decide +kernel
theorem dX3_lettersAhead_67 : decode cX3_lettersAhead 67 = .ok (.iinc 5 1, 3) := by decide +kernel
theorem dX3_lettersAhead_70 : decode cX3_lettersAhead 70 = .ok (.goto (-46), 3) := by decide +kernel
theorem dX3_lettersAhead_73 : decode cX3_lettersAhead 73 = .ok (.iload 4, 2) := by decide +kernel
theorem dX3_lettersAhead_75 : decode cX3_lettersAhead 75 = .ok (.ireturn, 1) := by decide +kernel
theorem dX4_init_0 : decode cX4_init 0 = .ok (.aload_n 0, 1) := by decide +kernel
theorem dX4_init_1 : decode cX4_init 1 = .ok (.invokespecial 3, 3) := by decide +kernel
theorem dX4_init_4 : decode cX4_init 4 = .ok (.aload_n 0, 1) := by decide +kernel
theorem dX4_init_5 : decode cX4_init 5 = .ok (.bipush 60, 2) := by decide +kernel
theorem dX4_init_7 : decode cX4_init 7 = .ok (.newarray .char, 2) := by decide +kernel
theorem dX4_init_9 : decode cX4_init 9 = .ok (.putfield 9, 3) := by decide +kernel
theorem dX4_init_12 : decode cX4_init 12 = .ok (.aload_n 0, 1) := by decide +kernel
theorem dX4_init_13 : decode cX4_init 13 = .ok (.iconst 0, 1) := by decide +kernel
theorem dX4_init_14 : decode cX4_init 14 = .ok (.putfield 15, 3) := by decide +kernel
theorem dX4_init_17 : decode cX4_init 17 = .ok (.aload_n 0, 1) := by decide +kernel
theorem dX4_init_18 : decode cX4_init 18 = .ok (.bipush 60, 2) := by decide +kernel
theorem dX4_init_20 : decode cX4_init 20 = .ok (.newarray .int, 2) := by decide +kernel
theorem dX4_init_22 : decode cX4_init 22 = .ok (.putfield 19, 3) := by decide +kernel
theorem dX4_init_25 : decode cX4_init 25 = .ok (.aload_n 0, 1) := by decide +kernel
theorem dX4_init_26 : decode cX4_init 26 = .ok (.bipush 60, 2) := by decide +kernel
theorem dX4_init_28 : decode cX4_init 28 = .ok (.newarray .int, 2) := by decide +kernel
theorem dX4_init_30 : decode cX4_init 30 = .ok (.putfield 23, 3) := by decide +kernel
theorem dX4_init_33 : decode cX4_init 33 = .ok (.aload_n 0, 1) := by decide +kernel
theorem dX4_init_34 : decode cX4_init 34 = .ok (.iconst 0, 1) := by decide +kernel
theorem dX4_init_35 : decode cX4_init 35 = .ok (.putfield 26, 3) := by decide +kernel
theorem dX4_init_38 : decode cX4_init 38 = .ok (.aload_n 0, 1) := by decide +kernel
theorem dX4_init_39 : decode cX4_init 39 = .ok (.iconst 0, 1) := by decide +kernel
theorem dX4_init_40 : decode cX4_init 40 = .ok (.putfield 29, 3) := by decide +kernel
theorem dX4_init_43 : decode cX4_init 43 = .ok (.aload_n 0, 1) := by decide +kernel
theorem dX4_init_44 : decode cX4_init 44 = .ok (.iconst (-1), 1) := by decide +kernel
theorem dX4_init_45 : decode cX4_init 45 = .ok (.putfield 32, 3) := by decide +kernel
theorem dX4_init_48 : decode cX4_init 48 = .ok (.aload_n 0, 1) := by decide +kernel
theorem dX4_init_49 : decode cX4_init 49 = .ok (.iconst (-1), 1) := by decide +kernel
theorem dX4_init_50 : decode cX4_init 50 = .ok (.putfield 35, 3) := by decide +kernel
theorem dX4_init_53 : decode cX4_init 53 = .ok (.aload_n 0, 1) := by decide +kernel
theorem dX4_init_54 : decode cX4_init 54 = .ok (.iconst 0, 1) := by decide +kernel
theorem dX4_init_55 : decode cX4_init 55 = .ok (.putfield 38, 3) := by decide +kernel
theorem dX4_init_58 : decode cX4_init 58 = .ok (.return_, 1) := by decide +kernel
theorem dX4_put_0 : decode cX4_put 0 = .ok (.aload_n 0, 1) := by decide +kernel
theorem dX4_put_1 : decode cX4_put 1 = .ok (.getfield 15, 3) := by decide +kernel
theorem dX4_put_4 : decode cX4_put 4 = .ok (.bipush 60, 2) := by decide +kernel
theorem dX4_put_6 : decode cX4_put 6 = .ok (.if_icmp .ge 23, 3) := by decide +kernel
theorem dX4_put_9 : decode cX4_put 9 = .ok (.aload_n 0, 1) := by decide +kernel
theorem dX4_put_10 : decode cX4_put 10 = .ok (.getfield 9, 3) := by decide +kernel
theorem dX4_put_13 : decode cX4_put 13 = .ok (.aload_n 0, 1) := by decide +kernel
theorem dX4_put_14 : decode cX4_put 14 = .ok (.getfield 15, 3) := by decide +kernel
theorem dX4_put_17 : decode cX4_put 17 = .ok (.iload_n 1, 1) := by decide +kernel
theorem dX4_put_18 : decode cX4_put 18 = .ok (.castore, 1) := by decide +kernel
theorem dX4_put_19 : decode cX4_put 19 = .ok (.aload_n 0, 1) := by decide +kernel
theorem dX4_put_20 : decode cX4_put 20 = .ok (.dup, 1) := by decide +kernel
theorem dX4_put_21 : decode cX4_put 21 = .ok (.getfield 15, 3) := by decide +kernel
theorem dX4_put_24 : decode cX4_put 24 = .ok (.iconst 1, 1) := by decide +kernel
theorem dX4_put_25 : decode cX4_put 25 = .ok (.iadd, 1) := by decide +kernel
theorem dX4_put_26 : decode cX4_put 26 = .ok (.putfield 15, 3) := by decide +kernel
theorem dX4_put_29 : decode cX4_put 29 = .ok (.return_, 1) := by decide +kernel
theorem dX4_sign_0 : decode cX4_sign 0 = .ok (.aload_n 0, 1) := by decide +kernel
theorem dX4_sign_1 : decode cX4_sign 1 = .ok (.getfield 38, 3) := by decide +kernel
theorem dX4_sign_4 : decode cX4_sign 4 = .ok (.aload_n 0, 1) := by decide +kernel
theorem dX4_sign_5 : decode cX4_sign 5 = .ok (.getfield 15, 3) := by decide +kernel
theorem dX4_sign_8 : decode cX4_sign 8 = .ok (.if_icmp .ge 15, 3) := by decide +kernel
theorem dX4_sign_11 : decode cX4_sign 11 = .ok (.aload_n 0, 1) := by decide +kernel
theorem dX4_sign_12 : decode cX4_sign 12 = .ok (.getfield 9, 3) := by decide +kernel
theorem dX4_sign_15 : decode cX4_sign 15 = .ok (.aload_n 0, 1) := by decide +kernel
theorem dX4_sign_16 : decode cX4_sign 16 = .ok (.getfield 38, 3) := by decide +kernel
theorem dX4_sign_19 : decode cX4_sign 19 = .ok (.caload, 1) := by decide +kernel
theorem dX4_sign_20 : decode cX4_sign 20 = .ok (.goto 4, 3) := by decide +kernel
theorem dX4_sign_23 : decode cX4_sign 23 = .ok (.iconst 0, 1) := by decide +kernel
theorem dX4_sign_24 : decode cX4_sign 24 = .ok (.ireturn, 1) := by decide +kernel
theorem dX4_isDigit_0 : decode cX4_isDigit 0 = .ok (.aload_n 0, 1) := by decide +kernel
theorem dX4_isDigit_1 : decode cX4_isDigit 1 = .ok (.invokevirtual 41, 3) := by decide +kernel
theorem dX4_isDigit_4 : decode cX4_isDigit 4 = .ok (.bipush 48, 2) := by decide +kernel
theorem dX4_isDigit_6 : decode cX4_isDigit 6 = .ok (.if_icmp .lt 16, 3) := by decide +kernel
theorem dX4_isDigit_9 : decode cX4_isDigit 9 = .ok (.aload_n 0, 1) := by decide +kernel
theorem dX4_isDigit_10 : decode cX4_isDigit 10 = .ok (.invokevirtual 41, 3) := by decide +kernel
theorem dX4_isDigit_13 : decode cX4_isDigit 13 = .ok (.bipush 57, 2) := by decide +kernel
theorem dX4_isDigit_15 : decode cX4_isDigit 15 = .ok (.if_icmp .gt 7, 3) := by decide +kernel
theorem dX4_isDigit_18 : decode cX4_isDigit 18 = .ok (.iconst 1, 1) := by decide +kernel
theorem dX4_isDigit_19 : decode cX4_isDigit 19 = .ok (.goto 4, 3) := by decide +kernel
theorem dX4_isDigit_22 : decode cX4_isDigit 22 = .ok (.iconst 0, 1) := by decide +kernel
theorem dX4_isDigit_23 : decode cX4_isDigit 23 = .ok (.ireturn, 1) := by decide +kernel
theorem dX4_takeDigit_0 : decode cX4_takeDigit 0 = .ok (.aload_n 0, 1) := by decide +kernel
theorem dX4_takeDigit_1 : decode cX4_takeDigit 1 = .ok (.invokevirtual 41, 3) := by decide +kernel
theorem dX4_takeDigit_4 : decode cX4_takeDigit 4 = .ok (.bipush 48, 2) := by decide +kernel
theorem dX4_takeDigit_6 : decode cX4_takeDigit 6 = .ok (.isub, 1) := by decide +kernel
theorem dX4_takeDigit_7 : decode cX4_takeDigit 7 = .ok (.istore_n 1, 1) := by decide +kernel
theorem dX4_takeDigit_8 : decode cX4_takeDigit 8 = .ok (.aload_n 0, 1) := by decide +kernel
theorem dX4_takeDigit_9 : decode cX4_takeDigit 9 = .ok (.dup, 1) := by decide +kernel
theorem dX4_takeDigit_10 : decode cX4_takeDigit 10 = .ok (.getfield 38, 3) := by decide +kernel
theorem dX4_takeDigit_13 : decode cX4_takeDigit 13 = .ok (.iconst 1, 1) := by decide +kernel
theorem dX4_takeDigit_14 : decode cX4_takeDigit 14 = .ok (.iadd, 1) := by decide +kernel
theorem dX4_takeDigit_15 : decode cX4_takeDigit 15 = .ok (.putfield 38, 3) := by decide +kernel
theorem dX4_takeDigit_18 : decode cX4_takeDigit 18 = .ok (.iload_n 1, 1) := by decide +kernel
theorem dX4_takeDigit_19 : decode cX4_takeDigit 19 = .ok (.ireturn, 1) := by decide +kernel
theorem dX4_readArrivals_0 : decode cX4_readArrivals 0 = .ok (.aload_n 0, 1) := by decide +kernel
theorem dX4_readArrivals_1 : decode cX4_readArrivals 1 = .ok (.iconst 0, 1) := by decide +kernel
theorem dX4_readArrivals_2 : decode cX4_readArrivals 2 = .ok (.putfield 38, 3) := by decide +kernel
theorem dX4_readArrivals_5 : decode cX4_readArrivals 5 = .ok (.aload_n 0, 1) := by decide +kernel
theorem dX4_readArrivals_6 : decode cX4_readArrivals 6 = .ok (.iconst 0, 1) := by decide +kernel
theorem dX4_readArrivals_7 : decode cX4_readArrivals 7 = .ok (.putfield 26, 3) := by decide +kernel
theorem dX4_readArrivals_10 : decode cX4_readArrivals 10 = .ok (.iconst 1, 1) := by decide +kernel
theorem dX4_readArrivals_11 : decode cX4_readArrivals 11 = .ok (.istore_n 1, 1) := by decide +kernel
theorem dX4_readArrivals_12 : decode cX4_readArrivals 12 = .ok (.iconst 0, 1) := by decide +kernel
theorem dX4_readArrivals_13 : decode cX4_readArrivals 13 = .ok (.istore_n 2, 1) := by decide +kernel
theorem dX4_readArrivals_14 : decode cX4_readArrivals 14 = .ok (.iload_n 2, 1) := by decide +kernel
theorem dX4_readArrivals_15 : decode cX4_readArrivals 15 = .ok (.bipush 60, 2) := by decide +kernel
theorem dX4_readArrivals_17 : decode cX4_readArrivals 17 = .ok (.if_icmp .ge 113, 3) := by decide +kernel
theorem dX4_readArrivals_20 : decode cX4_readArrivals 20 = .ok (.iload_n 1, 1) := by decide +kernel
theorem dX4_readArrivals_21 : decode cX4_readArrivals 21 = .ok (.ifCond .eq 109, 3) := by decide +kernel
theorem dX4_readArrivals_24 : decode cX4_readArrivals 24 = .ok (.aload_n 0, 1) := by decide +kernel
theorem dX4_readArrivals_25 : decode cX4_readArrivals 25 = .ok (.invokevirtual 41, 3) := by decide +kernel
theorem dX4_readArrivals_28 : decode cX4_readArrivals 28 = .ok (.invokestatic 45, 3) := by decide +kernel
theorem dX4_readArrivals_31 : decode cX4_readArrivals 31 = .ok (.istore_n 3, 1) := by decide +kernel
theorem dX4_readArrivals_32 : decode cX4_readArrivals 32 = .ok (.iload_n 3, 1) := by decide +kernel
theorem dX4_readArrivals_33 : decode cX4_readArrivals 33 = .ok (.iconst (-1), 1) := by decide +kernel
theorem dX4_readArrivals_34 : decode cX4_readArrivals 34 = .ok (.if_icmp .ne 8, 3) := by decide +kernel
theorem dX4_readArrivals_37 : decode cX4_readArrivals 37 = .ok (.aload_n 0, 1) := by decide +kernel
theorem dX4_readArrivals_38 : decode cX4_readArrivals 38 = .ok (.getfield 38, 3) := by decide +kernel
theorem dX4_readArrivals_41 : decode cX4_readArrivals 41 = .ok (.ireturn, 1) := by decide +kernel
theorem dX4_readArrivals_42 : decode cX4_readArrivals 42 = .ok (.aload_n 0, 1) := by decide +kernel
theorem dX4_readArrivals_43 : decode cX4_readArrivals 43 = .ok (.dup, 1) := by decide +kernel
theorem dX4_readArrivals_44 : decode cX4_readArrivals 44 = .ok (.getfield 38, 3) := by decide +kernel
theorem dX4_readArrivals_47 : decode cX4_readArrivals 47 = .ok (.iconst 1, 1) := by decide +kernel
theorem dX4_readArrivals_48 : decode cX4_readArrivals 48 = .ok (.iadd, 1) := by decide +kernel
theorem dX4_readArrivals_49 : decode cX4_readArrivals 49 = .ok (.putfield 38, 3) := by decide +kernel
theorem dX4_readArrivals_52 : decode cX4_readArrivals 52 = .ok (.aload_n 0, 1) := by decide +kernel
theorem dX4_readArrivals_53 : decode cX4_readArrivals 53 = .ok (.getfield 19, 3) := by decide +kernel
theorem dX4_readArrivals_56 : decode cX4_readArrivals 56 = .ok (.iload_n 2, 1) := by decide +kernel
theorem dX4_readArrivals_57 : decode cX4_readArrivals 57 = .ok (.iload_n 3, 1) := by decide +kernel
theorem dX4_readArrivals_58 : decode cX4_readArrivals 58 = .ok (.iastore, 1) := by decide +kernel
theorem dX4_readArrivals_59 : decode cX4_readArrivals 59 = .ok (.aload_n 0, 1) := by decide +kernel
theorem dX4_readArrivals_60 : decode cX4_readArrivals 60 = .ok (.getfield 23, 3) := by decide +kernel
theorem dX4_readArrivals_63 : decode cX4_readArrivals 63 = .ok (.iload_n 2, 1) := by decide +kernel
theorem dX4_readArrivals_64 : decode cX4_readArrivals 64 = .ok (.aload_n 0, 1) := by decide +kernel
theorem dX4_readArrivals_65 : decode cX4_readArrivals 65 = .ok (.invokevirtual 49, 3) := by decide +kernel
theorem dX4_readArrivals_68 : decode cX4_readArrivals 68 = .ok (.iastore, 1) := by decide +kernel
theorem dX4_readArrivals_69 : decode cX4_readArrivals 69 = .ok (.aload_n 0, 1) := by decide +kernel
theorem dX4_readArrivals_70 : decode cX4_readArrivals 70 = .ok (.dup, 1) := by decide +kernel
theorem dX4_readArrivals_71 : decode cX4_readArrivals 71 = .ok (.getfield 26, 3) := by decide +kernel
theorem dX4_readArrivals_74 : decode cX4_readArrivals 74 = .ok (.iconst 1, 1) := by decide +kernel
theorem dX4_readArrivals_75 : decode cX4_readArrivals 75 = .ok (.iadd, 1) := by decide +kernel
theorem dX4_readArrivals_76 : decode cX4_readArrivals 76 = .ok (.putfield 26, 3) := by decide +kernel
theorem dX4_readArrivals_79 : decode cX4_readArrivals 79 = .ok (.aload_n 0, 1) := by decide +kernel
theorem dX4_readArrivals_80 : decode cX4_readArrivals 80 = .ok (.getfield 38, 3) := by decide +kernel
theorem dX4_readArrivals_83 : decode cX4_readArrivals 83 = .ok (.aload_n 0, 1) := by decide +kernel
theorem dX4_readArrivals_84 : decode cX4_readArrivals 84 = .ok (.getfield 15, 3) := by decide +kernel
theorem dX4_readArrivals_87 : decode cX4_readArrivals 87 = .ok (.if_icmp .ge 7, 3) := by decide +kernel
theorem dX4_readArrivals_90 : decode cX4_readArrivals 90 = .ok (.iconst 1, 1) := by decide +kernel
theorem dX4_readArrivals_91 : decode cX4_readArrivals 91 = .ok (.goto 4, 3) := by decide +kernel
theorem dX4_readArrivals_94 : decode cX4_readArrivals 94 = .ok (.iconst 0, 1) := by decide +kernel
theorem dX4_readArrivals_95 : decode cX4_readArrivals 95 = .ok (.istore_n 1, 1) := by decide +kernel
theorem dX4_readArrivals_96 : decode cX4_readArrivals 96 = .ok (.iload_n 1, 1) := by decide +kernel
theorem dX4_readArrivals_97 : decode cX4_readArrivals 97 = .ok (.ifCond .eq 27, 3) := by decide +kernel
theorem dX4_readArrivals_100 : decode cX4_readArrivals 100 = .ok (.aload_n 0, 1) := by decide +kernel
theorem dX4_readArrivals_101 : decode cX4_readArrivals 101 = .ok (.invokevirtual 41, 3) := by decide +kernel
theorem dX4_readArrivals_104 : decode cX4_readArrivals 104 = .ok (.bipush 44, 2) := by decide +kernel
theorem dX4_readArrivals_106 : decode cX4_readArrivals 106 = .ok (.if_icmp .eq 8, 3) := by decide +kernel
theorem dX4_readArrivals_109 : decode cX4_readArrivals 109 = .ok (.aload_n 0, 1) := by decide +kernel
theorem dX4_readArrivals_110 : decode cX4_readArrivals 110 = .ok (.getfield 38, 3) := by decide +kernel
theorem dX4_readArrivals_113 : decode cX4_readArrivals 113 = .ok (.ireturn, 1) := by decide +kernel
theorem dX4_readArrivals_114 : decode cX4_readArrivals 114 = .ok (.aload_n 0, 1) := by decide +kernel
theorem dX4_readArrivals_115 : decode cX4_readArrivals 115 = .ok (.dup, 1) := by decide +kernel
theorem dX4_readArrivals_116 : decode cX4_readArrivals 116 = .ok (.getfield 38, 3) := by decide +kernel
theorem dX4_readArrivals_119 : decode cX4_readArrivals 119 = .ok (.iconst 1, 1) := by decide +kernel
theorem dX4_readArrivals_120 : decode cX4_readArrivals 120 = .ok (.iadd, 1) := by decide +kernel
theorem dX4_readArrivals_121 : decode cX4_readArrivals 121 = .ok (.putfield 38, 3) := by decide +kernel
theorem dX4_readArrivals_124 : decode cX4_readArrivals 124 = .ok (.iinc 2 1, 3) := by decide +kernel
theorem dX4_readArrivals_127 : decode cX4_readArrivals 127 = .ok (.goto (-113), 3) := by decide +kernel
theorem dX4_readArrivals_130 : decode cX4_readArrivals 130 = .ok (.iconst (-1), 1) := by decide +kernel
theorem dX4_readArrivals_131 : decode cX4_readArrivals 131 = .ok (.ireturn, 1) := by decide +kernel
theorem dX4_readWeight_0 : decode cX4_readWeight 0 = .ok (.aload_n 0, 1) := by decide +kernel
theorem dX4_readWeight_1 : decode cX4_readWeight 1 = .ok (.invokevirtual 53, 3) := by decide +kernel
theorem dX4_readWeight_4 : decode cX4_readWeight 4 = .ok (.ifCond .eq 19, 3) := by decide +kernel
theorem dX4_readWeight_7 : decode cX4_readWeight 7 = .ok (.aload_n 0, 1) := by decide +kernel
theorem dX4_readWeight_8 : decode cX4_readWeight 8 = .ok (.invokevirtual 41, 3) := by decide +kernel
theorem dX4_readWeight_11 : decode cX4_readWeight 11 = .ok (.bipush 48, 2) := by decide +kernel
theorem dX4_readWeight_13 : decode cX4_readWeight 13 = .ok (.if_icmp .eq 10, 3) := by decide +kernel
theorem dX4_readWeight_16 : decode cX4_readWeight 16 = .ok (.aload_n 0, 1) := by decide +kernel
theorem dX4_readWeight_17 : decode cX4_readWeight 17 = .ok (.invokevirtual 57, 3) := by decide +kernel
theorem dX4_readWeight_20 : decode cX4_readWeight 20 = .ok (.goto 4, 3) := by decide +kernel
theorem dX4_readWeight_23 : decode cX4_readWeight 23 = .ok (.iconst 1, 1) := by decide +kernel
theorem dX4_readWeight_24 : decode cX4_readWeight 24 = .ok (.ireturn, 1) := by decide +kernel
theorem dX4_readNumber_0 : decode cX4_readNumber 0 = .ok (.aload_n 0, 1) := by decide +kernel
theorem dX4_readNumber_1 : decode cX4_readNumber 1 = .ok (.invokevirtual 60, 3) := by decide +kernel
theorem dX4_readNumber_4 : decode cX4_readNumber 4 = .ok (.istore_n 1, 1) := by decide +kernel
theorem dX4_readNumber_5 : decode cX4_readNumber 5 = .ok (.iload_n 1, 1) := by decide +kernel
theorem dX4_readNumber_6 : decode cX4_readNumber 6 = .ok (.ifCond .eq 20, 3) := by decide +kernel
theorem dX4_readNumber_9 : decode cX4_readNumber 9 = .ok (.aload_n 0, 1) := by decide +kernel
theorem dX4_readNumber_10 : decode cX4_readNumber 10 = .ok (.invokevirtual 53, 3) := by decide +kernel
theorem dX4_readNumber_13 : decode cX4_readNumber 13 = .ok (.ifCond .eq 13, 3) := by decide +kernel
theorem dX4_readNumber_16 : decode cX4_readNumber 16 = .ok (.iload_n 1, 1) := by decide +kernel
theorem dX4_readNumber_17 : decode cX4_readNumber 17 = .ok (.bipush 10, 2) := by decide +kernel
theorem dX4_readNumber_19 : decode cX4_readNumber 19 = .ok (.imul, 1) := by decide +kernel
theorem dX4_readNumber_20 : decode cX4_readNumber 20 = .ok (.aload_n 0, 1) := by decide +kernel
theorem dX4_readNumber_21 : decode cX4_readNumber 21 = .ok (.invokevirtual 60, 3) := by decide +kernel
theorem dX4_readNumber_24 : decode cX4_readNumber 24 = .ok (.iadd, 1) := by decide +kernel
theorem dX4_readNumber_25 : decode cX4_readNumber 25 = .ok (.istore_n 1, 1) := by decide +kernel
theorem dX4_readNumber_26 : decode cX4_readNumber 26 = .ok (.iload_n 1, 1) := by decide +kernel
theorem dX4_readNumber_27 : decode cX4_readNumber 27 = .ok (.ireturn, 1) := by decide +kernel
theorem dX4_totalWeight_0 : decode cX4_totalWeight 0 = .ok (.iconst 0, 1) := by decide +kernel
theorem dX4_totalWeight_1 : decode cX4_totalWeight 1 = .ok (.istore_n 1, 1) := by decide +kernel
theorem dX4_totalWeight_2 : decode cX4_totalWeight 2 = .ok (.iconst 0, 1) := by decide +kernel
theorem dX4_totalWeight_3 : decode cX4_totalWeight 3 = .ok (.istore_n 2, 1) := by decide +kernel
theorem dX4_totalWeight_4 : decode cX4_totalWeight 4 = .ok (.iload_n 2, 1) := by decide +kernel
theorem dX4_totalWeight_5 : decode cX4_totalWeight 5 = .ok (.aload_n 0, 1) := by decide +kernel
theorem dX4_totalWeight_6 : decode cX4_totalWeight 6 = .ok (.getfield 26, 3) := by decide +kernel
theorem dX4_totalWeight_9 : decode cX4_totalWeight 9 = .ok (.if_icmp .ge 18, 3) := by decide +kernel
theorem dX4_totalWeight_12 : decode cX4_totalWeight 12 = .ok (.iload_n 1, 1) := by decide +kernel
theorem dX4_totalWeight_13 : decode cX4_totalWeight 13 = .ok (.aload_n 0, 1) := by decide +kernel
theorem dX4_totalWeight_14 : decode cX4_totalWeight 14 = .ok (.getfield 23, 3) := by decide +kernel
theorem dX4_totalWeight_17 : decode cX4_totalWeight 17 = .ok (.iload_n 2, 1) := by decide +kernel
theorem dX4_totalWeight_18 : decode cX4_totalWeight 18 = .ok (.iaload, 1) := by decide +kernel
theorem dX4_totalWeight_19 : decode cX4_totalWeight 19 = .ok (.iadd, 1) := by decide +kernel
theorem dX4_totalWeight_20 : decode cX4_totalWeight 20 = .ok (.istore_n 1, 1) := by decide +kernel
theorem dX4_totalWeight_21 : decode cX4_totalWeight 21 = .ok (.iinc 2 1, 3) := by decide +kernel
theorem dX4_totalWeight_24 : decode cX4_totalWeight 24 = .ok (.goto (-20), 3) := by decide +kernel
theorem dX4_totalWeight_27 : decode cX4_totalWeight 27 = .ok (.iload_n 1, 1) := by decide +kernel
theorem dX4_totalWeight_28 : decode cX4_totalWeight 28 = .ok (.ireturn, 1) := by decide +kernel
theorem dX4_readCommand_0 : decode cX4_readCommand 0 = .ok (.aload_n 0, 1) := by decide +kernel
theorem dX4_readCommand_1 : decode cX4_readCommand 1 = .ok (.iconst 0, 1) := by decide +kernel
theorem dX4_readCommand_2 : decode cX4_readCommand 2 = .ok (.putfield 38, 3) := by decide +kernel
theorem dX4_readCommand_5 : decode cX4_readCommand 5 = .ok (.iconst 0, 1) := by decide +kernel
theorem dX4_readCommand_6 : decode cX4_readCommand 6 = .ok (.istore_n 1, 1) := by decide +kernel
theorem dX4_readCommand_7 : decode cX4_readCommand 7 = .ok (.iload_n 1, 1) := by decide +kernel
theorem dX4_readCommand_8 : decode cX4_readCommand 8 = .ok (.bipush 60, 2) := by decide +kernel
theorem dX4_readCommand_10 : decode cX4_readCommand 10 = .ok (.if_icmp .ge 30, 3) := by decide +kernel
theorem dX4_readCommand_13 : decode cX4_readCommand 13 = .ok (.aload_n 0, 1) := by decide +kernel
theorem dX4_readCommand_14 : decode cX4_readCommand 14 = .ok (.invokevirtual 41, 3) := by decide +kernel
theorem dX4_readCommand_17 : decode cX4_readCommand 17 = .ok (.invokestatic 45, 3) := by decide +kernel
theorem dX4_readCommand_20 : decode cX4_readCommand 20 = .ok (.iconst (-1), 1) := by decide +kernel
theorem dX4_readCommand_21 : decode cX4_readCommand 21 = .ok (.if_icmp .eq 19, 3) := by decide +kernel
theorem dX4_readCommand_24 : decode cX4_readCommand 24 = .ok (.aload_n 0, 1) := by decide +kernel
theorem dX4_readCommand_25 : decode cX4_readCommand 25 = .ok (.dup, 1) := by decide +kernel
theorem dX4_readCommand_26 : decode cX4_readCommand 26 = .ok (.getfield 38, 3) := by decide +kernel
theorem dX4_readCommand_29 : decode cX4_readCommand 29 = .ok (.iconst 1, 1) := by decide +kernel
theorem dX4_readCommand_30 : decode cX4_readCommand 30 = .ok (.iadd, 1) := by decide +kernel
theorem dX4_readCommand_31 : decode cX4_readCommand 31 = .ok (.putfield 38, 3) := by decide +kernel
theorem dX4_readCommand_34 : decode cX4_readCommand 34 = .ok (.iinc 1 1, 3) := by decide +kernel
theorem dX4_readCommand_37 : decode cX4_readCommand 37 = .ok (.goto (-30), 3) := by decide +kernel
theorem dX4_readCommand_40 : decode cX4_readCommand 40 = .ok (.aload_n 0, 1) := by decide +kernel
theorem dX4_readCommand_41 : decode cX4_readCommand 41 = .ok (.aload_n 0, 1) := by decide +kernel
theorem dX4_readCommand_42 : decode cX4_readCommand 42 = .ok (.aload_n 0, 1) := by decide +kernel
theorem dX4_readCommand_43 : decode cX4_readCommand 43 = .ok (.getfield 38, 3) := by decide +kernel
theorem dX4_readCommand_46 : decode cX4_readCommand 46 = .ok (.invokevirtual 63, 3) := by decide +kernel
theorem dX4_readCommand_49 : decode cX4_readCommand 49 = .ok (.putfield 29, 3) := by decide +kernel
theorem dX4_readCommand_52 : decode cX4_readCommand 52 = .ok (.aload_n 0, 1) := by decide +kernel
theorem dX4_readCommand_53 : decode cX4_readCommand 53 = .ok (.getfield 29, 3) := by decide +kernel
theorem dX4_readCommand_56 : decode cX4_readCommand 56 = .ok (.ifCond .ne 5, 3) := by decide +kernel
theorem dX4_readCommand_59 : decode cX4_readCommand 59 = .ok (.iconst 0, 1) := by decide +kernel
theorem dX4_readCommand_60 : decode cX4_readCommand 60 = .ok (.ireturn, 1) := by decide +kernel
theorem dX4_readCommand_61 : decode cX4_readCommand 61 = .ok (.aload_n 0, 1) := by decide +kernel
theorem dX4_readCommand_62 : decode cX4_readCommand 62 = .ok (.aload_n 0, 1) := by decide +kernel
theorem dX4_readCommand_63 : decode cX4_readCommand 63 = .ok (.invokevirtual 67, 3) := by decide +kernel
theorem dX4_readCommand_66 : decode cX4_readCommand 66 = .ok (.putfield 32, 3) := by decide +kernel
theorem dX4_readCommand_69 : decode cX4_readCommand 69 = .ok (.aload_n 0, 1) := by decide +kernel
theorem dX4_readCommand_70 : decode cX4_readCommand 70 = .ok (.getfield 32, 3) := by decide +kernel
theorem dX4_readCommand_73 : decode cX4_readCommand 73 = .ok (.iconst (-1), 1) := by decide +kernel
theorem dX4_readCommand_74 : decode cX4_readCommand 74 = .ok (.if_icmp .ne 8, 3) := by decide +kernel
theorem dX4_readCommand_77 : decode cX4_readCommand 77 = .ok (.aload_n 0, 1) := by decide +kernel
theorem dX4_readCommand_78 : decode cX4_readCommand 78 = .ok (.getfield 38, 3) := by decide +kernel
theorem dX4_readCommand_81 : decode cX4_readCommand 81 = .ok (.ireturn, 1) := by decide +kernel
theorem dX4_readCommand_82 : decode cX4_readCommand 82 = .ok (.aload_n 0, 1) := by decide +kernel
theorem dX4_readCommand_83 : decode cX4_readCommand 83 = .ok (.getfield 29, 3) := by decide +kernel
theorem dX4_readCommand_86 : decode cX4_readCommand 86 = .ok (.iconst 4, 1) := by decide +kernel
theorem dX4_readCommand_87 : decode cX4_readCommand 87 = .ok (.if_icmp .eq 24, 3) := by decide +kernel
theorem dX4_readCommand_90 : decode cX4_readCommand 90 = .ok (.aload_n 0, 1) := by decide +kernel
theorem dX4_readCommand_91 : decode cX4_readCommand 91 = .ok (.aload_n 0, 1) := by decide +kernel
theorem dX4_readCommand_92 : decode cX4_readCommand 92 = .ok (.invokevirtual 67, 3) := by decide +kernel
theorem dX4_readCommand_95 : decode cX4_readCommand 95 = .ok (.putfield 35, 3) := by decide +kernel
theorem dX4_readCommand_98 : decode cX4_readCommand 98 = .ok (.aload_n 0, 1) := by decide +kernel
theorem dX4_readCommand_99 : decode cX4_readCommand 99 = .ok (.getfield 35, 3) := by decide +kernel
theorem dX4_readCommand_102 : decode cX4_readCommand 102 = .ok (.iconst (-1), 1) := by decide +kernel
theorem dX4_readCommand_103 : decode cX4_readCommand 103 = .ok (.if_icmp .ne 8, 3) := by decide +kernel
theorem dX4_readCommand_106 : decode cX4_readCommand 106 = .ok (.aload_n 0, 1) := by decide +kernel
theorem dX4_readCommand_107 : decode cX4_readCommand 107 = .ok (.getfield 38, 3) := by decide +kernel
theorem dX4_readCommand_110 : decode cX4_readCommand 110 = .ok (.ireturn, 1) := by decide +kernel
theorem dX4_readCommand_111 : decode cX4_readCommand 111 = .ok (.aload_n 0, 1) := by decide +kernel
theorem dX4_readCommand_112 : decode cX4_readCommand 112 = .ok (.getfield 38, 3) := by decide +kernel
theorem dX4_readCommand_115 : decode cX4_readCommand 115 = .ok (.aload_n 0, 1) := by decide +kernel
theorem dX4_readCommand_116 : decode cX4_readCommand 116 = .ok (.getfield 15, 3) := by decide +kernel
theorem dX4_readCommand_119 : decode cX4_readCommand 119 = .ok (.if_icmp .ge 10, 3) := by decide +kernel
theorem dX4_readCommand_122 : decode cX4_readCommand 122 = .ok (.aload_n 0, 1) := by decide +kernel
theorem dX4_readCommand_123 : decode cX4_readCommand 123 = .ok (.getfield 38, 3) := by decide +kernel
theorem dX4_readCommand_126 : decode cX4_readCommand 126 = .ok (.goto 4, 3) := by decide +kernel
theorem dX4_readCommand_129 : decode cX4_readCommand 129 = .ok (.iconst (-1), 1) := by decide +kernel
theorem dX4_readCommand_130 : decode cX4_readCommand 130 = .ok (.ireturn, 1) := by decide +kernel
theorem dX4_readArgument_0 : decode cX4_readArgument 0 = .ok (.aload_n 0, 1) := by decide +kernel
theorem dX4_readArgument_1 : decode cX4_readArgument 1 = .ok (.invokevirtual 41, 3) := by decide +kernel
theorem dX4_readArgument_4 : decode cX4_readArgument 4 = .ok (.bipush 32, 2) := by decide +kernel
theorem dX4_readArgument_6 : decode cX4_readArgument 6 = .ok (.if_icmp .eq 5, 3) := by decide +kernel
theorem dX4_readArgument_9 : decode cX4_readArgument 9 = .ok (.iconst (-1), 1) := by decide +kernel
theorem dX4_readArgument_10 : decode cX4_readArgument 10 = .ok (.ireturn, 1) := by decide +kernel
theorem dX4_readArgument_11 : decode cX4_readArgument 11 = .ok (.aload_n 0, 1) := by decide +kernel
theorem dX4_readArgument_12 : decode cX4_readArgument 12 = .ok (.dup, 1) := by decide +kernel
theorem dX4_readArgument_13 : decode cX4_readArgument 13 = .ok (.getfield 38, 3) := by decide +kernel
theorem dX4_readArgument_16 : decode cX4_readArgument 16 = .ok (.iconst 1, 1) := by decide +kernel
theorem dX4_readArgument_17 : decode cX4_readArgument 17 = .ok (.iadd, 1) := by decide +kernel
theorem dX4_readArgument_18 : decode cX4_readArgument 18 = .ok (.putfield 38, 3) := by decide +kernel
theorem dX4_readArgument_21 : decode cX4_readArgument 21 = .ok (.aload_n 0, 1) := by decide +kernel
theorem dX4_readArgument_22 : decode cX4_readArgument 22 = .ok (.invokevirtual 53, 3) := by decide +kernel
theorem dX4_readArgument_25 : decode cX4_readArgument 25 = .ok (.ifCond .eq 10, 3) := by decide +kernel
theorem dX4_readArgument_28 : decode cX4_readArgument 28 = .ok (.aload_n 0, 1) := by decide +kernel
theorem dX4_readArgument_29 : decode cX4_readArgument 29 = .ok (.invokevirtual 57, 3) := by decide +kernel
theorem dX4_readArgument_32 : decode cX4_readArgument 32 = .ok (.goto 4, 3) := by decide +kernel
theorem dX4_readArgument_35 : decode cX4_readArgument 35 = .ok (.iconst (-1), 1) := by decide +kernel
theorem dX4_readArgument_36 : decode cX4_readArgument 36 = .ok (.ireturn, 1) := by decide +kernel
theorem dX4_wordBefore_0 : decode cX4_wordBefore 0 = .ok (.aload_n 0, 1) := by decide +kernel
theorem dX4_wordBefore_1 : decode cX4_wordBefore 1 = .ok (.ldc 70, 2) := by decide +kernel
theorem dX4_wordBefore_3 : decode cX4_wordBefore 3 = .ok (.iload_n 1, 1) := by decide +kernel
theorem dX4_wordBefore_4 : decode cX4_wordBefore 4 = .ok (.invokevirtual 72, 3) := by decide +kernel
theorem dX4_wordBefore_7 : decode cX4_wordBefore 7 = .ok (.ifCond .eq 5, 3) := by decide +kernel
theorem dX4_wordBefore_10 : decode cX4_wordBefore 10 = .ok (.iconst 1, 1) := by decide +kernel
theorem dX4_wordBefore_11 : decode cX4_wordBefore 11 = .ok (.ireturn, 1) := by decide +kernel
theorem dX4_wordBefore_12 : decode cX4_wordBefore 12 = .ok (.aload_n 0, 1) := by decide +kernel
theorem dX4_wordBefore_13 : decode cX4_wordBefore 13 = .ok (.ldc 76, 2) := by decide +kernel
theorem dX4_wordBefore_15 : decode cX4_wordBefore 15 = .ok (.iload_n 1, 1) := by decide +kernel
theorem dX4_wordBefore_16 : decode cX4_wordBefore 16 = .ok (.invokevirtual 72, 3) := by decide +kernel
theorem dX4_wordBefore_19 : decode cX4_wordBefore 19 = .ok (.ifCond .eq 5, 3) := by decide +kernel
theorem dX4_wordBefore_22 : decode cX4_wordBefore 22 = .ok (.iconst 2, 1) := by decide +kernel
theorem dX4_wordBefore_23 : decode cX4_wordBefore 23 = .ok (.ireturn, 1) := by decide +kernel
theorem dX4_wordBefore_24 : decode cX4_wordBefore 24 = .ok (.aload_n 0, 1) := by decide +kernel
theorem dX4_wordBefore_25 : decode cX4_wordBefore 25 = .ok (.ldc 78, 2) := by decide +kernel
theorem dX4_wordBefore_27 : decode cX4_wordBefore 27 = .ok (.iload_n 1, 1) := by decide +kernel
theorem dX4_wordBefore_28 : decode cX4_wordBefore 28 = .ok (.invokevirtual 72, 3) := by decide +kernel
theorem dX4_wordBefore_31 : decode cX4_wordBefore 31 = .ok (.ifCond .eq 5, 3) := by decide +kernel
theorem dX4_wordBefore_34 : decode cX4_wordBefore 34 = .ok (.iconst 3, 1) := by decide +kernel
theorem dX4_wordBefore_35 : decode cX4_wordBefore 35 = .ok (.ireturn, 1) := by decide +kernel
theorem dX4_wordBefore_36 : decode cX4_wordBefore 36 = .ok (.aload_n 0, 1) := by decide +kernel
theorem dX4_wordBefore_37 : decode cX4_wordBefore 37 = .ok (.ldc 80, 2) := by decide +kernel
theorem dX4_wordBefore_39 : decode cX4_wordBefore 39 = .ok (.iload_n 1, 1) := by decide +kernel
theorem dX4_wordBefore_40 : decode cX4_wordBefore 40 = .ok (.invokevirtual 72, 3) := by decide +kernel
theorem dX4_wordBefore_43 : decode cX4_wordBefore 43 = .ok (.ifCond .eq 7, 3) := by decide +kernel
theorem dX4_wordBefore_46 : decode cX4_wordBefore 46 = .ok (.iconst 4, 1) := by decide +kernel
theorem dX4_wordBefore_47 : decode cX4_wordBefore 47 = .ok (.goto 4, 3) := by decide +kernel
theorem dX4_wordBefore_50 : decode cX4_wordBefore 50 = .ok (.iconst 0, 1) := by decide +kernel
theorem dX4_wordBefore_51 : decode cX4_wordBefore 51 = .ok (.ireturn, 1) := by decide +kernel
theorem dX4_beginsWith_0 : decode cX4_beginsWith 0 = .ok (.aload_n 1, 1) := by decide +kernel
theorem dX4_beginsWith_1 : decode cX4_beginsWith 1 = .ok (.invokevirtual 82, 3) := by decide +kernel
theorem dX4_beginsWith_4 : decode cX4_beginsWith 4 = .ok (.iload_n 2, 1) := by decide +kernel
theorem dX4_beginsWith_5 : decode cX4_beginsWith 5 = .ok (.if_icmp .ne 15, 3) := by decide +kernel
theorem dX4_beginsWith_8 : decode cX4_beginsWith 8 = .ok (.iload_n 2, 1) := by decide +kernel
theorem dX4_beginsWith_9 : decode cX4_beginsWith 9 = .ok (.aload_n 0, 1) := by decide +kernel
theorem dX4_beginsWith_10 : decode cX4_beginsWith 10 = .ok (.getfield 15, 3) := by decide +kernel
theorem dX4_beginsWith_13 : decode cX4_beginsWith 13 = .ok (.if_icmp .gt 7, 3) := by decide +kernel
theorem dX4_beginsWith_16 : decode cX4_beginsWith 16 = .ok (.iconst 1, 1) := by decide +kernel
theorem dX4_beginsWith_17 : decode cX4_beginsWith 17 = .ok (.goto 4, 3) := by decide +kernel
theorem dX4_beginsWith_20 : decode cX4_beginsWith 20 = .ok (.iconst 0, 1) := by decide +kernel
theorem dX4_beginsWith_21 : decode cX4_beginsWith 21 = .ok (.istore_n 3, 1) := by decide +kernel
theorem dX4_beginsWith_22 : decode cX4_beginsWith 22 = .ok (.iconst 0, 1) := by decide +kernel
theorem dX4_beginsWith_23 : decode cX4_beginsWith 23 = .ok (.istore 4, 2) := by decide +kernel
theorem dX4_beginsWith_25 : decode cX4_beginsWith 25 = .ok (.iload 4, 2) := by decide +kernel
theorem dX4_beginsWith_27 : decode cX4_beginsWith 27 = .ok (.iload_n 2, 1) := by decide +kernel
theorem dX4_beginsWith_28 : decode cX4_beginsWith 28 = .ok (.if_icmp .ge 35, 3) := by decide +kernel
theorem dX4_beginsWith_31 : decode cX4_beginsWith 31 = .ok (.iload_n 3, 1) := by decide +kernel
theorem dX4_beginsWith_32 : decode cX4_beginsWith 32 = .ok (.ifCond .eq 31, 3) := by decide +kernel
theorem dX4_beginsWith_35 : decode cX4_beginsWith 35 = .ok (.aload_n 0, 1) := by decide +kernel
theorem dX4_beginsWith_36 : decode cX4_beginsWith 36 = .ok (.getfield 9, 3) := by decide +kernel
theorem dX4_beginsWith_39 : decode cX4_beginsWith 39 = .ok (.iload 4, 2) := by decide +kernel
theorem dX4_beginsWith_41 : decode cX4_beginsWith 41 = .ok (.caload, 1) := by decide +kernel
theorem dX4_beginsWith_42 : decode cX4_beginsWith 42 = .ok (.aload_n 1, 1) := by decide +kernel
theorem dX4_beginsWith_43 : decode cX4_beginsWith 43 = .ok (.iload 4, 2) := by decide +kernel
theorem dX4_beginsWith_45 : decode cX4_beginsWith 45 = .ok (.invokevirtual 86, 3) := by decide +kernel
theorem dX4_beginsWith_48 : decode cX4_beginsWith 48 = .ok (.if_icmp .ne 7, 3) := by decide +kernel
theorem dX4_beginsWith_51 : decode cX4_beginsWith 51 = .ok (.iconst 1, 1) := by decide +kernel
theorem dX4_beginsWith_52 : decode cX4_beginsWith 52 = .ok (.goto 4, 3) := by decide +kernel
theorem dX4_beginsWith_55 : decode cX4_beginsWith 55 = .ok (.iconst 0, 1) := by decide +kernel
theorem dX4_beginsWith_56 : decode cX4_beginsWith 56 = .ok (.istore_n 3, 1) := by decide +kernel
theorem dX4_beginsWith_57 : decode cX4_beginsWith 57 = .ok (.iinc 4 1, 3) := by decide +kernel
theorem dX4_beginsWith_60 : decode cX4_beginsWith 60 = .ok (.goto (-35), 3) := by decide +kernel
theorem dX4_beginsWith_63 : decode cX4_beginsWith 63 = .ok (.iload_n 3, 1) := by decide +kernel
theorem dX4_beginsWith_64 : decode cX4_beginsWith 64 = .ok (.ireturn, 1) := by decide +kernel
theorem dX5_init_0 : decode cX5_init 0 = .ok (.aload_n 0, 1) := by decide +kernel
theorem dX5_init_1 : decode cX5_init 1 = .ok (.invokespecial 3, 3) := by decide +kernel
theorem dX5_init_4 : decode cX5_init 4 = .ok (.aload_n 0, 1) := by decide +kernel
theorem dX5_init_5 : decode cX5_init 5 = .ok (.iconst 4, 1) := by decide +kernel
theorem dX5_init_6 : decode cX5_init 6 = .ok (.anewarray 9, 3) := by decide +kernel
theorem dX5_init_9 : decode cX5_init 9 = .ok (.putfield 11, 3) := by decide +kernel
theorem dX5_init_12 : decode cX5_init 12 = .ok (.aload_n 0, 1) := by decide +kernel
theorem dX5_init_13 : decode cX5_init 13 = .ok (.iconst 0, 1) := by decide +kernel
theorem dX5_init_14 : decode cX5_init 14 = .ok (.putfield 17, 3) := by decide +kernel
theorem dX5_init_17 : decode cX5_init 17 = .ok (.aload_n 0, 1) := by decide +kernel
theorem dX5_init_18 : decode cX5_init 18 = .ok (.iconst 1, 1) := by decide +kernel
theorem dX5_init_19 : decode cX5_init 19 = .ok (.putfield 21, 3) := by decide +kernel
theorem dX5_init_22 : decode cX5_init 22 = .ok (.aload_n 0, 1) := by decide +kernel
theorem dX5_init_23 : decode cX5_init 23 = .ok (.iconst 1, 1) := by decide +kernel
theorem dX5_init_24 : decode cX5_init 24 = .ok (.putfield 24, 3) := by decide +kernel
theorem dX5_init_27 : decode cX5_init 27 = .ok (.aload_n 0, 1) := by decide +kernel
theorem dX5_init_28 : decode cX5_init 28 = .ok (.iconst 0, 1) := by decide +kernel
theorem dX5_init_29 : decode cX5_init 29 = .ok (.putfield 27, 3) := by decide +kernel
theorem dX5_init_32 : decode cX5_init 32 = .ok (.iconst 0, 1) := by decide +kernel
theorem dX5_init_33 : decode cX5_init 33 = .ok (.istore_n 1, 1) := by decide +kernel
theorem dX5_init_34 : decode cX5_init 34 = .ok (.iload_n 1, 1) := by decide +kernel
theorem dX5_init_35 : decode cX5_init 35 = .ok (.iconst 4, 1) := by decide +kernel
theorem dX5_init_36 : decode cX5_init 36 = .ok (.if_icmp .ge 22, 3) := by decide +kernel
theorem dX5_init_39 : decode cX5_init 39 = .ok (.aload_n 0, 1) := by decide +kernel
theorem dX5_init_40 : decode cX5_init 40 = .ok (.getfield 11, 3) := by decide +kernel
theorem dX5_init_43 : decode cX5_init 43 = .ok (.iload_n 1, 1) := by decide +kernel
theorem dX5_init_44 : decode cX5_init 44 = .ok (.new 9, 3) := by decide +kernel
theorem dX5_init_47 : decode cX5_init 47 = .ok (.dup, 1) := by decide +kernel
theorem dX5_init_48 : decode cX5_init 48 = .ok (.invokespecial 30, 3) := by decide +kernel
theorem dX5_init_51 : decode cX5_init 51 = .ok (.aastore, 1) := by decide +kernel
theorem dX5_init_52 : decode cX5_init 52 = .ok (.iinc 1 1, 3) := by decide +kernel
theorem dX5_init_55 : decode cX5_init 55 = .ok (.goto (-21), 3) := by decide +kernel
theorem dX5_init_58 : decode cX5_init 58 = .ok (.return_, 1) := by decide +kernel
theorem dX5_presentBlock_0 : decode cX5_presentBlock 0 = .ok (.aload_n 0, 1) := by decide +kernel
theorem dX5_presentBlock_1 : decode cX5_presentBlock 1 = .ok (.getfield 11, 3) := by decide +kernel
theorem dX5_presentBlock_4 : decode cX5_presentBlock 4 = .ok (.aload_n 0, 1) := by decide +kernel
theorem dX5_presentBlock_5 : decode cX5_presentBlock 5 = .ok (.getfield 17, 3) := by decide +kernel
theorem dX5_presentBlock_8 : decode cX5_presentBlock 8 = .ok (.iconst 3, 1) := by decide +kernel
theorem dX5_presentBlock_9 : decode cX5_presentBlock 9 = .ok (.iand, 1) := by decide +kernel
theorem dX5_presentBlock_10 : decode cX5_presentBlock 10 = .ok (.aaload, 1) := by decide +kernel
theorem dX5_presentBlock_11 : decode cX5_presentBlock 11 = .ok (.areturn, 1) := by decide +kernel
theorem dX5_blockAt_0 : decode cX5_blockAt 0 = .ok (.aload_n 0, 1) := by decide +kernel
theorem dX5_blockAt_1 : decode cX5_blockAt 1 = .ok (.getfield 11, 3) := by decide +kernel
theorem dX5_blockAt_4 : decode cX5_blockAt 4 = .ok (.aload_n 0, 1) := by decide +kernel
theorem dX5_blockAt_5 : decode cX5_blockAt 5 = .ok (.getfield 17, 3) := by decide +kernel
theorem dX5_blockAt_8 : decode cX5_blockAt 8 = .ok (.aload_n 0, 1) := by decide +kernel
theorem dX5_blockAt_9 : decode cX5_blockAt 9 = .ok (.getfield 21, 3) := by decide +kernel
theorem dX5_blockAt_12 : decode cX5_blockAt 12 = .ok (.isub, 1) := by decide +kernel
theorem dX5_blockAt_13 : decode cX5_blockAt 13 = .ok (.iconst 1, 1) := by decide +kernel
theorem dX5_blockAt_14 : decode cX5_blockAt 14 = .ok (.iadd, 1) := by decide +kernel
theorem dX5_blockAt_15 : decode cX5_blockAt 15 = .ok (.iload_n 1, 1) := by decide +kernel
theorem dX5_blockAt_16 : decode cX5_blockAt 16 = .ok (.iadd, 1) := by decide +kernel
theorem dX5_blockAt_17 : decode cX5_blockAt 17 = .ok (.iconst 3, 1) := by decide +kernel
theorem dX5_blockAt_18 : decode cX5_blockAt 18 = .ok (.iand, 1) := by decide +kernel
theorem dX5_blockAt_19 : decode cX5_blockAt 19 = .ok (.aaload, 1) := by decide +kernel
theorem dX5_blockAt_20 : decode cX5_blockAt 20 = .ok (.areturn, 1) := by decide +kernel
theorem dX5_arrivalsOf_0 : decode cX5_arrivalsOf 0 = .ok (.iload_n 1, 1) := by decide +kernel
theorem dX5_arrivalsOf_1 : decode cX5_arrivalsOf 1 = .ok (.aload_n 0, 1) := by decide +kernel
theorem dX5_arrivalsOf_2 : decode cX5_arrivalsOf 2 = .ok (.getfield 21, 3) := by decide +kernel
theorem dX5_arrivalsOf_5 : decode cX5_arrivalsOf 5 = .ok (.iconst 1, 1) := by decide +kernel
theorem dX5_arrivalsOf_6 : decode cX5_arrivalsOf 6 = .ok (.isub, 1) := by decide +kernel
theorem dX5_arrivalsOf_7 : decode cX5_arrivalsOf 7 = .ok (.if_icmp .ne 10, 3) := by decide +kernel
theorem dX5_arrivalsOf_10 : decode cX5_arrivalsOf 10 = .ok (.aload_n 0, 1) := by decide +kernel
theorem dX5_arrivalsOf_11 : decode cX5_arrivalsOf 11 = .ok (.getfield 27, 3) := by decide +kernel
theorem dX5_arrivalsOf_14 : decode cX5_arrivalsOf 14 = .ok (.goto 5, 3) := by decide +kernel
theorem dX5_arrivalsOf_17 : decode cX5_arrivalsOf 17 = .ok (.bipush 8, 2) := by decide +kernel
theorem dX5_arrivalsOf_19 : decode cX5_arrivalsOf 19 = .ok (.ireturn, 1) := by decide +kernel
theorem dX5_beginBlock_0 : decode cX5_beginBlock 0 = .ok (.aload_n 0, 1) := by decide +kernel
theorem dX5_beginBlock_1 : decode cX5_beginBlock 1 = .ok (.aload_n 0, 1) := by decide +kernel
theorem dX5_beginBlock_2 : decode cX5_beginBlock 2 = .ok (.getfield 17, 3) := by decide +kernel
theorem dX5_beginBlock_5 : decode cX5_beginBlock 5 = .ok (.iconst 1, 1) := by decide +kernel
theorem dX5_beginBlock_6 : decode cX5_beginBlock 6 = .ok (.iadd, 1) := by decide +kernel
theorem dX5_beginBlock_7 : decode cX5_beginBlock 7 = .ok (.iconst 3, 1) := by decide +kernel
theorem dX5_beginBlock_8 : decode cX5_beginBlock 8 = .ok (.iand, 1) := by decide +kernel
theorem dX5_beginBlock_9 : decode cX5_beginBlock 9 = .ok (.putfield 17, 3) := by decide +kernel
theorem dX5_beginBlock_12 : decode cX5_beginBlock 12 = .ok (.aload_n 0, 1) := by decide +kernel
theorem dX5_beginBlock_13 : decode cX5_beginBlock 13 = .ok (.aload_n 0, 1) := by decide +kernel
theorem dX5_beginBlock_14 : decode cX5_beginBlock 14 = .ok (.getfield 21, 3) := by decide +kernel
theorem dX5_beginBlock_17 : decode cX5_beginBlock 17 = .ok (.iconst 1, 1) := by decide +kernel
theorem dX5_beginBlock_18 : decode cX5_beginBlock 18 = .ok (.iadd, 1) := by decide +kernel
theorem dX5_beginBlock_19 : decode cX5_beginBlock 19 = .ok (.iconst 4, 1) := by decide +kernel
theorem dX5_beginBlock_20 : decode cX5_beginBlock 20 = .ok (.invokestatic 31, 3) := by decide +kernel
theorem dX5_beginBlock_23 : decode cX5_beginBlock 23 = .ok (.putfield 21, 3) := by decide +kernel
theorem dX5_beginBlock_26 : decode cX5_beginBlock 26 = .ok (.aload_n 0, 1) := by decide +kernel
theorem dX5_beginBlock_27 : decode cX5_beginBlock 27 = .ok (.dup, 1) := by decide +kernel
theorem dX5_beginBlock_28 : decode cX5_beginBlock 28 = .ok (.getfield 24, 3) := by decide +kernel
theorem dX5_beginBlock_31 : decode cX5_beginBlock 31 = .ok (.iconst 1, 1) := by decide +kernel
theorem dX5_beginBlock_32 : decode cX5_beginBlock 32 = .ok (.iadd, 1) := by decide +kernel
theorem dX5_beginBlock_33 : decode cX5_beginBlock 33 = .ok (.putfield 24, 3) := by decide +kernel
theorem dX5_beginBlock_36 : decode cX5_beginBlock 36 = .ok (.aload_n 0, 1) := by decide +kernel
theorem dX5_beginBlock_37 : decode cX5_beginBlock 37 = .ok (.iconst 0, 1) := by decide +kernel
theorem dX5_beginBlock_38 : decode cX5_beginBlock 38 = .ok (.putfield 27, 3) := by decide +kernel
theorem dX5_beginBlock_41 : decode cX5_beginBlock 41 = .ok (.aload_n 0, 1) := by decide +kernel
theorem dX5_beginBlock_42 : decode cX5_beginBlock 42 = .ok (.invokevirtual 37, 3) := by decide +kernel
theorem dX5_beginBlock_45 : decode cX5_beginBlock 45 = .ok (.invokevirtual 41, 3) := by decide +kernel
theorem dX5_beginBlock_48 : decode cX5_beginBlock 48 = .ok (.return_, 1) := by decide +kernel
theorem dX5_look_0 : decode cX5_look 0 = .ok (.aload_n 1, 1) := by decide +kernel
theorem dX5_look_1 : decode cX5_look 1 = .ok (.aload_n 0, 1) := by decide +kernel
theorem dX5_look_2 : decode cX5_look 2 = .ok (.iconst 0, 1) := by decide +kernel
theorem dX5_look_3 : decode cX5_look 3 = .ok (.invokevirtual 44, 3) := by decide +kernel
theorem dX5_look_6 : decode cX5_look 6 = .ok (.invokevirtual 48, 3) := by decide +kernel
theorem dX5_look_9 : decode cX5_look 9 = .ok (.iconst 1, 1) := by decide +kernel
theorem dX5_look_10 : decode cX5_look 10 = .ok (.istore_n 3, 1) := by decide +kernel
theorem dX5_look_11 : decode cX5_look 11 = .ok (.iload_n 3, 1) := by decide +kernel
theorem dX5_look_12 : decode cX5_look 12 = .ok (.aload_n 0, 1) := by decide +kernel
theorem dX5_look_13 : decode cX5_look 13 = .ok (.getfield 21, 3) := by decide +kernel
theorem dX5_look_16 : decode cX5_look 16 = .ok (.if_icmp .ge 20, 3) := by decide +kernel
theorem dX5_look_19 : decode cX5_look 19 = .ok (.aload_n 1, 1) := by decide +kernel
theorem dX5_look_20 : decode cX5_look 20 = .ok (.aload_n 0, 1) := by decide +kernel
theorem dX5_look_21 : decode cX5_look 21 = .ok (.iload_n 3, 1) := by decide +kernel
theorem dX5_look_22 : decode cX5_look 22 = .ok (.invokevirtual 44, 3) := by decide +kernel
theorem dX5_look_25 : decode cX5_look 25 = .ok (.iload_n 2, 1) := by decide +kernel
theorem dX5_look_26 : decode cX5_look 26 = .ok (.invokevirtual 52, 3) := by decide +kernel
theorem dX5_look_29 : decode cX5_look 29 = .ok (.pop, 1) := by decide +kernel
theorem dX5_look_30 : decode cX5_look 30 = .ok (.iinc 3 1, 3) := by decide +kernel
theorem dX5_look_33 : decode cX5_look 33 = .ok (.goto (-22), 3) := by decide +kernel
theorem dX5_look_36 : decode cX5_look 36 = .ok (.return_, 1) := by decide +kernel
theorem dX5_become_0 : decode cX5_become 0 = .ok (.aload_n 0, 1) := by decide +kernel
theorem dX5_become_1 : decode cX5_become 1 = .ok (.aload_n 1, 1) := by decide +kernel
theorem dX5_become_2 : decode cX5_become 2 = .ok (.getfield 17, 3) := by decide +kernel
theorem dX5_become_5 : decode cX5_become 5 = .ok (.putfield 17, 3) := by decide +kernel
theorem dX5_become_8 : decode cX5_become 8 = .ok (.aload_n 0, 1) := by decide +kernel
theorem dX5_become_9 : decode cX5_become 9 = .ok (.aload_n 1, 1) := by decide +kernel
theorem dX5_become_10 : decode cX5_become 10 = .ok (.getfield 21, 3) := by decide +kernel
theorem dX5_become_13 : decode cX5_become 13 = .ok (.putfield 21, 3) := by decide +kernel
theorem dX5_become_16 : decode cX5_become 16 = .ok (.aload_n 0, 1) := by decide +kernel
theorem dX5_become_17 : decode cX5_become 17 = .ok (.aload_n 1, 1) := by decide +kernel
theorem dX5_become_18 : decode cX5_become 18 = .ok (.getfield 24, 3) := by decide +kernel
theorem dX5_become_21 : decode cX5_become 21 = .ok (.putfield 24, 3) := by decide +kernel
theorem dX5_become_24 : decode cX5_become 24 = .ok (.aload_n 0, 1) := by decide +kernel
theorem dX5_become_25 : decode cX5_become 25 = .ok (.aload_n 1, 1) := by decide +kernel
theorem dX5_become_26 : decode cX5_become 26 = .ok (.getfield 27, 3) := by decide +kernel
theorem dX5_become_29 : decode cX5_become 29 = .ok (.putfield 27, 3) := by decide +kernel
theorem dX5_become_32 : decode cX5_become 32 = .ok (.iconst 0, 1) := by decide +kernel
theorem dX5_become_33 : decode cX5_become 33 = .ok (.istore_n 2, 1) := by decide +kernel
theorem dX5_become_34 : decode cX5_become 34 = .ok (.iload_n 2, 1) := by decide +kernel
theorem dX5_become_35 : decode cX5_become 35 = .ok (.iconst 4, 1) := by decide +kernel
theorem dX5_become_36 : decode cX5_become 36 = .ok (.if_icmp .ge 24, 3) := by decide +kernel
theorem dX5_become_39 : decode cX5_become 39 = .ok (.aload_n 0, 1) := by decide +kernel
theorem dX5_become_40 : decode cX5_become 40 = .ok (.getfield 11, 3) := by decide +kernel
theorem dX5_become_43 : decode cX5_become 43 = .ok (.iload_n 2, 1) := by decide +kernel
theorem dX5_become_44 : decode cX5_become 44 = .ok (.aaload, 1) := by decide +kernel
theorem dX5_become_45 : decode cX5_become 45 = .ok (.aload_n 1, 1) := by decide +kernel
theorem dX5_become_46 : decode cX5_become 46 = .ok (.getfield 11, 3) := by decide +kernel
theorem dX5_become_49 : decode cX5_become 49 = .ok (.iload_n 2, 1) := by decide +kernel
theorem dX5_become_50 : decode cX5_become 50 = .ok (.aaload, 1) := by decide +kernel
theorem dX5_become_51 : decode cX5_become 51 = .ok (.invokevirtual 48, 3) := by decide +kernel
theorem dX5_become_54 : decode cX5_become 54 = .ok (.iinc 2 1, 3) := by decide +kernel
theorem dX5_become_57 : decode cX5_become 57 = .ok (.goto (-23), 3) := by decide +kernel
theorem dX5_become_60 : decode cX5_become 60 = .ok (.return_, 1) := by decide +kernel
theorem dX6_init_0 : decode cX6_init 0 = .ok (.aload_n 0, 1) := by decide +kernel
theorem dX6_init_1 : decode cX6_init 1 = .ok (.invokespecial 1, 3) := by decide +kernel
theorem dX6_init_4 : decode cX6_init 4 = .ok (.aload_n 0, 1) := by decide +kernel
theorem dX6_init_5 : decode cX6_init 5 = .ok (.new 7, 3) := by decide +kernel
theorem dX6_init_8 : decode cX6_init 8 = .ok (.dup, 1) := by decide +kernel
theorem dX6_init_9 : decode cX6_init 9 = .ok (.invokespecial 9, 3) := by decide +kernel
theorem dX6_init_12 : decode cX6_init 12 = .ok (.putfield 10, 3) := by decide +kernel
theorem dX6_init_15 : decode cX6_init 15 = .ok (.aload_n 0, 1) := by decide +kernel
theorem dX6_init_16 : decode cX6_init 16 = .ok (.new 16, 3) := by decide +kernel
theorem dX6_init_19 : decode cX6_init 19 = .ok (.dup, 1) := by decide +kernel
theorem dX6_init_20 : decode cX6_init 20 = .ok (.invokespecial 18, 3) := by decide +kernel
theorem dX6_init_23 : decode cX6_init 23 = .ok (.putfield 19, 3) := by decide +kernel
theorem dX6_init_26 : decode cX6_init 26 = .ok (.aload_n 0, 1) := by decide +kernel
theorem dX6_init_27 : decode cX6_init 27 = .ok (.new 7, 3) := by decide +kernel
theorem dX6_init_30 : decode cX6_init 30 = .ok (.dup, 1) := by decide +kernel
theorem dX6_init_31 : decode cX6_init 31 = .ok (.invokespecial 9, 3) := by decide +kernel
theorem dX6_init_34 : decode cX6_init 34 = .ok (.putfield 23, 3) := by decide +kernel
theorem dX6_init_37 : decode cX6_init 37 = .ok (.aload_n 0, 1) := by decide +kernel
theorem dX6_init_38 : decode cX6_init 38 = .ok (.iconst 0, 1) := by decide +kernel
theorem dX6_init_39 : decode cX6_init 39 = .ok (.putfield 26, 3) := by decide +kernel
theorem dX6_init_42 : decode cX6_init 42 = .ok (.aload_n 0, 1) := by decide +kernel
theorem dX6_init_43 : decode cX6_init 43 = .ok (.new 30, 3) := by decide +kernel
theorem dX6_init_46 : decode cX6_init 46 = .ok (.dup, 1) := by decide +kernel
theorem dX6_init_47 : decode cX6_init 47 = .ok (.invokespecial 32, 3) := by decide +kernel
theorem dX6_init_50 : decode cX6_init 50 = .ok (.putfield 33, 3) := by decide +kernel
theorem dX6_init_53 : decode cX6_init 53 = .ok (.aload_n 0, 1) := by decide +kernel
theorem dX6_init_54 : decode cX6_init 54 = .ok (.new 37, 3) := by decide +kernel
theorem dX6_init_57 : decode cX6_init 57 = .ok (.dup, 1) := by decide +kernel
theorem dX6_init_58 : decode cX6_init 58 = .ok (.invokespecial 39, 3) := by decide +kernel
theorem dX6_init_61 : decode cX6_init 61 = .ok (.putfield 40, 3) := by decide +kernel
theorem dX6_init_64 : decode cX6_init 64 = .ok (.return_, 1) := by decide +kernel
theorem dX6_arrive_0 : decode cX6_arrive 0 = .ok (.iload_n 2, 1) := by decide +kernel
theorem dX6_arrive_1 : decode cX6_arrive 1 = .ok (.invokestatic 44, 3) := by decide +kernel
theorem dX6_arrive_4 : decode cX6_arrive 4 = .ok (.istore 4, 2) := by decide +kernel
theorem dX6_arrive_6 : decode cX6_arrive 6 = .ok (.iload_n 1, 1) := by decide +kernel
theorem dX6_arrive_7 : decode cX6_arrive 7 = .ok (.invokestatic 48, 3) := by decide +kernel
theorem dX6_arrive_10 : decode cX6_arrive 10 = .ok (.ifCond .eq 9, 3) := by decide +kernel
theorem dX6_arrive_13 : decode cX6_arrive 13 = .ok (.iload 4, 2) := by decide +kernel
theorem dX6_arrive_15 : decode cX6_arrive 15 = .ok (.iconst (-1), 1) := by decide +kernel
theorem dX6_arrive_16 : decode cX6_arrive 16 = .ok (.if_icmp .ne 5, 3) := by decide +kernel
theorem dX6_arrive_19 : decode cX6_arrive 19 = .ok (.iconst (-1), 1) := by decide +kernel
theorem dX6_arrive_20 : decode cX6_arrive 20 = .ok (.ireturn, 1) := by decide +kernel
theorem dX6_arrive_21 : decode cX6_arrive 21 = .ok (.iload_n 3, 1) := by decide +kernel
theorem dX6_arrive_22 : decode cX6_arrive 22 = .ok (.invokestatic 52, 3) := by decide +kernel
theorem dX6_arrive_25 : decode cX6_arrive 25 = .ok (.ifCond .ne 6, 3) := by decide +kernel
theorem dX6_arrive_28 : decode cX6_arrive 28 = .ok (.bipush (-2), 2) := by decide +kernel
theorem dX6_arrive_30 : decode cX6_arrive 30 = .ok (.ireturn, 1) := by decide +kernel
theorem dX6_arrive_31 : decode cX6_arrive 31 = .ok (.aload_n 0, 1) := by decide +kernel
theorem dX6_arrive_32 : decode cX6_arrive 32 = .ok (.getfield 10, 3) := by decide +kernel
theorem dX6_arrive_35 : decode cX6_arrive 35 = .ok (.getfield 55, 3) := by decide +kernel
theorem dX6_arrive_38 : decode cX6_arrive 38 = .ok (.iload_n 1, 1) := by decide +kernel
theorem dX6_arrive_39 : decode cX6_arrive 39 = .ok (.aaload, 1) := by decide +kernel
theorem dX6_arrive_40 : decode cX6_arrive 40 = .ok (.astore 5, 2) := by decide +kernel
theorem dX6_arrive_42 : decode cX6_arrive 42 = .ok (.aload 5, 2) := by decide +kernel
theorem dX6_arrive_44 : decode cX6_arrive 44 = .ok (.getfield 59, 3) := by decide +kernel
theorem dX6_arrive_47 : decode cX6_arrive 47 = .ok (.iload_n 3, 1) := by decide +kernel
theorem dX6_arrive_48 : decode cX6_arrive 48 = .ok (.iadd, 1) := by decide +kernel
theorem dX6_arrive_49 : decode cX6_arrive 49 = .ok (.ldc 63, 2) := by decide +kernel
theorem dX6_arrive_51 : decode cX6_arrive 51 = .ok (.if_icmp .le 6, 3) := by decide +kernel
theorem dX6_arrive_54 : decode cX6_arrive 54 = .ok (.bipush (-3), 2) := by decide +kernel
theorem dX6_arrive_56 : decode cX6_arrive 56 = .ok (.ireturn, 1) := by decide +kernel
theorem dX6_arrive_57 : decode cX6_arrive 57 = .ok (.aload_n 0, 1) := by decide +kernel
theorem dX6_arrive_58 : decode cX6_arrive 58 = .ok (.getfield 19, 3) := by decide +kernel
theorem dX6_arrive_61 : decode cX6_arrive 61 = .ok (.aload_n 0, 1) := by decide +kernel
theorem dX6_arrive_62 : decode cX6_arrive 62 = .ok (.getfield 10, 3) := by decide +kernel
theorem dX6_arrive_65 : decode cX6_arrive 65 = .ok (.invokevirtual 64, 3) := by decide +kernel
theorem dX6_arrive_68 : decode cX6_arrive 68 = .ok (.aload_n 0, 1) := by decide +kernel
theorem dX6_arrive_69 : decode cX6_arrive 69 = .ok (.getfield 10, 3) := by decide +kernel
theorem dX6_arrive_72 : decode cX6_arrive 72 = .ok (.iload_n 1, 1) := by decide +kernel
theorem dX6_arrive_73 : decode cX6_arrive 73 = .ok (.aload 5, 2) := by decide +kernel
theorem dX6_arrive_75 : decode cX6_arrive 75 = .ok (.iload 4, 2) := by decide +kernel
theorem dX6_arrive_77 : decode cX6_arrive 77 = .ok (.iload_n 3, 1) := by decide +kernel
theorem dX6_arrive_78 : decode cX6_arrive 78 = .ok (.invokevirtual 68, 3) := by decide +kernel
theorem dX6_arrive_81 : decode cX6_arrive 81 = .ok (.aload 5, 2) := by decide +kernel
theorem dX6_arrive_83 : decode cX6_arrive 83 = .ok (.iload 4, 2) := by decide +kernel
theorem dX6_arrive_85 : decode cX6_arrive 85 = .ok (.invokevirtual 72, 3) := by decide +kernel
theorem dX6_arrive_88 : decode cX6_arrive 88 = .ok (.ireturn, 1) := by decide +kernel
theorem dX6_feed_0 : decode cX6_feed 0 = .ok (.iload_n 1, 1) := by decide +kernel
theorem dX6_feed_1 : decode cX6_feed 1 = .ok (.invokestatic 48, 3) := by decide +kernel
theorem dX6_feed_4 : decode cX6_feed 4 = .ok (.ifCond .ne 5, 3) := by decide +kernel
theorem dX6_feed_7 : decode cX6_feed 7 = .ok (.iconst (-1), 1) := by decide +kernel
theorem dX6_feed_8 : decode cX6_feed 8 = .ok (.ireturn, 1) := by decide +kernel
theorem dX6_feed_9 : decode cX6_feed 9 = .ok (.aload_n 0, 1) := by decide +kernel
theorem dX6_feed_10 : decode cX6_feed 10 = .ok (.getfield 33, 3) := by decide +kernel
theorem dX6_feed_13 : decode cX6_feed 13 = .ok (.invokevirtual 76, 3) := by decide +kernel
theorem dX6_feed_16 : decode cX6_feed 16 = .ok (.istore_n 2, 1) := by decide +kernel
theorem dX6_feed_17 : decode cX6_feed 17 = .ok (.iload_n 2, 1) := by decide +kernel
theorem dX6_feed_18 : decode cX6_feed 18 = .ok (.iconst (-1), 1) := by decide +kernel
theorem dX6_feed_19 : decode cX6_feed 19 = .ok (.if_icmp .eq 8, 3) := by decide +kernel
theorem dX6_feed_22 : decode cX6_feed 22 = .ok (.bipush (-100), 2) := by decide +kernel
theorem dX6_feed_24 : decode cX6_feed 24 = .ok (.iload_n 2, 1) := by decide +kernel
theorem dX6_feed_25 : decode cX6_feed 25 = .ok (.isub, 1) := by decide +kernel
theorem dX6_feed_26 : decode cX6_feed 26 = .ok (.ireturn, 1) := by decide +kernel
theorem dX6_feed_27 : decode cX6_feed 27 = .ok (.aload_n 0, 1) := by decide +kernel
theorem dX6_feed_28 : decode cX6_feed 28 = .ok (.getfield 10, 3) := by decide +kernel
theorem dX6_feed_31 : decode cX6_feed 31 = .ok (.getfield 55, 3) := by decide +kernel
theorem dX6_feed_34 : decode cX6_feed 34 = .ok (.iload_n 1, 1) := by decide +kernel
theorem dX6_feed_35 : decode cX6_feed 35 = .ok (.aaload, 1) := by decide +kernel
theorem dX6_feed_36 : decode cX6_feed 36 = .ok (.astore_n 3, 1) := by decide +kernel
theorem dX6_feed_37 : decode cX6_feed 37 = .ok (.aload_n 3, 1) := by decide +kernel
theorem dX6_feed_38 : decode cX6_feed 38 = .ok (.getfield 59, 3) := by decide +kernel
theorem dX6_feed_41 : decode cX6_feed 41 = .ok (.aload_n 0, 1) := by decide +kernel
theorem dX6_feed_42 : decode cX6_feed 42 = .ok (.getfield 33, 3) := by decide +kernel
theorem dX6_feed_45 : decode cX6_feed 45 = .ok (.invokevirtual 80, 3) := by decide +kernel
theorem dX6_feed_48 : decode cX6_feed 48 = .ok (.iadd, 1) := by decide +kernel
theorem dX6_feed_49 : decode cX6_feed 49 = .ok (.ldc 63, 2) := by decide +kernel
theorem dX6_feed_51 : decode cX6_feed 51 = .ok (.if_icmp .le 6, 3) := by decide +kernel
theorem dX6_feed_54 : decode cX6_feed 54 = .ok (.bipush (-3), 2) := by decide +kernel
theorem dX6_feed_56 : decode cX6_feed 56 = .ok (.ireturn, 1) := by decide +kernel
theorem dX6_feed_57 : decode cX6_feed 57 = .ok (.aload_n 0, 1) := by decide +kernel
theorem dX6_feed_58 : decode cX6_feed 58 = .ok (.getfield 19, 3) := by decide +kernel
theorem dX6_feed_61 : decode cX6_feed 61 = .ok (.aload_n 0, 1) := by decide +kernel
theorem dX6_feed_62 : decode cX6_feed 62 = .ok (.getfield 10, 3) := by decide +kernel
theorem dX6_feed_65 : decode cX6_feed 65 = .ok (.invokevirtual 64, 3) := by decide +kernel
theorem dX6_feed_68 : decode cX6_feed 68 = .ok (.iconst 0, 1) := by decide +kernel
theorem dX6_feed_69 : decode cX6_feed 69 = .ok (.istore 4, 2) := by decide +kernel
theorem dX6_feed_71 : decode cX6_feed 71 = .ok (.iload 4, 2) := by decide +kernel
theorem dX6_feed_73 : decode cX6_feed 73 = .ok (.aload_n 0, 1) := by decide +kernel
theorem dX6_feed_74 : decode cX6_feed 74 = .ok (.getfield 33, 3) := by decide +kernel
theorem dX6_feed_77 : decode cX6_feed 77 = .ok (.getfield 83, 3) := by decide +kernel
theorem dX6_feed_80 : decode cX6_feed 80 = .ok (.if_icmp .ge 38, 3) := by decide +kernel
theorem dX6_feed_83 : decode cX6_feed 83 = .ok (.aload_n 0, 1) := by decide +kernel
theorem dX6_feed_84 : decode cX6_feed 84 = .ok (.getfield 10, 3) := by decide +kernel
theorem dX6_feed_87 : decode cX6_feed 87 = .ok (.iload_n 1, 1) := by decide +kernel
theorem dX6_feed_88 : decode cX6_feed 88 = .ok (.aload_n 3, 1) := by decide +kernel
theorem dX6_feed_89 : decode cX6_feed 89 = .ok (.aload_n 0, 1) := by decide +kernel
theorem dX6_feed_90 : decode cX6_feed 90 = .ok (.getfield 33, 3) := by decide +kernel
theorem dX6_feed_93 : decode cX6_feed 93 = .ok (.getfield 86, 3) := by decide +kernel
theorem dX6_feed_96 : decode cX6_feed 96 = .ok (.iload 4, 2) := by decide +kernel
theorem dX6_feed_98 : decode cX6_feed 98 = .ok (.iaload, 1) := by decide +kernel
theorem dX6_feed_99 : decode cX6_feed 99 = .ok (.aload_n 0, 1) := by decide +kernel
theorem dX6_feed_100 : decode cX6_feed 100 = .ok (.getfield 33, 3) := by decide +kernel
theorem dX6_feed_103 : decode cX6_feed 103 = .ok (.getfield 90, 3) := by decide +kernel
theorem dX6_feed_106 : decode cX6_feed 106 = .ok (.iload 4, 2) := by decide +kernel
theorem dX6_feed_108 : decode cX6_feed 108 = .ok (.iaload, 1) := by decide +kernel
theorem dX6_feed_109 : decode cX6_feed 109 = .ok (.invokevirtual 68, 3) := by decide +kernel
theorem dX6_feed_112 : decode cX6_feed 112 = .ok (.iinc 4 1, 3) := by decide +kernel
theorem dX6_feed_115 : decode cX6_feed 115 = .ok (.goto (-44), 3) := by decide +kernel
theorem dX6_feed_118 : decode cX6_feed 118 = .ok (.aload_n 0, 1) := by decide +kernel
theorem dX6_feed_119 : decode cX6_feed 119 = .ok (.getfield 33, 3) := by decide +kernel
theorem dX6_feed_122 : decode cX6_feed 122 = .ok (.getfield 83, 3) := by decide +kernel
theorem dX6_feed_125 : decode cX6_feed 125 = .ok (.ireturn, 1) := by decide +kernel
theorem dX6_flow_0 : decode cX6_flow 0 = .ok (.iload_n 1, 1) := by decide +kernel
theorem dX6_flow_1 : decode cX6_flow 1 = .ok (.invokestatic 44, 3) := by decide +kernel
theorem dX6_flow_4 : decode cX6_flow 4 = .ok (.istore_n 3, 1) := by decide +kernel
theorem dX6_flow_5 : decode cX6_flow 5 = .ok (.iload_n 3, 1) := by decide +kernel
theorem dX6_flow_6 : decode cX6_flow 6 = .ok (.iconst (-1), 1) := by decide +kernel
theorem dX6_flow_7 : decode cX6_flow 7 = .ok (.if_icmp .ne 5, 3) := by decide +kernel
theorem dX6_flow_10 : decode cX6_flow 10 = .ok (.iconst (-1), 1) := by decide +kernel
theorem dX6_flow_11 : decode cX6_flow 11 = .ok (.ireturn, 1) := by decide +kernel
theorem dX6_flow_12 : decode cX6_flow 12 = .ok (.iload_n 2, 1) := by decide +kernel
theorem dX6_flow_13 : decode cX6_flow 13 = .ok (.invokestatic 52, 3) := by decide +kernel
theorem dX6_flow_16 : decode cX6_flow 16 = .ok (.ifCond .ne 6, 3) := by decide +kernel
theorem dX6_flow_19 : decode cX6_flow 19 = .ok (.bipush (-2), 2) := by decide +kernel
theorem dX6_flow_21 : decode cX6_flow 21 = .ok (.ireturn, 1) := by decide +kernel
theorem dX6_flow_22 : decode cX6_flow 22 = .ok (.aload_n 0, 1) := by decide +kernel
theorem dX6_flow_23 : decode cX6_flow 23 = .ok (.getfield 19, 3) := by decide +kernel
theorem dX6_flow_26 : decode cX6_flow 26 = .ok (.aload_n 0, 1) := by decide +kernel
theorem dX6_flow_27 : decode cX6_flow 27 = .ok (.getfield 10, 3) := by decide +kernel
theorem dX6_flow_30 : decode cX6_flow 30 = .ok (.invokevirtual 64, 3) := by decide +kernel
theorem dX6_flow_33 : decode cX6_flow 33 = .ok (.aload_n 0, 1) := by decide +kernel
theorem dX6_flow_34 : decode cX6_flow 34 = .ok (.getfield 10, 3) := by decide +kernel
theorem dX6_flow_37 : decode cX6_flow 37 = .ok (.iload_n 3, 1) := by decide +kernel
theorem dX6_flow_38 : decode cX6_flow 38 = .ok (.iload_n 2, 1) := by decide +kernel
theorem dX6_flow_39 : decode cX6_flow 39 = .ok (.invokevirtual 93, 3) := by decide +kernel
theorem dX6_flow_42 : decode cX6_flow 42 = .ok (.aload_n 0, 1) := by decide +kernel
theorem dX6_flow_43 : decode cX6_flow 43 = .ok (.getfield 10, 3) := by decide +kernel
theorem dX6_flow_46 : decode cX6_flow 46 = .ok (.getfield 97, 3) := by decide +kernel
theorem dX6_flow_49 : decode cX6_flow 49 = .ok (.getfield 101, 3) := by decide +kernel
theorem dX6_flow_52 : decode cX6_flow 52 = .ok (.ireturn, 1) := by decide +kernel
theorem dX6_flowAll_0 : decode cX6_flowAll 0 = .ok (.aload_n 0, 1) := by decide +kernel
theorem dX6_flowAll_1 : decode cX6_flowAll 1 = .ok (.getfield 33, 3) := by decide +kernel
theorem dX6_flowAll_4 : decode cX6_flowAll 4 = .ok (.invokevirtual 76, 3) := by decide +kernel
theorem dX6_flowAll_7 : decode cX6_flowAll 7 = .ok (.istore_n 1, 1) := by decide +kernel
theorem dX6_flowAll_8 : decode cX6_flowAll 8 = .ok (.iload_n 1, 1) := by decide +kernel
theorem dX6_flowAll_9 : decode cX6_flowAll 9 = .ok (.iconst (-1), 1) := by decide +kernel
theorem dX6_flowAll_10 : decode cX6_flowAll 10 = .ok (.if_icmp .eq 8, 3) := by decide +kernel
theorem dX6_flowAll_13 : decode cX6_flowAll 13 = .ok (.bipush (-100), 2) := by decide +kernel
theorem dX6_flowAll_15 : decode cX6_flowAll 15 = .ok (.iload_n 1, 1) := by decide +kernel
theorem dX6_flowAll_16 : decode cX6_flowAll 16 = .ok (.isub, 1) := by decide +kernel
theorem dX6_flowAll_17 : decode cX6_flowAll 17 = .ok (.ireturn, 1) := by decide +kernel
theorem dX6_flowAll_18 : decode cX6_flowAll 18 = .ok (.aload_n 0, 1) := by decide +kernel
theorem dX6_flowAll_19 : decode cX6_flowAll 19 = .ok (.getfield 19, 3) := by decide +kernel
theorem dX6_flowAll_22 : decode cX6_flowAll 22 = .ok (.aload_n 0, 1) := by decide +kernel
theorem dX6_flowAll_23 : decode cX6_flowAll 23 = .ok (.getfield 10, 3) := by decide +kernel
theorem dX6_flowAll_26 : decode cX6_flowAll 26 = .ok (.invokevirtual 64, 3) := by decide +kernel
theorem dX6_flowAll_29 : decode cX6_flowAll 29 = .ok (.iconst 0, 1) := by decide +kernel
theorem dX6_flowAll_30 : decode cX6_flowAll 30 = .ok (.istore_n 2, 1) := by decide +kernel
theorem dX6_flowAll_31 : decode cX6_flowAll 31 = .ok (.iload_n 2, 1) := by decide +kernel
theorem dX6_flowAll_32 : decode cX6_flowAll 32 = .ok (.aload_n 0, 1) := by decide +kernel
theorem dX6_flowAll_33 : decode cX6_flowAll 33 = .ok (.getfield 33, 3) := by decide +kernel
theorem dX6_flowAll_36 : decode cX6_flowAll 36 = .ok (.getfield 83, 3) := by decide +kernel
theorem dX6_flowAll_39 : decode cX6_flowAll 39 = .ok (.if_icmp .ge 34, 3) := by decide +kernel
theorem dX6_flowAll_42 : decode cX6_flowAll 42 = .ok (.aload_n 0, 1) := by decide +kernel
theorem dX6_flowAll_43 : decode cX6_flowAll 43 = .ok (.getfield 10, 3) := by decide +kernel
theorem dX6_flowAll_46 : decode cX6_flowAll 46 = .ok (.aload_n 0, 1) := by decide +kernel
theorem dX6_flowAll_47 : decode cX6_flowAll 47 = .ok (.getfield 33, 3) := by decide +kernel
theorem dX6_flowAll_50 : decode cX6_flowAll 50 = .ok (.getfield 86, 3) := by decide +kernel
theorem dX6_flowAll_53 : decode cX6_flowAll 53 = .ok (.iload_n 2, 1) := by decide +kernel
theorem dX6_flowAll_54 : decode cX6_flowAll 54 = .ok (.iaload, 1) := by decide +kernel
theorem dX6_flowAll_55 : decode cX6_flowAll 55 = .ok (.aload_n 0, 1) := by decide +kernel
theorem dX6_flowAll_56 : decode cX6_flowAll 56 = .ok (.getfield 33, 3) := by decide +kernel
theorem dX6_flowAll_59 : decode cX6_flowAll 59 = .ok (.getfield 90, 3) := by decide +kernel
theorem dX6_flowAll_62 : decode cX6_flowAll 62 = .ok (.iload_n 2, 1) := by decide +kernel
theorem dX6_flowAll_63 : decode cX6_flowAll 63 = .ok (.iaload, 1) := by decide +kernel
theorem dX6_flowAll_64 : decode cX6_flowAll 64 = .ok (.invokevirtual 93, 3) := by decide +kernel
theorem dX6_flowAll_67 : decode cX6_flowAll 67 = .ok (.iinc 2 1, 3) := by decide +kernel
theorem dX6_flowAll_70 : decode cX6_flowAll 70 = .ok (.goto (-39), 3) := by decide +kernel
theorem dX6_flowAll_73 : decode cX6_flowAll 73 = .ok (.aload_n 0, 1) := by decide +kernel
theorem dX6_flowAll_74 : decode cX6_flowAll 74 = .ok (.getfield 33, 3) := by decide +kernel
theorem dX6_flowAll_77 : decode cX6_flowAll 77 = .ok (.getfield 83, 3) := by decide +kernel
theorem dX6_flowAll_80 : decode cX6_flowAll 80 = .ok (.ireturn, 1) := by decide +kernel
theorem dX6_merge_0 : decode cX6_merge 0 = .ok (.iload_n 1, 1) := by decide +kernel
theorem dX6_merge_1 : decode cX6_merge 1 = .ok (.invokestatic 48, 3) := by decide +kernel
theorem dX6_merge_4 : decode cX6_merge 4 = .ok (.ifCond .eq 10, 3) := by decide +kernel
theorem dX6_merge_7 : decode cX6_merge 7 = .ok (.iload_n 2, 1) := by decide +kernel
theorem dX6_merge_8 : decode cX6_merge 8 = .ok (.invokestatic 48, 3) := by decide +kernel
theorem dX6_merge_11 : decode cX6_merge 11 = .ok (.ifCond .ne 5, 3) := by decide +kernel
theorem dX6_merge_14 : decode cX6_merge 14 = .ok (.iconst (-1), 1) := by decide +kernel
theorem dX6_merge_15 : decode cX6_merge 15 = .ok (.ireturn, 1) := by decide +kernel
theorem dX6_merge_16 : decode cX6_merge 16 = .ok (.iload_n 1, 1) := by decide +kernel
theorem dX6_merge_17 : decode cX6_merge 17 = .ok (.iload_n 2, 1) := by decide +kernel
theorem dX6_merge_18 : decode cX6_merge 18 = .ok (.if_icmp .ne 6, 3) := by decide +kernel
theorem dX6_merge_21 : decode cX6_merge 21 = .ok (.bipush (-2), 2) := by decide +kernel
theorem dX6_merge_23 : decode cX6_merge 23 = .ok (.ireturn, 1) := by decide +kernel
theorem dX6_merge_24 : decode cX6_merge 24 = .ok (.aload_n 0, 1) := by decide +kernel
theorem dX6_merge_25 : decode cX6_merge 25 = .ok (.getfield 10, 3) := by decide +kernel
theorem dX6_merge_28 : decode cX6_merge 28 = .ok (.getfield 55, 3) := by decide +kernel
theorem dX6_merge_31 : decode cX6_merge 31 = .ok (.iload_n 1, 1) := by decide +kernel
theorem dX6_merge_32 : decode cX6_merge 32 = .ok (.aaload, 1) := by decide +kernel
theorem dX6_merge_33 : decode cX6_merge 33 = .ok (.getfield 59, 3) := by decide +kernel
theorem dX6_merge_36 : decode cX6_merge 36 = .ok (.aload_n 0, 1) := by decide +kernel
theorem dX6_merge_37 : decode cX6_merge 37 = .ok (.getfield 10, 3) := by decide +kernel
theorem dX6_merge_40 : decode cX6_merge 40 = .ok (.getfield 55, 3) := by decide +kernel
theorem dX6_merge_43 : decode cX6_merge 43 = .ok (.iload_n 2, 1) := by decide +kernel
theorem dX6_merge_44 : decode cX6_merge 44 = .ok (.aaload, 1) := by decide +kernel
theorem dX6_merge_45 : decode cX6_merge 45 = .ok (.getfield 59, 3) := by decide +kernel
theorem dX6_merge_48 : decode cX6_merge 48 = .ok (.iadd, 1) := by decide +kernel
theorem dX6_merge_49 : decode cX6_merge 49 = .ok (.ldc 63, 2) := by decide +kernel
theorem dX6_merge_51 : decode cX6_merge 51 = .ok (.if_icmp .le 6, 3) := by decide +kernel
theorem dX6_merge_54 : decode cX6_merge 54 = .ok (.bipush (-3), 2) := by decide +kernel
theorem dX6_merge_56 : decode cX6_merge 56 = .ok (.ireturn, 1) := by decide +kernel
theorem dX6_merge_57 : decode cX6_merge 57 = .ok (.aload_n 0, 1) := by decide +kernel
theorem dX6_merge_58 : decode cX6_merge 58 = .ok (.getfield 19, 3) := by decide +kernel
theorem dX6_merge_61 : decode cX6_merge 61 = .ok (.aload_n 0, 1) := by decide +kernel
theorem dX6_merge_62 : decode cX6_merge 62 = .ok (.getfield 10, 3) := by decide +kernel
theorem dX6_merge_65 : decode cX6_merge 65 = .ok (.invokevirtual 64, 3) := by decide +kernel
theorem dX6_merge_68 : decode cX6_merge 68 = .ok (.aload_n 0, 1) := by decide +kernel
theorem dX6_merge_69 : decode cX6_merge 69 = .ok (.getfield 10, 3) := by decide +kernel
theorem dX6_merge_72 : decode cX6_merge 72 = .ok (.iload_n 1, 1) := by decide +kernel
theorem dX6_merge_73 : decode cX6_merge 73 = .ok (.iload_n 2, 1) := by decide +kernel
theorem dX6_merge_74 : decode cX6_merge 74 = .ok (.invokevirtual 104, 3) := by decide +kernel
theorem dX6_merge_77 : decode cX6_merge 77 = .ok (.ireturn, 1) := by decide +kernel
theorem dX6_copy_0 : decode cX6_copy 0 = .ok (.iload_n 1, 1) := by decide +kernel
theorem dX6_copy_1 : decode cX6_copy 1 = .ok (.invokestatic 48, 3) := by decide +kernel
theorem dX6_copy_4 : decode cX6_copy 4 = .ok (.ifCond .eq 10, 3) := by decide +kernel
theorem dX6_copy_7 : decode cX6_copy 7 = .ok (.iload_n 2, 1) := by decide +kernel
theorem dX6_copy_8 : decode cX6_copy 8 = .ok (.invokestatic 48, 3) := by decide +kernel
theorem dX6_copy_11 : decode cX6_copy 11 = .ok (.ifCond .ne 5, 3) := by decide +kernel
theorem dX6_copy_14 : decode cX6_copy 14 = .ok (.iconst (-1), 1) := by decide +kernel
theorem dX6_copy_15 : decode cX6_copy 15 = .ok (.ireturn, 1) := by decide +kernel
theorem dX6_copy_16 : decode cX6_copy 16 = .ok (.iload_n 1, 1) := by decide +kernel
theorem dX6_copy_17 : decode cX6_copy 17 = .ok (.iload_n 2, 1) := by decide +kernel
theorem dX6_copy_18 : decode cX6_copy 18 = .ok (.if_icmp .ne 6, 3) := by decide +kernel
theorem dX6_copy_21 : decode cX6_copy 21 = .ok (.bipush (-2), 2) := by decide +kernel
theorem dX6_copy_23 : decode cX6_copy 23 = .ok (.ireturn, 1) := by decide +kernel
theorem dX6_copy_24 : decode cX6_copy 24 = .ok (.aload_n 0, 1) := by decide +kernel
theorem dX6_copy_25 : decode cX6_copy 25 = .ok (.getfield 19, 3) := by decide +kernel
theorem dX6_copy_28 : decode cX6_copy 28 = .ok (.aload_n 0, 1) := by decide +kernel
theorem dX6_copy_29 : decode cX6_copy 29 = .ok (.getfield 10, 3) := by decide +kernel
theorem dX6_copy_32 : decode cX6_copy 32 = .ok (.invokevirtual 64, 3) := by decide +kernel
theorem dX6_copy_35 : decode cX6_copy 35 = .ok (.aload_n 0, 1) := by decide +kernel
theorem dX6_copy_36 : decode cX6_copy 36 = .ok (.getfield 10, 3) := by decide +kernel
theorem dX6_copy_39 : decode cX6_copy 39 = .ok (.getfield 55, 3) := by decide +kernel
theorem dX6_copy_42 : decode cX6_copy 42 = .ok (.iload_n 1, 1) := by decide +kernel
theorem dX6_copy_43 : decode cX6_copy 43 = .ok (.aaload, 1) := by decide +kernel
theorem dX6_copy_44 : decode cX6_copy 44 = .ok (.aload_n 0, 1) := by decide +kernel
theorem dX6_copy_45 : decode cX6_copy 45 = .ok (.getfield 10, 3) := by decide +kernel
theorem dX6_copy_48 : decode cX6_copy 48 = .ok (.getfield 55, 3) := by decide +kernel
theorem dX6_copy_51 : decode cX6_copy 51 = .ok (.iload_n 2, 1) := by decide +kernel
theorem dX6_copy_52 : decode cX6_copy 52 = .ok (.aaload, 1) := by decide +kernel
theorem dX6_copy_53 : decode cX6_copy 53 = .ok (.invokevirtual 108, 3) := by decide +kernel
theorem dX6_copy_56 : decode cX6_copy 56 = .ok (.aload_n 0, 1) := by decide +kernel
theorem dX6_copy_57 : decode cX6_copy 57 = .ok (.getfield 10, 3) := by decide +kernel
theorem dX6_copy_60 : decode cX6_copy 60 = .ok (.getfield 55, 3) := by decide +kernel
theorem dX6_copy_63 : decode cX6_copy 63 = .ok (.iload_n 1, 1) := by decide +kernel
theorem dX6_copy_64 : decode cX6_copy 64 = .ok (.aaload, 1) := by decide +kernel
theorem dX6_copy_65 : decode cX6_copy 65 = .ok (.invokevirtual 112, 3) := by decide +kernel
theorem dX6_copy_68 : decode cX6_copy 68 = .ok (.ireturn, 1) := by decide +kernel
theorem dX6_setSize_0 : decode cX6_setSize 0 = .ok (.iload_n 1, 1) := by decide +kernel
theorem dX6_setSize_1 : decode cX6_setSize 1 = .ok (.invokestatic 48, 3) := by decide +kernel
theorem dX6_setSize_4 : decode cX6_setSize 4 = .ok (.ifCond .ne 5, 3) := by decide +kernel
theorem dX6_setSize_7 : decode cX6_setSize 7 = .ok (.iconst (-1), 1) := by decide +kernel
theorem dX6_setSize_8 : decode cX6_setSize 8 = .ok (.ireturn, 1) := by decide +kernel
theorem dX6_setSize_9 : decode cX6_setSize 9 = .ok (.iload_n 2, 1) := by decide +kernel
theorem dX6_setSize_10 : decode cX6_setSize 10 = .ok (.iconst 2, 1) := by decide +kernel
theorem dX6_setSize_11 : decode cX6_setSize 11 = .ok (.if_icmp .lt 9, 3) := by decide +kernel
theorem dX6_setSize_14 : decode cX6_setSize 14 = .ok (.iload_n 2, 1) := by decide +kernel
theorem dX6_setSize_15 : decode cX6_setSize 15 = .ok (.bipush 10, 2) := by decide +kernel
theorem dX6_setSize_17 : decode cX6_setSize 17 = .ok (.if_icmp .le 6, 3) := by decide +kernel
theorem dX6_setSize_20 : decode cX6_setSize 20 = .ok (.bipush (-2), 2) := by decide +kernel
theorem dX6_setSize_22 : decode cX6_setSize 22 = .ok (.ireturn, 1) := by decide +kernel
theorem dX6_setSize_23 : decode cX6_setSize 23 = .ok (.aload_n 0, 1) := by decide +kernel
theorem dX6_setSize_24 : decode cX6_setSize 24 = .ok (.getfield 10, 3) := by decide +kernel
theorem dX6_setSize_27 : decode cX6_setSize 27 = .ok (.getfield 55, 3) := by decide +kernel
theorem dX6_setSize_30 : decode cX6_setSize 30 = .ok (.iload_n 1, 1) := by decide +kernel
theorem dX6_setSize_31 : decode cX6_setSize 31 = .ok (.aaload, 1) := by decide +kernel
theorem dX6_setSize_32 : decode cX6_setSize 32 = .ok (.getfield 115, 3) := by decide +kernel
theorem dX6_setSize_35 : decode cX6_setSize 35 = .ok (.iload_n 2, 1) := by decide +kernel
theorem dX6_setSize_36 : decode cX6_setSize 36 = .ok (.if_icmp .ne 6, 3) := by decide +kernel
theorem dX6_setSize_39 : decode cX6_setSize 39 = .ok (.bipush (-5), 2) := by decide +kernel
theorem dX6_setSize_41 : decode cX6_setSize 41 = .ok (.ireturn, 1) := by decide +kernel
theorem dX6_setSize_42 : decode cX6_setSize 42 = .ok (.aload_n 0, 1) := by decide +kernel
theorem dX6_setSize_43 : decode cX6_setSize 43 = .ok (.getfield 19, 3) := by decide +kernel
theorem dX6_setSize_46 : decode cX6_setSize 46 = .ok (.aload_n 0, 1) := by decide +kernel
theorem dX6_setSize_47 : decode cX6_setSize 47 = .ok (.getfield 10, 3) := by decide +kernel
theorem dX6_setSize_50 : decode cX6_setSize 50 = .ok (.invokevirtual 64, 3) := by decide +kernel
theorem dX6_setSize_53 : decode cX6_setSize 53 = .ok (.aload_n 0, 1) := by decide +kernel
theorem dX6_setSize_54 : decode cX6_setSize 54 = .ok (.getfield 10, 3) := by decide +kernel
theorem dX6_setSize_57 : decode cX6_setSize 57 = .ok (.iload_n 1, 1) := by decide +kernel
theorem dX6_setSize_58 : decode cX6_setSize 58 = .ok (.iload_n 2, 1) := by decide +kernel
theorem dX6_setSize_59 : decode cX6_setSize 59 = .ok (.invokevirtual 118, 3) := by decide +kernel
theorem dX6_setSize_62 : decode cX6_setSize 62 = .ok (.ireturn, 1) := by decide +kernel
theorem dX6_clear_0 : decode cX6_clear 0 = .ok (.iload_n 1, 1) := by decide +kernel
theorem dX6_clear_1 : decode cX6_clear 1 = .ok (.invokestatic 48, 3) := by decide +kernel
theorem dX6_clear_4 : decode cX6_clear 4 = .ok (.ifCond .ne 5, 3) := by decide +kernel
theorem dX6_clear_7 : decode cX6_clear 7 = .ok (.iconst (-1), 1) := by decide +kernel
theorem dX6_clear_8 : decode cX6_clear 8 = .ok (.ireturn, 1) := by decide +kernel
theorem dX6_clear_9 : decode cX6_clear 9 = .ok (.aload_n 0, 1) := by decide +kernel
theorem dX6_clear_10 : decode cX6_clear 10 = .ok (.getfield 10, 3) := by decide +kernel
theorem dX6_clear_13 : decode cX6_clear 13 = .ok (.getfield 55, 3) := by decide +kernel
theorem dX6_clear_16 : decode cX6_clear 16 = .ok (.iload_n 1, 1) := by decide +kernel
theorem dX6_clear_17 : decode cX6_clear 17 = .ok (.aaload, 1) := by decide +kernel
theorem dX6_clear_18 : decode cX6_clear 18 = .ok (.getfield 59, 3) := by decide +kernel
theorem dX6_clear_21 : decode cX6_clear 21 = .ok (.istore_n 2, 1) := by decide +kernel
theorem dX6_clear_22 : decode cX6_clear 22 = .ok (.iload_n 2, 1) := by decide +kernel
theorem dX6_clear_23 : decode cX6_clear 23 = .ok (.ifCond .ne 6, 3) := by decide +kernel
theorem dX6_clear_26 : decode cX6_clear 26 = .ok (.bipush (-5), 2) := by decide +kernel
theorem dX6_clear_28 : decode cX6_clear 28 = .ok (.ireturn, 1) := by decide +kernel
theorem dX6_clear_29 : decode cX6_clear 29 = .ok (.aload_n 0, 1) := by decide +kernel
theorem dX6_clear_30 : decode cX6_clear 30 = .ok (.getfield 19, 3) := by decide +kernel
theorem dX6_clear_33 : decode cX6_clear 33 = .ok (.aload_n 0, 1) := by decide +kernel
theorem dX6_clear_34 : decode cX6_clear 34 = .ok (.getfield 10, 3) := by decide +kernel
theorem dX6_clear_37 : decode cX6_clear 37 = .ok (.invokevirtual 64, 3) := by decide +kernel
theorem dX6_clear_40 : decode cX6_clear 40 = .ok (.aload_n 0, 1) := by decide +kernel
theorem dX6_clear_41 : decode cX6_clear 41 = .ok (.getfield 10, 3) := by decide +kernel
theorem dX6_clear_44 : decode cX6_clear 44 = .ok (.getfield 55, 3) := by decide +kernel
theorem dX6_clear_47 : decode cX6_clear 47 = .ok (.iload_n 1, 1) := by decide +kernel
theorem dX6_clear_48 : decode cX6_clear 48 = .ok (.aaload, 1) := by decide +kernel
theorem dX6_clear_49 : decode cX6_clear 49 = .ok (.invokevirtual 121, 3) := by decide +kernel
theorem dX6_clear_52 : decode cX6_clear 52 = .ok (.iload_n 2, 1) := by decide +kernel
theorem dX6_clear_53 : decode cX6_clear 53 = .ok (.ireturn, 1) := by decide +kernel
theorem dX6_type_0 : decode cX6_type 0 = .ok (.aload_n 0, 1) := by decide +kernel
theorem dX6_type_1 : decode cX6_type 1 = .ok (.getfield 33, 3) := by decide +kernel
theorem dX6_type_4 : decode cX6_type 4 = .ok (.getfield 124, 3) := by decide +kernel
theorem dX6_type_7 : decode cX6_type 7 = .ok (.bipush 60, 2) := by decide +kernel
theorem dX6_type_9 : decode cX6_type 9 = .ok (.if_icmp .lt 6, 3) := by decide +kernel
theorem dX6_type_12 : decode cX6_type 12 = .ok (.bipush (-3), 2) := by decide +kernel
theorem dX6_type_14 : decode cX6_type 14 = .ok (.ireturn, 1) := by decide +kernel
theorem dX6_type_15 : decode cX6_type 15 = .ok (.aload_n 0, 1) := by decide +kernel
theorem dX6_type_16 : decode cX6_type 16 = .ok (.getfield 33, 3) := by decide +kernel
theorem dX6_type_19 : decode cX6_type 19 = .ok (.iload_n 1, 1) := by decide +kernel
theorem dX6_type_20 : decode cX6_type 20 = .ok (.invokevirtual 127, 3) := by decide +kernel
theorem dX6_type_23 : decode cX6_type 23 = .ok (.aload_n 0, 1) := by decide +kernel
theorem dX6_type_24 : decode cX6_type 24 = .ok (.getfield 33, 3) := by decide +kernel
theorem dX6_type_27 : decode cX6_type 27 = .ok (.getfield 124, 3) := by decide +kernel
theorem dX6_type_30 : decode cX6_type 30 = .ok (.ireturn, 1) := by decide +kernel
theorem dX6_clearText_0 : decode cX6_clearText 0 = .ok (.aload_n 0, 1) := by decide +kernel
theorem dX6_clearText_1 : decode cX6_clearText 1 = .ok (.getfield 33, 3) := by decide +kernel
theorem dX6_clearText_4 : decode cX6_clearText 4 = .ok (.getfield 124, 3) := by decide +kernel
theorem dX6_clearText_7 : decode cX6_clearText 7 = .ok (.istore_n 1, 1) := by decide +kernel
theorem dX6_clearText_8 : decode cX6_clearText 8 = .ok (.aload_n 0, 1) := by decide +kernel
theorem dX6_clearText_9 : decode cX6_clearText 9 = .ok (.getfield 33, 3) := by decide +kernel
theorem dX6_clearText_12 : decode cX6_clearText 12 = .ok (.iconst 0, 1) := by decide +kernel
theorem dX6_clearText_13 : decode cX6_clearText 13 = .ok (.putfield 124, 3) := by decide +kernel
theorem dX6_clearText_16 : decode cX6_clearText 16 = .ok (.iload_n 1, 1) := by decide +kernel
theorem dX6_clearText_17 : decode cX6_clearText 17 = .ok (.ireturn, 1) := by decide +kernel
theorem dX6_perform_0 : decode cX6_perform 0 = .ok (.aload_n 0, 1) := by decide +kernel
theorem dX6_perform_1 : decode cX6_perform 1 = .ok (.getfield 33, 3) := by decide +kernel
theorem dX6_perform_4 : decode cX6_perform 4 = .ok (.invokevirtual 131, 3) := by decide +kernel
theorem dX6_perform_7 : decode cX6_perform 7 = .ok (.istore_n 1, 1) := by decide +kernel
theorem dX6_perform_8 : decode cX6_perform 8 = .ok (.iload_n 1, 1) := by decide +kernel
theorem dX6_perform_9 : decode cX6_perform 9 = .ok (.iconst (-1), 1) := by decide +kernel
theorem dX6_perform_10 : decode cX6_perform 10 = .ok (.if_icmp .eq 8, 3) := by decide +kernel
theorem dX6_perform_13 : decode cX6_perform 13 = .ok (.bipush (-100), 2) := by decide +kernel
theorem dX6_perform_15 : decode cX6_perform 15 = .ok (.iload_n 1, 1) := by decide +kernel
theorem dX6_perform_16 : decode cX6_perform 16 = .ok (.isub, 1) := by decide +kernel
theorem dX6_perform_17 : decode cX6_perform 17 = .ok (.ireturn, 1) := by decide +kernel
theorem dX6_perform_18 : decode cX6_perform 18 = .ok (.aload_n 0, 1) := by decide +kernel
theorem dX6_perform_19 : decode cX6_perform 19 = .ok (.getfield 33, 3) := by decide +kernel
theorem dX6_perform_22 : decode cX6_perform 22 = .ok (.getfield 134, 3) := by decide +kernel
theorem dX6_perform_25 : decode cX6_perform 25 = .ok (.tableswitch 84 1 3 #[27, 46, 65], 27) := by decide +kernel
theorem dX6_perform_52 : decode cX6_perform 52 = .ok (.aload_n 0, 1) := by decide +kernel
theorem dX6_perform_53 : decode cX6_perform 53 = .ok (.aload_n 0, 1) := by decide +kernel
theorem dX6_perform_54 : decode cX6_perform 54 = .ok (.getfield 33, 3) := by decide +kernel
theorem dX6_perform_57 : decode cX6_perform 57 = .ok (.getfield 137, 3) := by decide +kernel
theorem dX6_perform_60 : decode cX6_perform 60 = .ok (.aload_n 0, 1) := by decide +kernel
theorem dX6_perform_61 : decode cX6_perform 61 = .ok (.getfield 33, 3) := by decide +kernel
theorem dX6_perform_64 : decode cX6_perform 64 = .ok (.getfield 140, 3) := by decide +kernel
theorem dX6_perform_67 : decode cX6_perform 67 = .ok (.invokevirtual 143, 3) := by decide +kernel
theorem dX6_perform_70 : decode cX6_perform 70 = .ok (.ireturn, 1) := by decide +kernel
theorem dX6_perform_71 : decode cX6_perform 71 = .ok (.aload_n 0, 1) := by decide +kernel
theorem dX6_perform_72 : decode cX6_perform 72 = .ok (.aload_n 0, 1) := by decide +kernel
theorem dX6_perform_73 : decode cX6_perform 73 = .ok (.getfield 33, 3) := by decide +kernel
theorem dX6_perform_76 : decode cX6_perform 76 = .ok (.getfield 137, 3) := by decide +kernel
theorem dX6_perform_79 : decode cX6_perform 79 = .ok (.aload_n 0, 1) := by decide +kernel
theorem dX6_perform_80 : decode cX6_perform 80 = .ok (.getfield 33, 3) := by decide +kernel
theorem dX6_perform_83 : decode cX6_perform 83 = .ok (.getfield 140, 3) := by decide +kernel
theorem dX6_perform_86 : decode cX6_perform 86 = .ok (.invokevirtual 146, 3) := by decide +kernel
theorem dX6_perform_89 : decode cX6_perform 89 = .ok (.ireturn, 1) := by decide +kernel
theorem dX6_perform_90 : decode cX6_perform 90 = .ok (.aload_n 0, 1) := by decide +kernel
theorem dX6_perform_91 : decode cX6_perform 91 = .ok (.aload_n 0, 1) := by decide +kernel
theorem dX6_perform_92 : decode cX6_perform 92 = .ok (.getfield 33, 3) := by decide +kernel
theorem dX6_perform_95 : decode cX6_perform 95 = .ok (.getfield 137, 3) := by decide +kernel
theorem dX6_perform_98 : decode cX6_perform 98 = .ok (.aload_n 0, 1) := by decide +kernel
theorem dX6_perform_99 : decode cX6_perform 99 = .ok (.getfield 33, 3) := by decide +kernel
theorem dX6_perform_102 : decode cX6_perform 102 = .ok (.getfield 140, 3) := by decide +kernel
theorem dX6_perform_105 : decode cX6_perform 105 = .ok (.invokevirtual 149, 3) := by decide +kernel
theorem dX6_perform_108 : decode cX6_perform 108 = .ok (.ireturn, 1) := by decide +kernel
theorem dX6_perform_109 : decode cX6_perform 109 = .ok (.aload_n 0, 1) := by decide +kernel
theorem dX6_perform_110 : decode cX6_perform 110 = .ok (.aload_n 0, 1) := by decide +kernel
theorem dX6_perform_111 : decode cX6_perform 111 = .ok (.getfield 33, 3) := by decide +kernel
theorem dX6_perform_114 : decode cX6_perform 114 = .ok (.getfield 137, 3) := by decide +kernel
theorem dX6_perform_117 : decode cX6_perform 117 = .ok (.invokevirtual 152, 3) := by decide +kernel
theorem dX6_perform_120 : decode cX6_perform 120 = .ok (.ireturn, 1) := by decide +kernel
theorem dX6_undo_0 : decode cX6_undo 0 = .ok (.aload_n 0, 1) := by decide +kernel
theorem dX6_undo_1 : decode cX6_undo 1 = .ok (.getfield 19, 3) := by decide +kernel
theorem dX6_undo_4 : decode cX6_undo 4 = .ok (.getfield 155, 3) := by decide +kernel
theorem dX6_undo_7 : decode cX6_undo 7 = .ok (.ifCond .ne 6, 3) := by decide +kernel
theorem dX6_undo_10 : decode cX6_undo 10 = .ok (.bipush (-5), 2) := by decide +kernel
theorem dX6_undo_12 : decode cX6_undo 12 = .ok (.ireturn, 1) := by decide +kernel
theorem dX6_undo_13 : decode cX6_undo 13 = .ok (.aload_n 0, 1) := by decide +kernel
theorem dX6_undo_14 : decode cX6_undo 14 = .ok (.getfield 19, 3) := by decide +kernel
theorem dX6_undo_17 : decode cX6_undo 17 = .ok (.aload_n 0, 1) := by decide +kernel
theorem dX6_undo_18 : decode cX6_undo 18 = .ok (.getfield 10, 3) := by decide +kernel
theorem dX6_undo_21 : decode cX6_undo 21 = .ok (.invokevirtual 158, 3) := by decide +kernel
theorem dX6_undo_24 : decode cX6_undo 24 = .ok (.aload_n 0, 1) := by decide +kernel
theorem dX6_undo_25 : decode cX6_undo 25 = .ok (.getfield 19, 3) := by decide +kernel
theorem dX6_undo_28 : decode cX6_undo 28 = .ok (.getfield 155, 3) := by decide +kernel
theorem dX6_undo_31 : decode cX6_undo 31 = .ok (.ireturn, 1) := by decide +kernel
theorem dX6_keep_0 : decode cX6_keep 0 = .ok (.aload_n 0, 1) := by decide +kernel
theorem dX6_keep_1 : decode cX6_keep 1 = .ok (.getfield 23, 3) := by decide +kernel
theorem dX6_keep_4 : decode cX6_keep 4 = .ok (.aload_n 0, 1) := by decide +kernel
theorem dX6_keep_5 : decode cX6_keep 5 = .ok (.getfield 10, 3) := by decide +kernel
theorem dX6_keep_8 : decode cX6_keep 8 = .ok (.invokevirtual 161, 3) := by decide +kernel
theorem dX6_keep_11 : decode cX6_keep 11 = .ok (.aload_n 0, 1) := by decide +kernel
theorem dX6_keep_12 : decode cX6_keep 12 = .ok (.iconst 1, 1) := by decide +kernel
theorem dX6_keep_13 : decode cX6_keep 13 = .ok (.putfield 26, 3) := by decide +kernel
theorem dX6_keep_16 : decode cX6_keep 16 = .ok (.aload_n 0, 1) := by decide +kernel
theorem dX6_keep_17 : decode cX6_keep 17 = .ok (.getfield 10, 3) := by decide +kernel
theorem dX6_keep_20 : decode cX6_keep 20 = .ok (.getfield 163, 3) := by decide +kernel
theorem dX6_keep_23 : decode cX6_keep 23 = .ok (.ireturn, 1) := by decide +kernel
theorem dX6_restore_0 : decode cX6_restore 0 = .ok (.aload_n 0, 1) := by decide +kernel
theorem dX6_restore_1 : decode cX6_restore 1 = .ok (.getfield 26, 3) := by decide +kernel
theorem dX6_restore_4 : decode cX6_restore 4 = .ok (.ifCond .ne 6, 3) := by decide +kernel
theorem dX6_restore_7 : decode cX6_restore 7 = .ok (.bipush (-5), 2) := by decide +kernel
theorem dX6_restore_9 : decode cX6_restore 9 = .ok (.ireturn, 1) := by decide +kernel
theorem dX6_restore_10 : decode cX6_restore 10 = .ok (.aload_n 0, 1) := by decide +kernel
theorem dX6_restore_11 : decode cX6_restore 11 = .ok (.getfield 19, 3) := by decide +kernel
theorem dX6_restore_14 : decode cX6_restore 14 = .ok (.aload_n 0, 1) := by decide +kernel
theorem dX6_restore_15 : decode cX6_restore 15 = .ok (.getfield 10, 3) := by decide +kernel
theorem dX6_restore_18 : decode cX6_restore 18 = .ok (.invokevirtual 64, 3) := by decide +kernel
theorem dX6_restore_21 : decode cX6_restore 21 = .ok (.aload_n 0, 1) := by decide +kernel
theorem dX6_restore_22 : decode cX6_restore 22 = .ok (.getfield 10, 3) := by decide +kernel
theorem dX6_restore_25 : decode cX6_restore 25 = .ok (.aload_n 0, 1) := by decide +kernel
theorem dX6_restore_26 : decode cX6_restore 26 = .ok (.getfield 23, 3) := by decide +kernel
theorem dX6_restore_29 : decode cX6_restore 29 = .ok (.invokevirtual 161, 3) := by decide +kernel
theorem dX6_restore_32 : decode cX6_restore 32 = .ok (.aload_n 0, 1) := by decide +kernel
theorem dX6_restore_33 : decode cX6_restore 33 = .ok (.getfield 10, 3) := by decide +kernel
theorem dX6_restore_36 : decode cX6_restore 36 = .ok (.getfield 163, 3) := by decide +kernel
theorem dX6_restore_39 : decode cX6_restore 39 = .ok (.ireturn, 1) := by decide +kernel
theorem dX6_summary_0 : decode cX6_summary 0 = .ok (.aload_n 0, 1) := by decide +kernel
theorem dX6_summary_1 : decode cX6_summary 1 = .ok (.iload_n 1, 1) := by decide +kernel
theorem dX6_summary_2 : decode cX6_summary 2 = .ok (.invokevirtual 166, 3) := by decide +kernel
theorem dX6_summary_5 : decode cX6_summary 5 = .ok (.astore_n 3, 1) := by decide +kernel
theorem dX6_summary_6 : decode cX6_summary 6 = .ok (.aload_n 3, 1) := by decide +kernel
theorem dX6_summary_7 : decode cX6_summary 7 = .ok (.ifnonnull 5, 3) := by decide +kernel
theorem dX6_summary_10 : decode cX6_summary 10 = .ok (.iconst (-1), 1) := by decide +kernel
theorem dX6_summary_11 : decode cX6_summary 11 = .ok (.ireturn, 1) := by decide +kernel
theorem dX6_summary_12 : decode cX6_summary 12 = .ok (.iload_n 2, 1) := by decide +kernel
theorem dX6_summary_13 : decode cX6_summary 13 = .ok (.tableswitch 78 0 6 #[43, 48, 53, 58, 63, 68, 73], 43) := by decide +kernel
theorem dX6_summary_56 : decode cX6_summary 56 = .ok (.aload_n 3, 1) := by decide +kernel
theorem dX6_summary_57 : decode cX6_summary 57 = .ok (.getfield 115, 3) := by decide +kernel
theorem dX6_summary_60 : decode cX6_summary 60 = .ok (.ireturn, 1) := by decide +kernel
theorem dX6_summary_61 : decode cX6_summary 61 = .ok (.aload_n 3, 1) := by decide +kernel
theorem dX6_summary_62 : decode cX6_summary 62 = .ok (.invokevirtual 112, 3) := by decide +kernel
theorem dX6_summary_65 : decode cX6_summary 65 = .ok (.ireturn, 1) := by decide +kernel
theorem dX6_summary_66 : decode cX6_summary 66 = .ok (.aload_n 3, 1) := by decide +kernel
theorem dX6_summary_67 : decode cX6_summary 67 = .ok (.getfield 170, 3) := by decide +kernel
theorem dX6_summary_70 : decode cX6_summary 70 = .ok (.ireturn, 1) := by decide +kernel
theorem dX6_summary_71 : decode cX6_summary 71 = .ok (.aload_n 3, 1) := by decide +kernel
theorem dX6_summary_72 : decode cX6_summary 72 = .ok (.getfield 59, 3) := by decide +kernel
theorem dX6_summary_75 : decode cX6_summary 75 = .ok (.ireturn, 1) := by decide +kernel
theorem dX6_summary_76 : decode cX6_summary 76 = .ok (.aload_n 3, 1) := by decide +kernel
theorem dX6_summary_77 : decode cX6_summary 77 = .ok (.invokevirtual 173, 3) := by decide +kernel
theorem dX6_summary_80 : decode cX6_summary 80 = .ok (.ireturn, 1) := by decide +kernel
theorem dX6_summary_81 : decode cX6_summary 81 = .ok (.aload_n 3, 1) := by decide +kernel
theorem dX6_summary_82 : decode cX6_summary 82 = .ok (.invokevirtual 176, 3) := by decide +kernel
theorem dX6_summary_85 : decode cX6_summary 85 = .ok (.ireturn, 1) := by decide +kernel
theorem dX6_summary_86 : decode cX6_summary 86 = .ok (.aload_n 3, 1) := by decide +kernel
theorem dX6_summary_87 : decode cX6_summary 87 = .ok (.getfield 179, 3) := by decide +kernel
theorem dX6_summary_90 : decode cX6_summary 90 = .ok (.ireturn, 1) := by decide +kernel
theorem dX6_summary_91 : decode cX6_summary 91 = .ok (.bipush (-2), 2) := by decide +kernel
theorem dX6_summary_93 : decode cX6_summary 93 = .ok (.ireturn, 1) := by decide +kernel
theorem dX6_bound_0 : decode cX6_bound 0 = .ok (.aload_n 0, 1) := by decide +kernel
theorem dX6_bound_1 : decode cX6_bound 1 = .ok (.iload_n 1, 1) := by decide +kernel
theorem dX6_bound_2 : decode cX6_bound 2 = .ok (.invokevirtual 166, 3) := by decide +kernel
theorem dX6_bound_5 : decode cX6_bound 5 = .ok (.astore 4, 2) := by decide +kernel
theorem dX6_bound_7 : decode cX6_bound 7 = .ok (.iload_n 2, 1) := by decide +kernel
theorem dX6_bound_8 : decode cX6_bound 8 = .ok (.invokestatic 44, 3) := by decide +kernel
theorem dX6_bound_11 : decode cX6_bound 11 = .ok (.istore 5, 2) := by decide +kernel
theorem dX6_bound_13 : decode cX6_bound 13 = .ok (.aload 4, 2) := by decide +kernel
theorem dX6_bound_15 : decode cX6_bound 15 = .ok (.ifnull 9, 3) := by decide +kernel
theorem dX6_bound_18 : decode cX6_bound 18 = .ok (.iload 5, 2) := by decide +kernel
theorem dX6_bound_20 : decode cX6_bound 20 = .ok (.iconst (-1), 1) := by decide +kernel
theorem dX6_bound_21 : decode cX6_bound 21 = .ok (.if_icmp .ne 5, 3) := by decide +kernel
theorem dX6_bound_24 : decode cX6_bound 24 = .ok (.iconst (-1), 1) := by decide +kernel
theorem dX6_bound_25 : decode cX6_bound 25 = .ok (.ireturn, 1) := by decide +kernel
theorem dX6_bound_26 : decode cX6_bound 26 = .ok (.iload_n 3, 1) := by decide +kernel
theorem dX6_bound_27 : decode cX6_bound 27 = .ok (.tableswitch 106 0 4 #[33, 41, 49, 58, 82], 33) := by decide +kernel
theorem dX6_bound_60 : decode cX6_bound 60 = .ok (.aload 4, 2) := by decide +kernel
theorem dX6_bound_62 : decode cX6_bound 62 = .ok (.iload 5, 2) := by decide +kernel
theorem dX6_bound_64 : decode cX6_bound 64 = .ok (.invokevirtual 72, 3) := by decide +kernel
theorem dX6_bound_67 : decode cX6_bound 67 = .ok (.ireturn, 1) := by decide +kernel
theorem dX6_bound_68 : decode cX6_bound 68 = .ok (.aload 4, 2) := by decide +kernel
theorem dX6_bound_70 : decode cX6_bound 70 = .ok (.iload 5, 2) := by decide +kernel
theorem dX6_bound_72 : decode cX6_bound 72 = .ok (.invokevirtual 182, 3) := by decide +kernel
theorem dX6_bound_75 : decode cX6_bound 75 = .ok (.ireturn, 1) := by decide +kernel
theorem dX6_bound_76 : decode cX6_bound 76 = .ok (.aload 4, 2) := by decide +kernel
theorem dX6_bound_78 : decode cX6_bound 78 = .ok (.getfield 185, 3) := by decide +kernel
theorem dX6_bound_81 : decode cX6_bound 81 = .ok (.iload 5, 2) := by decide +kernel
theorem dX6_bound_83 : decode cX6_bound 83 = .ok (.iaload, 1) := by decide +kernel
theorem dX6_bound_84 : decode cX6_bound 84 = .ok (.ireturn, 1) := by decide +kernel
theorem dX6_bound_85 : decode cX6_bound 85 = .ok (.aload 4, 2) := by decide +kernel
theorem dX6_bound_87 : decode cX6_bound 87 = .ok (.iload 5, 2) := by decide +kernel
theorem dX6_bound_89 : decode cX6_bound 89 = .ok (.invokevirtual 188, 3) := by decide +kernel
theorem dX6_bound_92 : decode cX6_bound 92 = .ok (.ifCond .eq 14, 3) := by decide +kernel
theorem dX6_bound_95 : decode cX6_bound 95 = .ok (.aload 4, 2) := by decide +kernel
theorem dX6_bound_97 : decode cX6_bound 97 = .ok (.getfield 191, 3) := by decide +kernel
theorem dX6_bound_100 : decode cX6_bound 100 = .ok (.iload 5, 2) := by decide +kernel
theorem dX6_bound_102 : decode cX6_bound 102 = .ok (.iaload, 1) := by decide +kernel
theorem dX6_bound_103 : decode cX6_bound 103 = .ok (.goto 5, 3) := by decide +kernel
theorem dX6_bound_106 : decode cX6_bound 106 = .ok (.bipush (-5), 2) := by decide +kernel
theorem dX6_bound_108 : decode cX6_bound 108 = .ok (.ireturn, 1) := by decide +kernel
theorem dX6_bound_109 : decode cX6_bound 109 = .ok (.aload 4, 2) := by decide +kernel
theorem dX6_bound_111 : decode cX6_bound 111 = .ok (.iload 5, 2) := by decide +kernel
theorem dX6_bound_113 : decode cX6_bound 113 = .ok (.invokevirtual 188, 3) := by decide +kernel
theorem dX6_bound_116 : decode cX6_bound 116 = .ok (.ifCond .eq 14, 3) := by decide +kernel
theorem dX6_bound_119 : decode cX6_bound 119 = .ok (.aload 4, 2) := by decide +kernel
theorem dX6_bound_121 : decode cX6_bound 121 = .ok (.getfield 194, 3) := by decide +kernel
theorem dX6_bound_124 : decode cX6_bound 124 = .ok (.iload 5, 2) := by decide +kernel
theorem dX6_bound_126 : decode cX6_bound 126 = .ok (.iaload, 1) := by decide +kernel
theorem dX6_bound_127 : decode cX6_bound 127 = .ok (.goto 5, 3) := by decide +kernel
theorem dX6_bound_130 : decode cX6_bound 130 = .ok (.bipush (-5), 2) := by decide +kernel
theorem dX6_bound_132 : decode cX6_bound 132 = .ok (.ireturn, 1) := by decide +kernel
theorem dX6_bound_133 : decode cX6_bound 133 = .ok (.bipush (-2), 2) := by decide +kernel
theorem dX6_bound_135 : decode cX6_bound 135 = .ok (.ireturn, 1) := by decide +kernel
theorem dX6_top_0 : decode cX6_top 0 = .ok (.aload_n 0, 1) := by decide +kernel
theorem dX6_top_1 : decode cX6_top 1 = .ok (.iload_n 1, 1) := by decide +kernel
theorem dX6_top_2 : decode cX6_top 2 = .ok (.invokevirtual 166, 3) := by decide +kernel
theorem dX6_top_5 : decode cX6_top 5 = .ok (.astore 4, 2) := by decide +kernel
theorem dX6_top_7 : decode cX6_top 7 = .ok (.aload 4, 2) := by decide +kernel
theorem dX6_top_9 : decode cX6_top 9 = .ok (.ifnonnull 5, 3) := by decide +kernel
theorem dX6_top_12 : decode cX6_top 12 = .ok (.iconst (-1), 1) := by decide +kernel
theorem dX6_top_13 : decode cX6_top 13 = .ok (.ireturn, 1) := by decide +kernel
theorem dX6_top_14 : decode cX6_top 14 = .ok (.iload_n 2, 1) := by decide +kernel
theorem dX6_top_15 : decode cX6_top 15 = .ok (.ifCond .lt 12, 3) := by decide +kernel
theorem dX6_top_18 : decode cX6_top 18 = .ok (.iload_n 3, 1) := by decide +kernel
theorem dX6_top_19 : decode cX6_top 19 = .ok (.ifCond .lt 8, 3) := by decide +kernel
theorem dX6_top_22 : decode cX6_top 22 = .ok (.iload_n 3, 1) := by decide +kernel
theorem dX6_top_23 : decode cX6_top 23 = .ok (.iconst 1, 1) := by decide +kernel
theorem dX6_top_24 : decode cX6_top 24 = .ok (.if_icmp .le 6, 3) := by decide +kernel
theorem dX6_top_27 : decode cX6_top 27 = .ok (.bipush (-2), 2) := by decide +kernel
theorem dX6_top_29 : decode cX6_top 29 = .ok (.ireturn, 1) := by decide +kernel
theorem dX6_top_30 : decode cX6_top 30 = .ok (.aload 4, 2) := by decide +kernel
theorem dX6_top_32 : decode cX6_top 32 = .ok (.iload_n 2, 1) := by decide +kernel
theorem dX6_top_33 : decode cX6_top 33 = .ok (.invokevirtual 197, 3) := by decide +kernel
theorem dX6_top_36 : decode cX6_top 36 = .ok (.istore 5, 2) := by decide +kernel
theorem dX6_top_38 : decode cX6_top 38 = .ok (.iload 5, 2) := by decide +kernel
theorem dX6_top_40 : decode cX6_top 40 = .ok (.iconst (-1), 1) := by decide +kernel
theorem dX6_top_41 : decode cX6_top 41 = .ok (.if_icmp .ne 6, 3) := by decide +kernel
theorem dX6_top_44 : decode cX6_top 44 = .ok (.bipush (-5), 2) := by decide +kernel
theorem dX6_top_46 : decode cX6_top 46 = .ok (.ireturn, 1) := by decide +kernel
theorem dX6_top_47 : decode cX6_top 47 = .ok (.iload_n 3, 1) := by decide +kernel
theorem dX6_top_48 : decode cX6_top 48 = .ok (.ifCond .ne 11, 3) := by decide +kernel
theorem dX6_top_51 : decode cX6_top 51 = .ok (.iload 5, 2) := by decide +kernel
theorem dX6_top_53 : decode cX6_top 53 = .ok (.invokestatic 200, 3) := by decide +kernel
theorem dX6_top_56 : decode cX6_top 56 = .ok (.goto 11, 3) := by decide +kernel
theorem dX6_top_59 : decode cX6_top 59 = .ok (.aload 4, 2) := by decide +kernel
theorem dX6_top_61 : decode cX6_top 61 = .ok (.getfield 203, 3) := by decide +kernel
theorem dX6_top_64 : decode cX6_top 64 = .ok (.iload 5, 2) := by decide +kernel
theorem dX6_top_66 : decode cX6_top 66 = .ok (.iaload, 1) := by decide +kernel
theorem dX6_top_67 : decode cX6_top 67 = .ok (.ireturn, 1) := by decide +kernel
theorem dX6_first_0 : decode cX6_first 0 = .ok (.aload_n 0, 1) := by decide +kernel
theorem dX6_first_1 : decode cX6_first 1 = .ok (.iload_n 1, 1) := by decide +kernel
theorem dX6_first_2 : decode cX6_first 2 = .ok (.invokevirtual 166, 3) := by decide +kernel
theorem dX6_first_5 : decode cX6_first 5 = .ok (.astore 4, 2) := by decide +kernel
theorem dX6_first_7 : decode cX6_first 7 = .ok (.aload 4, 2) := by decide +kernel
theorem dX6_first_9 : decode cX6_first 9 = .ok (.ifnonnull 5, 3) := by decide +kernel
theorem dX6_first_12 : decode cX6_first 12 = .ok (.iconst (-1), 1) := by decide +kernel
theorem dX6_first_13 : decode cX6_first 13 = .ok (.ireturn, 1) := by decide +kernel
theorem dX6_first_14 : decode cX6_first 14 = .ok (.iload_n 2, 1) := by decide +kernel
theorem dX6_first_15 : decode cX6_first 15 = .ok (.iconst 1, 1) := by decide +kernel
theorem dX6_first_16 : decode cX6_first 16 = .ok (.if_icmp .lt 9, 3) := by decide +kernel
theorem dX6_first_19 : decode cX6_first 19 = .ok (.iload_n 2, 1) := by decide +kernel
theorem dX6_first_20 : decode cX6_first 20 = .ok (.bipush 25, 2) := by decide +kernel
theorem dX6_first_22 : decode cX6_first 22 = .ok (.if_icmp .le 6, 3) := by decide +kernel
theorem dX6_first_25 : decode cX6_first 25 = .ok (.bipush (-2), 2) := by decide +kernel
theorem dX6_first_27 : decode cX6_first 27 = .ok (.ireturn, 1) := by decide +kernel
theorem dX6_first_28 : decode cX6_first 28 = .ok (.iconst 0, 1) := by decide +kernel
theorem dX6_first_29 : decode cX6_first 29 = .ok (.istore 5, 2) := by decide +kernel
theorem dX6_first_31 : decode cX6_first 31 = .ok (.iconst 0, 1) := by decide +kernel
theorem dX6_first_32 : decode cX6_first 32 = .ok (.istore 6, 2) := by decide +kernel
theorem dX6_first_34 : decode cX6_first 34 = .ok (.iload 6, 2) := by decide +kernel
theorem dX6_first_36 : decode cX6_first 36 = .ok (.bipush 26, 2) := by decide +kernel
theorem dX6_first_38 : decode cX6_first 38 = .ok (.if_icmp .ge 30, 3) := by decide +kernel
theorem dX6_first_41 : decode cX6_first 41 = .ok (.aload 4, 2) := by decide +kernel
theorem dX6_first_43 : decode cX6_first 43 = .ok (.iload 6, 2) := by decide +kernel
theorem dX6_first_45 : decode cX6_first 45 = .ok (.iload_n 3, 1) := by decide +kernel
theorem dX6_first_46 : decode cX6_first 46 = .ok (.invokevirtual 206, 3) := by decide +kernel
theorem dX6_first_49 : decode cX6_first 49 = .ok (.iload_n 2, 1) := by decide +kernel
theorem dX6_first_50 : decode cX6_first 50 = .ok (.if_icmp .ge 12, 3) := by decide +kernel
theorem dX6_first_53 : decode cX6_first 53 = .ok (.iload 5, 2) := by decide +kernel
theorem dX6_first_55 : decode cX6_first 55 = .ok (.iconst 1, 1) := by decide +kernel
theorem dX6_first_56 : decode cX6_first 56 = .ok (.iload 6, 2) := by decide +kernel
theorem dX6_first_58 : decode cX6_first 58 = .ok (.ishl, 1) := by decide +kernel
theorem dX6_first_59 : decode cX6_first 59 = .ok (.ior, 1) := by decide +kernel
theorem dX6_first_60 : decode cX6_first 60 = .ok (.istore 5, 2) := by decide +kernel
theorem dX6_first_62 : decode cX6_first 62 = .ok (.iinc 6 1, 3) := by decide +kernel
theorem dX6_first_65 : decode cX6_first 65 = .ok (.goto (-31), 3) := by decide +kernel
theorem dX6_first_68 : decode cX6_first 68 = .ok (.iload 5, 2) := by decide +kernel
theorem dX6_first_70 : decode cX6_first 70 = .ok (.ireturn, 1) := by decide +kernel
theorem dX6_above_0 : decode cX6_above 0 = .ok (.aload_n 0, 1) := by decide +kernel
theorem dX6_above_1 : decode cX6_above 1 = .ok (.iload_n 1, 1) := by decide +kernel
theorem dX6_above_2 : decode cX6_above 2 = .ok (.invokevirtual 166, 3) := by decide +kernel
theorem dX6_above_5 : decode cX6_above 5 = .ok (.astore 4, 2) := by decide +kernel
theorem dX6_above_7 : decode cX6_above 7 = .ok (.aload 4, 2) := by decide +kernel
theorem dX6_above_9 : decode cX6_above 9 = .ok (.ifnonnull 5, 3) := by decide +kernel
theorem dX6_above_12 : decode cX6_above 12 = .ok (.iconst (-1), 1) := by decide +kernel
theorem dX6_above_13 : decode cX6_above 13 = .ok (.ireturn, 1) := by decide +kernel
theorem dX6_above_14 : decode cX6_above 14 = .ok (.iload_n 2, 1) := by decide +kernel
theorem dX6_above_15 : decode cX6_above 15 = .ok (.iconst 1, 1) := by decide +kernel
theorem dX6_above_16 : decode cX6_above 16 = .ok (.if_icmp .lt 9, 3) := by decide +kernel
theorem dX6_above_19 : decode cX6_above 19 = .ok (.iload_n 2, 1) := by decide +kernel
theorem dX6_above_20 : decode cX6_above 20 = .ok (.bipush 99, 2) := by decide +kernel
theorem dX6_above_22 : decode cX6_above 22 = .ok (.if_icmp .le 6, 3) := by decide +kernel
theorem dX6_above_25 : decode cX6_above 25 = .ok (.bipush (-2), 2) := by decide +kernel
theorem dX6_above_27 : decode cX6_above 27 = .ok (.ireturn, 1) := by decide +kernel
theorem dX6_above_28 : decode cX6_above 28 = .ok (.iconst 0, 1) := by decide +kernel
theorem dX6_above_29 : decode cX6_above 29 = .ok (.istore 5, 2) := by decide +kernel
theorem dX6_above_31 : decode cX6_above 31 = .ok (.iconst 0, 1) := by decide +kernel
theorem dX6_above_32 : decode cX6_above 32 = .ok (.istore 6, 2) := by decide +kernel
theorem dX6_above_34 : decode cX6_above 34 = .ok (.iload 6, 2) := by decide +kernel
theorem dX6_above_36 : decode cX6_above 36 = .ok (.bipush 26, 2) := by decide +kernel
theorem dX6_above_38 : decode cX6_above 38 = .ok (.if_icmp .ge 61, 3) := by decide +kernel
theorem dX6_above_41 : decode cX6_above 41 = .ok (.iload_n 3, 1) := by decide +kernel
theorem dX6_above_42 : decode cX6_above 42 = .ok (.ifCond .eq 13, 3) := by decide +kernel
theorem dX6_above_45 : decode cX6_above 45 = .ok (.aload 4, 2) := by decide +kernel
theorem dX6_above_47 : decode cX6_above 47 = .ok (.iload 6, 2) := by decide +kernel
theorem dX6_above_49 : decode cX6_above 49 = .ok (.invokevirtual 182, 3) := by decide +kernel
theorem dX6_above_52 : decode cX6_above 52 = .ok (.goto 10, 3) := by decide +kernel
theorem dX6_above_55 : decode cX6_above 55 = .ok (.aload 4, 2) := by decide +kernel
theorem dX6_above_57 : decode cX6_above 57 = .ok (.iload 6, 2) := by decide +kernel
theorem dX6_above_59 : decode cX6_above 59 = .ok (.invokevirtual 72, 3) := by decide +kernel
theorem dX6_above_62 : decode cX6_above 62 = .ok (.istore 7, 2) := by decide +kernel
theorem dX6_above_64 : decode cX6_above 64 = .ok (.iload 7, 2) := by decide +kernel
theorem dX6_above_66 : decode cX6_above 66 = .ok (.i2l, 1) := by decide +kernel
theorem dX6_above_67 : decode cX6_above 67 = .ok (.ldc2_w 210, 3) := by decide +kernel
theorem dX6_above_70 : decode cX6_above 70 = .ok (.lmul, 1) := by decide +kernel
theorem dX6_above_71 : decode cX6_above 71 = .ok (.iload_n 2, 1) := by decide +kernel
theorem dX6_above_72 : decode cX6_above 72 = .ok (.i2l, 1) := by decide +kernel
theorem dX6_above_73 : decode cX6_above 73 = .ok (.aload 4, 2) := by decide +kernel
theorem dX6_above_75 : decode cX6_above 75 = .ok (.getfield 59, 3) := by decide +kernel
theorem dX6_above_78 : decode cX6_above 78 = .ok (.i2l, 1) := by decide +kernel
theorem dX6_above_79 : decode cX6_above 79 = .ok (.lmul, 1) := by decide +kernel
theorem dX6_above_80 : decode cX6_above 80 = .ok (.lcmp, 1) := by decide +kernel
theorem dX6_above_81 : decode cX6_above 81 = .ok (.ifCond .le 12, 3) := by decide +kernel
theorem dX6_above_84 : decode cX6_above 84 = .ok (.iload 5, 2) := by decide +kernel
theorem dX6_above_86 : decode cX6_above 86 = .ok (.iconst 1, 1) := by decide +kernel
theorem dX6_above_87 : decode cX6_above 87 = .ok (.iload 6, 2) := by decide +kernel
theorem dX6_above_89 : decode cX6_above 89 = .ok (.ishl, 1) := by decide +kernel
theorem dX6_above_90 : decode cX6_above 90 = .ok (.ior, 1) := by decide +kernel
theorem dX6_above_91 : decode cX6_above 91 = .ok (.istore 5, 2) := by decide +kernel
theorem dX6_above_93 : decode cX6_above 93 = .ok (.iinc 6 1, 3) := by decide +kernel
theorem dX6_above_96 : decode cX6_above 96 = .ok (.goto (-62), 3) := by decide +kernel
theorem dX6_above_99 : decode cX6_above 99 = .ok (.iload 5, 2) := by decide +kernel
theorem dX6_above_101 : decode cX6_above 101 = .ok (.ireturn, 1) := by decide +kernel
theorem dX6_rank_0 : decode cX6_rank 0 = .ok (.aload_n 0, 1) := by decide +kernel
theorem dX6_rank_1 : decode cX6_rank 1 = .ok (.iload_n 1, 1) := by decide +kernel
theorem dX6_rank_2 : decode cX6_rank 2 = .ok (.invokevirtual 166, 3) := by decide +kernel
theorem dX6_rank_5 : decode cX6_rank 5 = .ok (.astore 4, 2) := by decide +kernel
theorem dX6_rank_7 : decode cX6_rank 7 = .ok (.iload_n 2, 1) := by decide +kernel
theorem dX6_rank_8 : decode cX6_rank 8 = .ok (.invokestatic 44, 3) := by decide +kernel
theorem dX6_rank_11 : decode cX6_rank 11 = .ok (.istore 5, 2) := by decide +kernel
theorem dX6_rank_13 : decode cX6_rank 13 = .ok (.aload 4, 2) := by decide +kernel
theorem dX6_rank_15 : decode cX6_rank 15 = .ok (.ifnull 9, 3) := by decide +kernel
theorem dX6_rank_18 : decode cX6_rank 18 = .ok (.iload 5, 2) := by decide +kernel
theorem dX6_rank_20 : decode cX6_rank 20 = .ok (.iconst (-1), 1) := by decide +kernel
theorem dX6_rank_21 : decode cX6_rank 21 = .ok (.if_icmp .ne 5, 3) := by decide +kernel
theorem dX6_rank_24 : decode cX6_rank 24 = .ok (.iconst (-1), 1) := by decide +kernel
theorem dX6_rank_25 : decode cX6_rank 25 = .ok (.ireturn, 1) := by decide +kernel
theorem dX6_rank_26 : decode cX6_rank 26 = .ok (.iconst 1, 1) := by decide +kernel
theorem dX6_rank_27 : decode cX6_rank 27 = .ok (.aload 4, 2) := by decide +kernel
theorem dX6_rank_29 : decode cX6_rank 29 = .ok (.iload 5, 2) := by decide +kernel
theorem dX6_rank_31 : decode cX6_rank 31 = .ok (.iload_n 3, 1) := by decide +kernel
theorem dX6_rank_32 : decode cX6_rank 32 = .ok (.invokevirtual 206, 3) := by decide +kernel
theorem dX6_rank_35 : decode cX6_rank 35 = .ok (.iadd, 1) := by decide +kernel
theorem dX6_rank_36 : decode cX6_rank 36 = .ok (.ireturn, 1) := by decide +kernel
theorem dX6_alike_0 : decode cX6_alike 0 = .ok (.aload_n 0, 1) := by decide +kernel
theorem dX6_alike_1 : decode cX6_alike 1 = .ok (.iload_n 1, 1) := by decide +kernel
theorem dX6_alike_2 : decode cX6_alike 2 = .ok (.invokevirtual 166, 3) := by decide +kernel
theorem dX6_alike_5 : decode cX6_alike 5 = .ok (.astore_n 3, 1) := by decide +kernel
theorem dX6_alike_6 : decode cX6_alike 6 = .ok (.aload_n 0, 1) := by decide +kernel
theorem dX6_alike_7 : decode cX6_alike 7 = .ok (.iload_n 2, 1) := by decide +kernel
theorem dX6_alike_8 : decode cX6_alike 8 = .ok (.invokevirtual 166, 3) := by decide +kernel
theorem dX6_alike_11 : decode cX6_alike 11 = .ok (.astore 4, 2) := by decide +kernel
theorem dX6_alike_13 : decode cX6_alike 13 = .ok (.aload_n 3, 1) := by decide +kernel
theorem dX6_alike_14 : decode cX6_alike 14 = .ok (.ifnull 8, 3) := by decide +kernel
theorem dX6_alike_17 : decode cX6_alike 17 = .ok (.aload 4, 2) := by decide +kernel
theorem dX6_alike_19 : decode cX6_alike 19 = .ok (.ifnonnull 5, 3) := by decide +kernel
theorem dX6_alike_22 : decode cX6_alike 22 = .ok (.iconst (-1), 1) := by decide +kernel
theorem dX6_alike_23 : decode cX6_alike 23 = .ok (.ireturn, 1) := by decide +kernel
theorem dX6_alike_24 : decode cX6_alike 24 = .ok (.iconst 0, 1) := by decide +kernel
theorem dX6_alike_25 : decode cX6_alike 25 = .ok (.istore 5, 2) := by decide +kernel
theorem dX6_alike_27 : decode cX6_alike 27 = .ok (.iconst 0, 1) := by decide +kernel
theorem dX6_alike_28 : decode cX6_alike 28 = .ok (.istore 6, 2) := by decide +kernel
theorem dX6_alike_30 : decode cX6_alike 30 = .ok (.iload 6, 2) := by decide +kernel
theorem dX6_alike_32 : decode cX6_alike 32 = .ok (.bipush 26, 2) := by decide +kernel
theorem dX6_alike_34 : decode cX6_alike 34 = .ok (.if_icmp .ge 44, 3) := by decide +kernel
theorem dX6_alike_37 : decode cX6_alike 37 = .ok (.aload_n 3, 1) := by decide +kernel
theorem dX6_alike_38 : decode cX6_alike 38 = .ok (.iload 6, 2) := by decide +kernel
theorem dX6_alike_40 : decode cX6_alike 40 = .ok (.invokevirtual 182, 3) := by decide +kernel
theorem dX6_alike_43 : decode cX6_alike 43 = .ok (.aload 4, 2) := by decide +kernel
theorem dX6_alike_45 : decode cX6_alike 45 = .ok (.iload 6, 2) := by decide +kernel
theorem dX6_alike_47 : decode cX6_alike 47 = .ok (.invokevirtual 72, 3) := by decide +kernel
theorem dX6_alike_50 : decode cX6_alike 50 = .ok (.if_icmp .gt 22, 3) := by decide +kernel
theorem dX6_alike_53 : decode cX6_alike 53 = .ok (.aload 4, 2) := by decide +kernel
theorem dX6_alike_55 : decode cX6_alike 55 = .ok (.iload 6, 2) := by decide +kernel
theorem dX6_alike_57 : decode cX6_alike 57 = .ok (.invokevirtual 182, 3) := by decide +kernel
theorem dX6_alike_60 : decode cX6_alike 60 = .ok (.aload_n 3, 1) := by decide +kernel
theorem dX6_alike_61 : decode cX6_alike 61 = .ok (.iload 6, 2) := by decide +kernel
theorem dX6_alike_63 : decode cX6_alike 63 = .ok (.invokevirtual 72, 3) := by decide +kernel
theorem dX6_alike_66 : decode cX6_alike 66 = .ok (.if_icmp .gt 6, 3) := by decide +kernel
theorem dX6_alike_69 : decode cX6_alike 69 = .ok (.iinc 5 1, 3) := by decide +kernel
theorem dX6_alike_72 : decode cX6_alike 72 = .ok (.iinc 6 1, 3) := by decide +kernel
theorem dX6_alike_75 : decode cX6_alike 75 = .ok (.goto (-45), 3) := by decide +kernel
theorem dX6_alike_78 : decode cX6_alike 78 = .ok (.iload 5, 2) := by decide +kernel
theorem dX6_alike_80 : decode cX6_alike 80 = .ok (.ireturn, 1) := by decide +kernel
theorem dX6_wouldEvict_0 : decode cX6_wouldEvict 0 = .ok (.iload_n 2, 1) := by decide +kernel
theorem dX6_wouldEvict_1 : decode cX6_wouldEvict 1 = .ok (.invokestatic 44, 3) := by decide +kernel
theorem dX6_wouldEvict_4 : decode cX6_wouldEvict 4 = .ok (.istore_n 3, 1) := by decide +kernel
theorem dX6_wouldEvict_5 : decode cX6_wouldEvict 5 = .ok (.iload_n 1, 1) := by decide +kernel
theorem dX6_wouldEvict_6 : decode cX6_wouldEvict 6 = .ok (.invokestatic 48, 3) := by decide +kernel
theorem dX6_wouldEvict_9 : decode cX6_wouldEvict 9 = .ok (.ifCond .eq 8, 3) := by decide +kernel
theorem dX6_wouldEvict_12 : decode cX6_wouldEvict 12 = .ok (.iload_n 3, 1) := by decide +kernel
theorem dX6_wouldEvict_13 : decode cX6_wouldEvict 13 = .ok (.iconst (-1), 1) := by decide +kernel
theorem dX6_wouldEvict_14 : decode cX6_wouldEvict 14 = .ok (.if_icmp .ne 5, 3) := by decide +kernel
theorem dX6_wouldEvict_17 : decode cX6_wouldEvict 17 = .ok (.iconst (-1), 1) := by decide +kernel
theorem dX6_wouldEvict_18 : decode cX6_wouldEvict 18 = .ok (.ireturn, 1) := by decide +kernel
theorem dX6_wouldEvict_19 : decode cX6_wouldEvict 19 = .ok (.aload_n 0, 1) := by decide +kernel
theorem dX6_wouldEvict_20 : decode cX6_wouldEvict 20 = .ok (.getfield 10, 3) := by decide +kernel
theorem dX6_wouldEvict_23 : decode cX6_wouldEvict 23 = .ok (.getfield 55, 3) := by decide +kernel
theorem dX6_wouldEvict_26 : decode cX6_wouldEvict 26 = .ok (.iload_n 1, 1) := by decide +kernel
theorem dX6_wouldEvict_27 : decode cX6_wouldEvict 27 = .ok (.aaload, 1) := by decide +kernel
theorem dX6_wouldEvict_28 : decode cX6_wouldEvict 28 = .ok (.astore 4, 2) := by decide +kernel
theorem dX6_wouldEvict_30 : decode cX6_wouldEvict 30 = .ok (.aload 4, 2) := by decide +kernel
theorem dX6_wouldEvict_32 : decode cX6_wouldEvict 32 = .ok (.iload_n 3, 1) := by decide +kernel
theorem dX6_wouldEvict_33 : decode cX6_wouldEvict 33 = .ok (.invokevirtual 212, 3) := by decide +kernel
theorem dX6_wouldEvict_36 : decode cX6_wouldEvict 36 = .ok (.ifCond .eq 11, 3) := by decide +kernel
theorem dX6_wouldEvict_39 : decode cX6_wouldEvict 39 = .ok (.aload 4, 2) := by decide +kernel
theorem dX6_wouldEvict_41 : decode cX6_wouldEvict 41 = .ok (.invokevirtual 215, 3) := by decide +kernel
theorem dX6_wouldEvict_44 : decode cX6_wouldEvict 44 = .ok (.goto 4, 3) := by decide +kernel
theorem dX6_wouldEvict_47 : decode cX6_wouldEvict 47 = .ok (.iconst (-1), 1) := by decide +kernel
theorem dX6_wouldEvict_48 : decode cX6_wouldEvict 48 = .ok (.istore 5, 2) := by decide +kernel
theorem dX6_wouldEvict_50 : decode cX6_wouldEvict 50 = .ok (.iload 5, 2) := by decide +kernel
theorem dX6_wouldEvict_52 : decode cX6_wouldEvict 52 = .ok (.iconst (-1), 1) := by decide +kernel
theorem dX6_wouldEvict_53 : decode cX6_wouldEvict 53 = .ok (.if_icmp .ne 8, 3) := by decide +kernel
theorem dX6_wouldEvict_56 : decode cX6_wouldEvict 56 = .ok (.bipush (-5), 2) := by decide +kernel
theorem dX6_wouldEvict_58 : decode cX6_wouldEvict 58 = .ok (.goto 8, 3) := by decide +kernel
theorem dX6_wouldEvict_61 : decode cX6_wouldEvict 61 = .ok (.iload 5, 2) := by decide +kernel
theorem dX6_wouldEvict_63 : decode cX6_wouldEvict 63 = .ok (.invokestatic 200, 3) := by decide +kernel
theorem dX6_wouldEvict_66 : decode cX6_wouldEvict 66 = .ok (.ireturn, 1) := by decide +kernel
theorem dX6_block_0 : decode cX6_block 0 = .ok (.iload_n 1, 1) := by decide +kernel
theorem dX6_block_1 : decode cX6_block 1 = .ok (.ifCond .lt 17, 3) := by decide +kernel
theorem dX6_block_4 : decode cX6_block 4 = .ok (.iload_n 1, 1) := by decide +kernel
theorem dX6_block_5 : decode cX6_block 5 = .ok (.aload_n 0, 1) := by decide +kernel
theorem dX6_block_6 : decode cX6_block 6 = .ok (.getfield 10, 3) := by decide +kernel
theorem dX6_block_9 : decode cX6_block 9 = .ok (.getfield 97, 3) := by decide +kernel
theorem dX6_block_12 : decode cX6_block 12 = .ok (.getfield 218, 3) := by decide +kernel
theorem dX6_block_15 : decode cX6_block 15 = .ok (.if_icmp .lt 5, 3) := by decide +kernel
theorem dX6_block_18 : decode cX6_block 18 = .ok (.iconst (-1), 1) := by decide +kernel
theorem dX6_block_19 : decode cX6_block 19 = .ok (.ireturn, 1) := by decide +kernel
theorem dX6_block_20 : decode cX6_block 20 = .ok (.aload_n 0, 1) := by decide +kernel
theorem dX6_block_21 : decode cX6_block 21 = .ok (.getfield 10, 3) := by decide +kernel
theorem dX6_block_24 : decode cX6_block 24 = .ok (.getfield 97, 3) := by decide +kernel
theorem dX6_block_27 : decode cX6_block 27 = .ok (.iload_n 1, 1) := by decide +kernel
theorem dX6_block_28 : decode cX6_block 28 = .ok (.invokevirtual 221, 3) := by decide +kernel
theorem dX6_block_31 : decode cX6_block 31 = .ok (.astore_n 3, 1) := by decide +kernel
theorem dX6_block_32 : decode cX6_block 32 = .ok (.iload_n 2, 1) := by decide +kernel
theorem dX6_block_33 : decode cX6_block 33 = .ok (.tableswitch 58 0 3 #[31, 43, 48, 53], 31) := by decide +kernel
theorem dX6_block_64 : decode cX6_block 64 = .ok (.aload_n 0, 1) := by decide +kernel
theorem dX6_block_65 : decode cX6_block 65 = .ok (.getfield 10, 3) := by decide +kernel
theorem dX6_block_68 : decode cX6_block 68 = .ok (.getfield 97, 3) := by decide +kernel
theorem dX6_block_71 : decode cX6_block 71 = .ok (.iload_n 1, 1) := by decide +kernel
theorem dX6_block_72 : decode cX6_block 72 = .ok (.invokevirtual 224, 3) := by decide +kernel
theorem dX6_block_75 : decode cX6_block 75 = .ok (.ireturn, 1) := by decide +kernel
theorem dX6_block_76 : decode cX6_block 76 = .ok (.aload_n 3, 1) := by decide +kernel
theorem dX6_block_77 : decode cX6_block 77 = .ok (.getfield 59, 3) := by decide +kernel
theorem dX6_block_80 : decode cX6_block 80 = .ok (.ireturn, 1) := by decide +kernel
theorem dX6_block_81 : decode cX6_block 81 = .ok (.aload_n 3, 1) := by decide +kernel
theorem dX6_block_82 : decode cX6_block 82 = .ok (.invokevirtual 112, 3) := by decide +kernel
theorem dX6_block_85 : decode cX6_block 85 = .ok (.ireturn, 1) := by decide +kernel
theorem dX6_block_86 : decode cX6_block 86 = .ok (.aload_n 3, 1) := by decide +kernel
theorem dX6_block_87 : decode cX6_block 87 = .ok (.getfield 170, 3) := by decide +kernel
theorem dX6_block_90 : decode cX6_block 90 = .ok (.ireturn, 1) := by decide +kernel
theorem dX6_block_91 : decode cX6_block 91 = .ok (.bipush (-2), 2) := by decide +kernel
theorem dX6_block_93 : decode cX6_block 93 = .ok (.ireturn, 1) := by decide +kernel
theorem dX6_event_0 : decode cX6_event 0 = .ok (.iload_n 1, 1) := by decide +kernel
theorem dX6_event_1 : decode cX6_event 1 = .ok (.ifCond .lt 12, 3) := by decide +kernel
theorem dX6_event_4 : decode cX6_event 4 = .ok (.iload_n 2, 1) := by decide +kernel
theorem dX6_event_5 : decode cX6_event 5 = .ok (.ifCond .lt 8, 3) := by decide +kernel
theorem dX6_event_8 : decode cX6_event 8 = .ok (.iload_n 2, 1) := by decide +kernel
theorem dX6_event_9 : decode cX6_event 9 = .ok (.iconst 3, 1) := by decide +kernel
theorem dX6_event_10 : decode cX6_event 10 = .ok (.if_icmp .le 6, 3) := by decide +kernel
theorem dX6_event_13 : decode cX6_event 13 = .ok (.bipush (-2), 2) := by decide +kernel
theorem dX6_event_15 : decode cX6_event 15 = .ok (.ireturn, 1) := by decide +kernel
theorem dX6_event_16 : decode cX6_event 16 = .ok (.iload_n 1, 1) := by decide +kernel
theorem dX6_event_17 : decode cX6_event 17 = .ok (.aload_n 0, 1) := by decide +kernel
theorem dX6_event_18 : decode cX6_event 18 = .ok (.getfield 10, 3) := by decide +kernel
theorem dX6_event_21 : decode cX6_event 21 = .ok (.getfield 227, 3) := by decide +kernel
theorem dX6_event_24 : decode cX6_event 24 = .ok (.getfield 231, 3) := by decide +kernel
theorem dX6_event_27 : decode cX6_event 27 = .ok (.if_icmp .lt 6, 3) := by decide +kernel
theorem dX6_event_30 : decode cX6_event 30 = .ok (.bipush (-5), 2) := by decide +kernel
theorem dX6_event_32 : decode cX6_event 32 = .ok (.ireturn, 1) := by decide +kernel
theorem dX6_event_33 : decode cX6_event 33 = .ok (.aload_n 0, 1) := by decide +kernel
theorem dX6_event_34 : decode cX6_event 34 = .ok (.getfield 10, 3) := by decide +kernel
theorem dX6_event_37 : decode cX6_event 37 = .ok (.getfield 227, 3) := by decide +kernel
theorem dX6_event_40 : decode cX6_event 40 = .ok (.iload_n 1, 1) := by decide +kernel
theorem dX6_event_41 : decode cX6_event 41 = .ok (.invokevirtual 234, 3) := by decide +kernel
theorem dX6_event_44 : decode cX6_event 44 = .ok (.istore_n 3, 1) := by decide +kernel
theorem dX6_event_45 : decode cX6_event 45 = .ok (.iload_n 2, 1) := by decide +kernel
theorem dX6_event_46 : decode cX6_event 46 = .ok (.tableswitch 65 0 2 #[26, 39, 52], 26) := by decide +kernel
theorem dX6_event_72 : decode cX6_event 72 = .ok (.aload_n 0, 1) := by decide +kernel
theorem dX6_event_73 : decode cX6_event 73 = .ok (.getfield 10, 3) := by decide +kernel
theorem dX6_event_76 : decode cX6_event 76 = .ok (.getfield 227, 3) := by decide +kernel
theorem dX6_event_79 : decode cX6_event 79 = .ok (.getfield 237, 3) := by decide +kernel
theorem dX6_event_82 : decode cX6_event 82 = .ok (.iload_n 3, 1) := by decide +kernel
theorem dX6_event_83 : decode cX6_event 83 = .ok (.iaload, 1) := by decide +kernel
theorem dX6_event_84 : decode cX6_event 84 = .ok (.ireturn, 1) := by decide +kernel
theorem dX6_event_85 : decode cX6_event 85 = .ok (.aload_n 0, 1) := by decide +kernel
theorem dX6_event_86 : decode cX6_event 86 = .ok (.getfield 10, 3) := by decide +kernel
theorem dX6_event_89 : decode cX6_event 89 = .ok (.getfield 227, 3) := by decide +kernel
theorem dX6_event_92 : decode cX6_event 92 = .ok (.getfield 240, 3) := by decide +kernel
theorem dX6_event_95 : decode cX6_event 95 = .ok (.iload_n 3, 1) := by decide +kernel
theorem dX6_event_96 : decode cX6_event 96 = .ok (.iaload, 1) := by decide +kernel
theorem dX6_event_97 : decode cX6_event 97 = .ok (.ireturn, 1) := by decide +kernel
theorem dX6_event_98 : decode cX6_event 98 = .ok (.aload_n 0, 1) := by decide +kernel
theorem dX6_event_99 : decode cX6_event 99 = .ok (.getfield 10, 3) := by decide +kernel
theorem dX6_event_102 : decode cX6_event 102 = .ok (.getfield 227, 3) := by decide +kernel
theorem dX6_event_105 : decode cX6_event 105 = .ok (.getfield 243, 3) := by decide +kernel
theorem dX6_event_108 : decode cX6_event 108 = .ok (.iload_n 3, 1) := by decide +kernel
theorem dX6_event_109 : decode cX6_event 109 = .ok (.iaload, 1) := by decide +kernel
theorem dX6_event_110 : decode cX6_event 110 = .ok (.ireturn, 1) := by decide +kernel
theorem dX6_event_111 : decode cX6_event 111 = .ok (.aload_n 0, 1) := by decide +kernel
theorem dX6_event_112 : decode cX6_event 112 = .ok (.getfield 10, 3) := by decide +kernel
theorem dX6_event_115 : decode cX6_event 115 = .ok (.getfield 227, 3) := by decide +kernel
theorem dX6_event_118 : decode cX6_event 118 = .ok (.getfield 246, 3) := by decide +kernel
theorem dX6_event_121 : decode cX6_event 121 = .ok (.iload_n 3, 1) := by decide +kernel
theorem dX6_event_122 : decode cX6_event 122 = .ok (.iaload, 1) := by decide +kernel
theorem dX6_event_123 : decode cX6_event 123 = .ok (.ireturn, 1) := by decide +kernel
theorem dX6_count_0 : decode cX6_count 0 = .ok (.iload_n 1, 1) := by decide +kernel
theorem dX6_count_1 : decode cX6_count 1 = .ok (.tableswitch 120 0 7 #[47, 55, 63, 71, 82, 93, 104, 112], 47) := by decide +kernel
theorem dX6_count_48 : decode cX6_count 48 = .ok (.aload_n 0, 1) := by decide +kernel
theorem dX6_count_49 : decode cX6_count 49 = .ok (.getfield 10, 3) := by decide +kernel
theorem dX6_count_52 : decode cX6_count 52 = .ok (.getfield 163, 3) := by decide +kernel
theorem dX6_count_55 : decode cX6_count 55 = .ok (.ireturn, 1) := by decide +kernel
theorem dX6_count_56 : decode cX6_count 56 = .ok (.aload_n 0, 1) := by decide +kernel
theorem dX6_count_57 : decode cX6_count 57 = .ok (.getfield 10, 3) := by decide +kernel
theorem dX6_count_60 : decode cX6_count 60 = .ok (.getfield 247, 3) := by decide +kernel
theorem dX6_count_63 : decode cX6_count 63 = .ok (.ireturn, 1) := by decide +kernel
theorem dX6_count_64 : decode cX6_count 64 = .ok (.aload_n 0, 1) := by decide +kernel
theorem dX6_count_65 : decode cX6_count 65 = .ok (.getfield 10, 3) := by decide +kernel
theorem dX6_count_68 : decode cX6_count 68 = .ok (.getfield 250, 3) := by decide +kernel
theorem dX6_count_71 : decode cX6_count 71 = .ok (.ireturn, 1) := by decide +kernel
theorem dX6_count_72 : decode cX6_count 72 = .ok (.aload_n 0, 1) := by decide +kernel
theorem dX6_count_73 : decode cX6_count 73 = .ok (.getfield 10, 3) := by decide +kernel
theorem dX6_count_76 : decode cX6_count 76 = .ok (.getfield 97, 3) := by decide +kernel
theorem dX6_count_79 : decode cX6_count 79 = .ok (.getfield 253, 3) := by decide +kernel
theorem dX6_count_82 : decode cX6_count 82 = .ok (.ireturn, 1) := by decide +kernel
theorem dX6_count_83 : decode cX6_count 83 = .ok (.aload_n 0, 1) := by decide +kernel
theorem dX6_count_84 : decode cX6_count 84 = .ok (.getfield 10, 3) := by decide +kernel
theorem dX6_count_87 : decode cX6_count 87 = .ok (.getfield 97, 3) := by decide +kernel
theorem dX6_count_90 : decode cX6_count 90 = .ok (.getfield 218, 3) := by decide +kernel
theorem dX6_count_93 : decode cX6_count 93 = .ok (.ireturn, 1) := by decide +kernel
theorem dX6_count_94 : decode cX6_count 94 = .ok (.aload_n 0, 1) := by decide +kernel
theorem dX6_count_95 : decode cX6_count 95 = .ok (.getfield 10, 3) := by decide +kernel
theorem dX6_count_98 : decode cX6_count 98 = .ok (.getfield 97, 3) := by decide +kernel
theorem dX6_count_101 : decode cX6_count 101 = .ok (.getfield 101, 3) := by decide +kernel
theorem dX6_count_104 : decode cX6_count 104 = .ok (.ireturn, 1) := by decide +kernel
theorem dX6_count_105 : decode cX6_count 105 = .ok (.aload_n 0, 1) := by decide +kernel
theorem dX6_count_106 : decode cX6_count 106 = .ok (.getfield 19, 3) := by decide +kernel
theorem dX6_count_109 : decode cX6_count 109 = .ok (.getfield 155, 3) := by decide +kernel
theorem dX6_count_112 : decode cX6_count 112 = .ok (.ireturn, 1) := by decide +kernel
theorem dX6_count_113 : decode cX6_count 113 = .ok (.aload_n 0, 1) := by decide +kernel
theorem dX6_count_114 : decode cX6_count 114 = .ok (.getfield 33, 3) := by decide +kernel
theorem dX6_count_117 : decode cX6_count 117 = .ok (.getfield 124, 3) := by decide +kernel
theorem dX6_count_120 : decode cX6_count 120 = .ok (.ireturn, 1) := by decide +kernel
theorem dX6_count_121 : decode cX6_count 121 = .ok (.bipush (-2), 2) := by decide +kernel
theorem dX6_count_123 : decode cX6_count 123 = .ok (.ireturn, 1) := by decide +kernel
theorem dX6_isSummary_0 : decode cX6_isSummary 0 = .ok (.iload_n 0, 1) := by decide +kernel
theorem dX6_isSummary_1 : decode cX6_isSummary 1 = .ok (.ifCond .lt 12, 3) := by decide +kernel
theorem dX6_isSummary_4 : decode cX6_isSummary 4 = .ok (.iload_n 0, 1) := by decide +kernel
theorem dX6_isSummary_5 : decode cX6_isSummary 5 = .ok (.iconst 4, 1) := by decide +kernel
theorem dX6_isSummary_6 : decode cX6_isSummary 6 = .ok (.if_icmp .ge 7, 3) := by decide +kernel
theorem dX6_isSummary_9 : decode cX6_isSummary 9 = .ok (.iconst 1, 1) := by decide +kernel
theorem dX6_isSummary_10 : decode cX6_isSummary 10 = .ok (.goto 4, 3) := by decide +kernel
theorem dX6_isSummary_13 : decode cX6_isSummary 13 = .ok (.iconst 0, 1) := by decide +kernel
theorem dX6_isSummary_14 : decode cX6_isSummary 14 = .ok (.ireturn, 1) := by decide +kernel
theorem dX6_isWeight_0 : decode cX6_isWeight 0 = .ok (.iload_n 0, 1) := by decide +kernel
theorem dX6_isWeight_1 : decode cX6_isWeight 1 = .ok (.iconst 1, 1) := by decide +kernel
theorem dX6_isWeight_2 : decode cX6_isWeight 2 = .ok (.if_icmp .lt 13, 3) := by decide +kernel
theorem dX6_isWeight_5 : decode cX6_isWeight 5 = .ok (.iload_n 0, 1) := by decide +kernel
theorem dX6_isWeight_6 : decode cX6_isWeight 6 = .ok (.bipush 99, 2) := by decide +kernel
theorem dX6_isWeight_8 : decode cX6_isWeight 8 = .ok (.if_icmp .gt 7, 3) := by decide +kernel
theorem dX6_isWeight_11 : decode cX6_isWeight 11 = .ok (.iconst 1, 1) := by decide +kernel
theorem dX6_isWeight_12 : decode cX6_isWeight 12 = .ok (.goto 4, 3) := by decide +kernel
theorem dX6_isWeight_15 : decode cX6_isWeight 15 = .ok (.iconst 0, 1) := by decide +kernel
theorem dX6_isWeight_16 : decode cX6_isWeight 16 = .ok (.ireturn, 1) := by decide +kernel
theorem dX6_letterIndex_0 : decode cX6_letterIndex 0 = .ok (.iload_n 0, 1) := by decide +kernel
theorem dX6_letterIndex_1 : decode cX6_letterIndex 1 = .ok (.bipush 97, 2) := by decide +kernel
theorem dX6_letterIndex_3 : decode cX6_letterIndex 3 = .ok (.if_icmp .lt 16, 3) := by decide +kernel
theorem dX6_letterIndex_6 : decode cX6_letterIndex 6 = .ok (.iload_n 0, 1) := by decide +kernel
theorem dX6_letterIndex_7 : decode cX6_letterIndex 7 = .ok (.bipush 122, 2) := by decide +kernel
theorem dX6_letterIndex_9 : decode cX6_letterIndex 9 = .ok (.if_icmp .gt 10, 3) := by decide +kernel
theorem dX6_letterIndex_12 : decode cX6_letterIndex 12 = .ok (.iload_n 0, 1) := by decide +kernel
theorem dX6_letterIndex_13 : decode cX6_letterIndex 13 = .ok (.bipush 97, 2) := by decide +kernel
theorem dX6_letterIndex_15 : decode cX6_letterIndex 15 = .ok (.isub, 1) := by decide +kernel
theorem dX6_letterIndex_16 : decode cX6_letterIndex 16 = .ok (.goto 4, 3) := by decide +kernel
theorem dX6_letterIndex_19 : decode cX6_letterIndex 19 = .ok (.iconst (-1), 1) := by decide +kernel
theorem dX6_letterIndex_20 : decode cX6_letterIndex 20 = .ok (.ireturn, 1) := by decide +kernel
theorem dX6_codeOf_0 : decode cX6_codeOf 0 = .ok (.bipush 97, 2) := by decide +kernel
theorem dX6_codeOf_2 : decode cX6_codeOf 2 = .ok (.iload_n 0, 1) := by decide +kernel
theorem dX6_codeOf_3 : decode cX6_codeOf 3 = .ok (.iadd, 1) := by decide +kernel
theorem dX6_codeOf_4 : decode cX6_codeOf 4 = .ok (.ireturn, 1) := by decide +kernel
theorem dX6_told_0 : decode cX6_told 0 = .ok (.iload_n 1, 1) := by decide +kernel
theorem dX6_told_1 : decode cX6_told 1 = .ok (.iconst 4, 1) := by decide +kernel
theorem dX6_told_2 : decode cX6_told 2 = .ok (.if_icmp .ne 29, 3) := by decide +kernel
theorem dX6_told_5 : decode cX6_told 5 = .ok (.aload_n 0, 1) := by decide +kernel
theorem dX6_told_6 : decode cX6_told 6 = .ok (.getfield 10, 3) := by decide +kernel
theorem dX6_told_9 : decode cX6_told 9 = .ok (.getfield 97, 3) := by decide +kernel
theorem dX6_told_12 : decode cX6_told 12 = .ok (.aload_n 0, 1) := by decide +kernel
theorem dX6_told_13 : decode cX6_told 13 = .ok (.getfield 40, 3) := by decide +kernel
theorem dX6_told_16 : decode cX6_told 16 = .ok (.aload_n 0, 1) := by decide +kernel
theorem dX6_told_17 : decode cX6_told 17 = .ok (.getfield 10, 3) := by decide +kernel
theorem dX6_told_20 : decode cX6_told 20 = .ok (.getfield 163, 3) := by decide +kernel
theorem dX6_told_23 : decode cX6_told 23 = .ok (.invokevirtual 256, 3) := by decide +kernel
theorem dX6_told_26 : decode cX6_told 26 = .ok (.aload_n 0, 1) := by decide +kernel
theorem dX6_told_27 : decode cX6_told 27 = .ok (.getfield 40, 3) := by decide +kernel
theorem dX6_told_30 : decode cX6_told 30 = .ok (.areturn, 1) := by decide +kernel
theorem dX6_told_31 : decode cX6_told 31 = .ok (.iload_n 1, 1) := by decide +kernel
theorem dX6_told_32 : decode cX6_told 32 = .ok (.invokestatic 48, 3) := by decide +kernel
theorem dX6_told_35 : decode cX6_told 35 = .ok (.ifCond .eq 15, 3) := by decide +kernel
theorem dX6_told_38 : decode cX6_told 38 = .ok (.aload_n 0, 1) := by decide +kernel
theorem dX6_told_39 : decode cX6_told 39 = .ok (.getfield 10, 3) := by decide +kernel
theorem dX6_told_42 : decode cX6_told 42 = .ok (.getfield 55, 3) := by decide +kernel
theorem dX6_told_45 : decode cX6_told 45 = .ok (.iload_n 1, 1) := by decide +kernel
theorem dX6_told_46 : decode cX6_told 46 = .ok (.aaload, 1) := by decide +kernel
theorem dX6_told_47 : decode cX6_told 47 = .ok (.goto 4, 3) := by decide +kernel
theorem dX6_told_50 : decode cX6_told 50 = .ok (.aconst_null, 1) := by decide +kernel
theorem dX6_told_51 : decode cX6_told 51 = .ok (.areturn, 1) := by decide +kernel
theorem dX7_init_0 : decode cX7_init 0 = .ok (.aload_n 0, 1) := by decide +kernel
theorem dX7_init_1 : decode cX7_init 1 = .ok (.invokespecial 1, 3) := by decide +kernel
theorem dX7_init_4 : decode cX7_init 4 = .ok (.aload_n 0, 1) := by decide +kernel
theorem dX7_init_5 : decode cX7_init 5 = .ok (.sipush 1244, 3) := by decide +kernel
theorem dX7_init_8 : decode cX7_init 8 = .ok (.newarray .int, 2) := by decide +kernel
theorem dX7_init_10 : decode cX7_init 10 = .ok (.putfield 7, 3) := by decide +kernel
theorem dX7_init_13 : decode cX7_init 13 = .ok (.aload_n 0, 1) := by decide +kernel
theorem dX7_init_14 : decode cX7_init 14 = .ok (.sipush 4440, 3) := by decide +kernel
theorem dX7_init_17 : decode cX7_init 17 = .ok (.newarray .int, 2) := by decide +kernel
theorem dX7_init_19 : decode cX7_init 19 = .ok (.putfield 13, 3) := by decide +kernel
theorem dX7_init_22 : decode cX7_init 22 = .ok (.aload_n 0, 1) := by decide +kernel
theorem dX7_init_23 : decode cX7_init 23 = .ok (.sipush 1110, 3) := by decide +kernel
theorem dX7_init_26 : decode cX7_init 26 = .ok (.newarray .int, 2) := by decide +kernel
theorem dX7_init_28 : decode cX7_init 28 = .ok (.putfield 16, 3) := by decide +kernel
theorem dX7_init_31 : decode cX7_init 31 = .ok (.aload_n 0, 1) := by decide +kernel
theorem dX7_init_32 : decode cX7_init 32 = .ok (.bipush 60, 2) := by decide +kernel
theorem dX7_init_34 : decode cX7_init 34 = .ok (.newarray .char, 2) := by decide +kernel
theorem dX7_init_36 : decode cX7_init 36 = .ok (.putfield 19, 3) := by decide +kernel
theorem dX7_init_39 : decode cX7_init 39 = .ok (.iconst 0, 1) := by decide +kernel
theorem dX7_init_40 : decode cX7_init 40 = .ok (.istore_n 1, 1) := by decide +kernel
theorem dX7_init_41 : decode cX7_init 41 = .ok (.iload_n 1, 1) := by decide +kernel
theorem dX7_init_42 : decode cX7_init 42 = .ok (.bipush 8, 2) := by decide +kernel
theorem dX7_init_44 : decode cX7_init 44 = .ok (.if_icmp .gt 16, 3) := by decide +kernel
theorem dX7_init_47 : decode cX7_init 47 = .ok (.aload_n 0, 1) := by decide +kernel
theorem dX7_init_48 : decode cX7_init 48 = .ok (.iload_n 1, 1) := by decide +kernel
theorem dX7_init_49 : decode cX7_init 49 = .ok (.iconst 0, 1) := by decide +kernel
theorem dX7_init_50 : decode cX7_init 50 = .ok (.iconst 4, 1) := by decide +kernel
theorem dX7_init_51 : decode cX7_init 51 = .ok (.invokevirtual 23, 3) := by decide +kernel
theorem dX7_init_54 : decode cX7_init 54 = .ok (.iinc 1 1, 3) := by decide +kernel
theorem dX7_init_57 : decode cX7_init 57 = .ok (.goto (-16), 3) := by decide +kernel
theorem dX7_init_60 : decode cX7_init 60 = .ok (.aload_n 0, 1) := by decide +kernel
theorem dX7_init_61 : decode cX7_init 61 = .ok (.getfield 7, 3) := by decide +kernel
theorem dX7_init_64 : decode cX7_init 64 = .ok (.sipush 1075, 3) := by decide +kernel
theorem dX7_init_67 : decode cX7_init 67 = .ok (.iconst 1, 1) := by decide +kernel
theorem dX7_init_68 : decode cX7_init 68 = .ok (.iastore, 1) := by decide +kernel
theorem dX7_init_69 : decode cX7_init 69 = .ok (.aload_n 0, 1) := by decide +kernel
theorem dX7_init_70 : decode cX7_init 70 = .ok (.getfield 7, 3) := by decide +kernel
theorem dX7_init_73 : decode cX7_init 73 = .ok (.sipush 1076, 3) := by decide +kernel
theorem dX7_init_76 : decode cX7_init 76 = .ok (.iconst 1, 1) := by decide +kernel
theorem dX7_init_77 : decode cX7_init 77 = .ok (.iastore, 1) := by decide +kernel
theorem dX7_init_78 : decode cX7_init 78 = .ok (.return_, 1) := by decide +kernel
theorem dX7_in_0 : decode cX7_in 0 = .ok (.iload_n 0, 1) := by decide +kernel
theorem dX7_in_1 : decode cX7_in 1 = .ok (.iload_n 1, 1) := by decide +kernel
theorem dX7_in_2 : decode cX7_in 2 = .ok (.if_icmp .lt 12, 3) := by decide +kernel
theorem dX7_in_5 : decode cX7_in 5 = .ok (.iload_n 0, 1) := by decide +kernel
theorem dX7_in_6 : decode cX7_in 6 = .ok (.iload_n 2, 1) := by decide +kernel
theorem dX7_in_7 : decode cX7_in 7 = .ok (.if_icmp .gt 7, 3) := by decide +kernel
theorem dX7_in_10 : decode cX7_in 10 = .ok (.iconst 1, 1) := by decide +kernel
theorem dX7_in_11 : decode cX7_in 11 = .ok (.goto 4, 3) := by decide +kernel
theorem dX7_in_14 : decode cX7_in 14 = .ok (.iconst 0, 1) := by decide +kernel
theorem dX7_in_15 : decode cX7_in 15 = .ok (.ireturn, 1) := by decide +kernel
theorem dX7_base_0 : decode cX7_base 0 = .ok (.iload_n 0, 1) := by decide +kernel
theorem dX7_base_1 : decode cX7_base 1 = .ok (.bipush 8, 2) := by decide +kernel
theorem dX7_base_3 : decode cX7_base 3 = .ok (.if_icmp .ge 11, 3) := by decide +kernel
theorem dX7_base_6 : decode cX7_base 6 = .ok (.sipush 134, 3) := by decide +kernel
theorem dX7_base_9 : decode cX7_base 9 = .ok (.iload_n 0, 1) := by decide +kernel
theorem dX7_base_10 : decode cX7_base 10 = .ok (.imul, 1) := by decide +kernel
theorem dX7_base_11 : decode cX7_base 11 = .ok (.goto 6, 3) := by decide +kernel
theorem dX7_base_14 : decode cX7_base 14 = .ok (.sipush 1110, 3) := by decide +kernel
theorem dX7_base_17 : decode cX7_base 17 = .ok (.ireturn, 1) := by decide +kernel
theorem dX7_of_0 : decode cX7_of 0 = .ok (.aload_n 0, 1) := by decide +kernel
theorem dX7_of_1 : decode cX7_of 1 = .ok (.getfield 7, 3) := by decide +kernel
theorem dX7_of_4 : decode cX7_of 4 = .ok (.iload_n 1, 1) := by decide +kernel
theorem dX7_of_5 : decode cX7_of 5 = .ok (.invokestatic 27, 3) := by decide +kernel
theorem dX7_of_8 : decode cX7_of 8 = .ok (.iload_n 2, 1) := by decide +kernel
theorem dX7_of_9 : decode cX7_of 9 = .ok (.iadd, 1) := by decide +kernel
theorem dX7_of_10 : decode cX7_of 10 = .ok (.iaload, 1) := by decide +kernel
theorem dX7_of_11 : decode cX7_of 11 = .ok (.ireturn, 1) := by decide +kernel
theorem dX7_puts_0 : decode cX7_puts 0 = .ok (.aload_n 0, 1) := by decide +kernel
theorem dX7_puts_1 : decode cX7_puts 1 = .ok (.getfield 7, 3) := by decide +kernel
theorem dX7_puts_4 : decode cX7_puts 4 = .ok (.iload_n 1, 1) := by decide +kernel
theorem dX7_puts_5 : decode cX7_puts 5 = .ok (.invokestatic 27, 3) := by decide +kernel
theorem dX7_puts_8 : decode cX7_puts 8 = .ok (.iload_n 2, 1) := by decide +kernel
theorem dX7_puts_9 : decode cX7_puts 9 = .ok (.iadd, 1) := by decide +kernel
theorem dX7_puts_10 : decode cX7_puts 10 = .ok (.iload_n 3, 1) := by decide +kernel
theorem dX7_puts_11 : decode cX7_puts 11 = .ok (.iastore, 1) := by decide +kernel
theorem dX7_puts_12 : decode cX7_puts 12 = .ok (.return_, 1) := by decide +kernel
theorem dX7_its_0 : decode cX7_its 0 = .ok (.aload_n 0, 1) := by decide +kernel
theorem dX7_its_1 : decode cX7_its 1 = .ok (.getfield 7, 3) := by decide +kernel
theorem dX7_its_4 : decode cX7_its 4 = .ok (.iload_n 1, 1) := by decide +kernel
theorem dX7_its_5 : decode cX7_its 5 = .ok (.invokestatic 27, 3) := by decide +kernel
theorem dX7_its_8 : decode cX7_its 8 = .ok (.iconst 4, 1) := by decide +kernel
theorem dX7_its_9 : decode cX7_its 9 = .ok (.iadd, 1) := by decide +kernel
theorem dX7_its_10 : decode cX7_its 10 = .ok (.iconst 5, 1) := by decide +kernel
theorem dX7_its_11 : decode cX7_its 11 = .ok (.iload_n 2, 1) := by decide +kernel
theorem dX7_its_12 : decode cX7_its 12 = .ok (.imul, 1) := by decide +kernel
theorem dX7_its_13 : decode cX7_its 13 = .ok (.iadd, 1) := by decide +kernel
theorem dX7_its_14 : decode cX7_its 14 = .ok (.iload_n 3, 1) := by decide +kernel
theorem dX7_its_15 : decode cX7_its 15 = .ok (.iadd, 1) := by decide +kernel
theorem dX7_its_16 : decode cX7_its 16 = .ok (.iaload, 1) := by decide +kernel
theorem dX7_its_17 : decode cX7_its 17 = .ok (.ireturn, 1) := by decide +kernel
theorem dX7_gives_0 : decode cX7_gives 0 = .ok (.aload_n 0, 1) := by decide +kernel
theorem dX7_gives_1 : decode cX7_gives 1 = .ok (.getfield 7, 3) := by decide +kernel
theorem dX7_gives_4 : decode cX7_gives 4 = .ok (.iload_n 1, 1) := by decide +kernel
theorem dX7_gives_5 : decode cX7_gives 5 = .ok (.invokestatic 27, 3) := by decide +kernel
theorem dX7_gives_8 : decode cX7_gives 8 = .ok (.iconst 4, 1) := by decide +kernel
theorem dX7_gives_9 : decode cX7_gives 9 = .ok (.iadd, 1) := by decide +kernel
theorem dX7_gives_10 : decode cX7_gives 10 = .ok (.iconst 5, 1) := by decide +kernel
theorem dX7_gives_11 : decode cX7_gives 11 = .ok (.iload_n 2, 1) := by decide +kernel
theorem dX7_gives_12 : decode cX7_gives 12 = .ok (.imul, 1) := by decide +kernel
theorem dX7_gives_13 : decode cX7_gives 13 = .ok (.iadd, 1) := by decide +kernel
theorem dX7_gives_14 : decode cX7_gives 14 = .ok (.iload_n 3, 1) := by decide +kernel
theorem dX7_gives_15 : decode cX7_gives 15 = .ok (.iadd, 1) := by decide +kernel
theorem dX7_gives_16 : decode cX7_gives 16 = .ok (.iload 4, 2) := by decide +kernel
theorem dX7_gives_18 : decode cX7_gives 18 = .ok (.iastore, 1) := by decide +kernel
theorem dX7_gives_19 : decode cX7_gives 19 = .ok (.return_, 1) := by decide +kernel
theorem dX7_has_0 : decode cX7_has 0 = .ok (.aload_n 0, 1) := by decide +kernel
theorem dX7_has_1 : decode cX7_has 1 = .ok (.iload_n 1, 1) := by decide +kernel
theorem dX7_has_2 : decode cX7_has 2 = .ok (.iload_n 2, 1) := by decide +kernel
theorem dX7_has_3 : decode cX7_has 3 = .ok (.iconst 0, 1) := by decide +kernel
theorem dX7_has_4 : decode cX7_has 4 = .ok (.invokevirtual 31, 3) := by decide +kernel
theorem dX7_has_7 : decode cX7_has 7 = .ok (.iconst 1, 1) := by decide +kernel
theorem dX7_has_8 : decode cX7_has 8 = .ok (.if_icmp .ne 7, 3) := by decide +kernel
theorem dX7_has_11 : decode cX7_has 11 = .ok (.iconst 1, 1) := by decide +kernel
theorem dX7_has_12 : decode cX7_has 12 = .ok (.goto 4, 3) := by decide +kernel
theorem dX7_has_15 : decode cX7_has 15 = .ok (.iconst 0, 1) := by decide +kernel
theorem dX7_has_16 : decode cX7_has 16 = .ok (.ireturn, 1) := by decide +kernel
theorem dX7_isSummary_0 : decode cX7_isSummary 0 = .ok (.iload_n 0, 1) := by decide +kernel
theorem dX7_isSummary_1 : decode cX7_isSummary 1 = .ok (.iconst 0, 1) := by decide +kernel
theorem dX7_isSummary_2 : decode cX7_isSummary 2 = .ok (.iconst 3, 1) := by decide +kernel
theorem dX7_isSummary_3 : decode cX7_isSummary 3 = .ok (.invokestatic 35, 3) := by decide +kernel
theorem dX7_isSummary_6 : decode cX7_isSummary 6 = .ok (.ireturn, 1) := by decide +kernel
theorem dX7_isLetter_0 : decode cX7_isLetter 0 = .ok (.iload_n 0, 1) := by decide +kernel
theorem dX7_isLetter_1 : decode cX7_isLetter 1 = .ok (.bipush 97, 2) := by decide +kernel
theorem dX7_isLetter_3 : decode cX7_isLetter 3 = .ok (.if_icmp .lt 13, 3) := by decide +kernel
theorem dX7_isLetter_6 : decode cX7_isLetter 6 = .ok (.iload_n 0, 1) := by decide +kernel
theorem dX7_isLetter_7 : decode cX7_isLetter 7 = .ok (.bipush 122, 2) := by decide +kernel
theorem dX7_isLetter_9 : decode cX7_isLetter 9 = .ok (.if_icmp .gt 7, 3) := by decide +kernel
theorem dX7_isLetter_12 : decode cX7_isLetter 12 = .ok (.iconst 1, 1) := by decide +kernel
theorem dX7_isLetter_13 : decode cX7_isLetter 13 = .ok (.goto 4, 3) := by decide +kernel
theorem dX7_isLetter_16 : decode cX7_isLetter 16 = .ok (.iconst 0, 1) := by decide +kernel
theorem dX7_isLetter_17 : decode cX7_isLetter 17 = .ok (.ireturn, 1) := by decide +kernel
theorem dX7_counters_0 : decode cX7_counters 0 = .ok (.iconst 0, 1) := by decide +kernel
theorem dX7_counters_1 : decode cX7_counters 1 = .ok (.istore_n 2, 1) := by decide +kernel
theorem dX7_counters_2 : decode cX7_counters 2 = .ok (.iconst 0, 1) := by decide +kernel
theorem dX7_counters_3 : decode cX7_counters 3 = .ok (.istore_n 3, 1) := by decide +kernel
theorem dX7_counters_4 : decode cX7_counters 4 = .ok (.iload_n 3, 1) := by decide +kernel
theorem dX7_counters_5 : decode cX7_counters 5 = .ok (.bipush 26, 2) := by decide +kernel
theorem dX7_counters_7 : decode cX7_counters 7 = .ok (.if_icmp .ge 19, 3) := by decide +kernel
theorem dX7_counters_10 : decode cX7_counters 10 = .ok (.iload_n 2, 1) := by decide +kernel
theorem dX7_counters_11 : decode cX7_counters 11 = .ok (.aload_n 0, 1) := by decide +kernel
theorem dX7_counters_12 : decode cX7_counters 12 = .ok (.iload_n 1, 1) := by decide +kernel
theorem dX7_counters_13 : decode cX7_counters 13 = .ok (.iload_n 3, 1) := by decide +kernel
theorem dX7_counters_14 : decode cX7_counters 14 = .ok (.iconst 0, 1) := by decide +kernel
theorem dX7_counters_15 : decode cX7_counters 15 = .ok (.invokevirtual 31, 3) := by decide +kernel
theorem dX7_counters_18 : decode cX7_counters 18 = .ok (.iadd, 1) := by decide +kernel
theorem dX7_counters_19 : decode cX7_counters 19 = .ok (.istore_n 2, 1) := by decide +kernel
theorem dX7_counters_20 : decode cX7_counters 20 = .ok (.iinc 3 1, 3) := by decide +kernel
theorem dX7_counters_23 : decode cX7_counters 23 = .ok (.goto (-19), 3) := by decide +kernel
theorem dX7_counters_26 : decode cX7_counters 26 = .ok (.iload_n 2, 1) := by decide +kernel
theorem dX7_counters_27 : decode cX7_counters 27 = .ok (.ireturn, 1) := by decide +kernel
theorem dX7_record_0 : decode cX7_record 0 = .ok (.aload_n 0, 1) := by decide +kernel
theorem dX7_record_1 : decode cX7_record 1 = .ok (.getfield 39, 3) := by decide +kernel
theorem dX7_record_4 : decode cX7_record 4 = .ok (.iconst 4, 1) := by decide +kernel
theorem dX7_record_5 : decode cX7_record 5 = .ok (.if_icmp .ne 44, 3) := by decide +kernel
theorem dX7_record_8 : decode cX7_record 8 = .ok (.iconst 0, 1) := by decide +kernel
theorem dX7_record_9 : decode cX7_record 9 = .ok (.istore_n 1, 1) := by decide +kernel
theorem dX7_record_10 : decode cX7_record 10 = .ok (.iload_n 1, 1) := by decide +kernel
theorem dX7_record_11 : decode cX7_record 11 = .ok (.sipush 3330, 3) := by decide +kernel
theorem dX7_record_14 : decode cX7_record 14 = .ok (.if_icmp .ge 25, 3) := by decide +kernel
theorem dX7_record_17 : decode cX7_record 17 = .ok (.aload_n 0, 1) := by decide +kernel
theorem dX7_record_18 : decode cX7_record 18 = .ok (.getfield 13, 3) := by decide +kernel
theorem dX7_record_21 : decode cX7_record 21 = .ok (.iload_n 1, 1) := by decide +kernel
theorem dX7_record_22 : decode cX7_record 22 = .ok (.aload_n 0, 1) := by decide +kernel
theorem dX7_record_23 : decode cX7_record 23 = .ok (.getfield 13, 3) := by decide +kernel
theorem dX7_record_26 : decode cX7_record 26 = .ok (.iload_n 1, 1) := by decide +kernel
theorem dX7_record_27 : decode cX7_record 27 = .ok (.sipush 1110, 3) := by decide +kernel
theorem dX7_record_30 : decode cX7_record 30 = .ok (.iadd, 1) := by decide +kernel
theorem dX7_record_31 : decode cX7_record 31 = .ok (.iaload, 1) := by decide +kernel
theorem dX7_record_32 : decode cX7_record 32 = .ok (.iastore, 1) := by decide +kernel
theorem dX7_record_33 : decode cX7_record 33 = .ok (.iinc 1 1, 3) := by decide +kernel
theorem dX7_record_36 : decode cX7_record 36 = .ok (.goto (-26), 3) := by decide +kernel
theorem dX7_record_39 : decode cX7_record 39 = .ok (.aload_n 0, 1) := by decide +kernel
theorem dX7_record_40 : decode cX7_record 40 = .ok (.dup, 1) := by decide +kernel
theorem dX7_record_41 : decode cX7_record 41 = .ok (.getfield 39, 3) := by decide +kernel
theorem dX7_record_44 : decode cX7_record 44 = .ok (.iconst 1, 1) := by decide +kernel
theorem dX7_record_45 : decode cX7_record 45 = .ok (.isub, 1) := by decide +kernel
theorem dX7_record_46 : decode cX7_record 46 = .ok (.putfield 39, 3) := by decide +kernel
theorem dX7_record_49 : decode cX7_record 49 = .ok (.iconst 0, 1) := by decide +kernel
theorem dX7_record_50 : decode cX7_record 50 = .ok (.istore_n 1, 1) := by decide +kernel
theorem dX7_record_51 : decode cX7_record 51 = .ok (.iload_n 1, 1) := by decide +kernel
theorem dX7_record_52 : decode cX7_record 52 = .ok (.sipush 1110, 3) := by decide +kernel
theorem dX7_record_55 : decode cX7_record 55 = .ok (.if_icmp .ge 30, 3) := by decide +kernel
theorem dX7_record_58 : decode cX7_record 58 = .ok (.aload_n 0, 1) := by decide +kernel
theorem dX7_record_59 : decode cX7_record 59 = .ok (.getfield 13, 3) := by decide +kernel
theorem dX7_record_62 : decode cX7_record 62 = .ok (.sipush 1110, 3) := by decide +kernel
theorem dX7_record_65 : decode cX7_record 65 = .ok (.aload_n 0, 1) := by decide +kernel
theorem dX7_record_66 : decode cX7_record 66 = .ok (.getfield 39, 3) := by decide +kernel
theorem dX7_record_69 : decode cX7_record 69 = .ok (.imul, 1) := by decide +kernel
theorem dX7_record_70 : decode cX7_record 70 = .ok (.iload_n 1, 1) := by decide +kernel
theorem dX7_record_71 : decode cX7_record 71 = .ok (.iadd, 1) := by decide +kernel
theorem dX7_record_72 : decode cX7_record 72 = .ok (.aload_n 0, 1) := by decide +kernel
theorem dX7_record_73 : decode cX7_record 73 = .ok (.getfield 7, 3) := by decide +kernel
theorem dX7_record_76 : decode cX7_record 76 = .ok (.iload_n 1, 1) := by decide +kernel
theorem dX7_record_77 : decode cX7_record 77 = .ok (.iaload, 1) := by decide +kernel
theorem dX7_record_78 : decode cX7_record 78 = .ok (.iastore, 1) := by decide +kernel
theorem dX7_record_79 : decode cX7_record 79 = .ok (.iinc 1 1, 3) := by decide +kernel
theorem dX7_record_82 : decode cX7_record 82 = .ok (.goto (-31), 3) := by decide +kernel
theorem dX7_record_85 : decode cX7_record 85 = .ok (.aload_n 0, 1) := by decide +kernel
theorem dX7_record_86 : decode cX7_record 86 = .ok (.dup, 1) := by decide +kernel
theorem dX7_record_87 : decode cX7_record 87 = .ok (.getfield 39, 3) := by decide +kernel
theorem dX7_record_90 : decode cX7_record 90 = .ok (.iconst 1, 1) := by decide +kernel
theorem dX7_record_91 : decode cX7_record 91 = .ok (.iadd, 1) := by decide +kernel
theorem dX7_record_92 : decode cX7_record 92 = .ok (.putfield 39, 3) := by decide +kernel
theorem dX7_record_95 : decode cX7_record 95 = .ok (.return_, 1) := by decide +kernel
theorem dX7_tells_0 : decode cX7_tells 0 = .ok (.aload_n 0, 1) := by decide +kernel
theorem dX7_tells_1 : decode cX7_tells 1 = .ok (.getfield 7, 3) := by decide +kernel
theorem dX7_tells_4 : decode cX7_tells 4 = .ok (.sipush 1077, 3) := by decide +kernel
theorem dX7_tells_7 : decode cX7_tells 7 = .ok (.iaload, 1) := by decide +kernel
theorem dX7_tells_8 : decode cX7_tells 8 = .ok (.bipush 8, 2) := by decide +kernel
theorem dX7_tells_10 : decode cX7_tells 10 = .ok (.if_icmp .ne 55, 3) := by decide +kernel
theorem dX7_tells_13 : decode cX7_tells 13 = .ok (.iconst 0, 1) := by decide +kernel
theorem dX7_tells_14 : decode cX7_tells 14 = .ok (.istore 4, 2) := by decide +kernel
theorem dX7_tells_16 : decode cX7_tells 16 = .ok (.iload 4, 2) := by decide +kernel
theorem dX7_tells_18 : decode cX7_tells 18 = .ok (.bipush 28, 2) := by decide +kernel
theorem dX7_tells_20 : decode cX7_tells 20 = .ok (.if_icmp .ge 33, 3) := by decide +kernel
theorem dX7_tells_23 : decode cX7_tells 23 = .ok (.aload_n 0, 1) := by decide +kernel
theorem dX7_tells_24 : decode cX7_tells 24 = .ok (.getfield 7, 3) := by decide +kernel
theorem dX7_tells_27 : decode cX7_tells 27 = .ok (.sipush 1078, 3) := by decide +kernel
theorem dX7_tells_30 : decode cX7_tells 30 = .ok (.iload 4, 2) := by decide +kernel
theorem dX7_tells_32 : decode cX7_tells 32 = .ok (.iadd, 1) := by decide +kernel
theorem dX7_tells_33 : decode cX7_tells 33 = .ok (.aload_n 0, 1) := by decide +kernel
theorem dX7_tells_34 : decode cX7_tells 34 = .ok (.getfield 7, 3) := by decide +kernel
theorem dX7_tells_37 : decode cX7_tells 37 = .ok (.sipush 1078, 3) := by decide +kernel
theorem dX7_tells_40 : decode cX7_tells 40 = .ok (.iload 4, 2) := by decide +kernel
theorem dX7_tells_42 : decode cX7_tells 42 = .ok (.iadd, 1) := by decide +kernel
theorem dX7_tells_43 : decode cX7_tells 43 = .ok (.iconst 4, 1) := by decide +kernel
theorem dX7_tells_44 : decode cX7_tells 44 = .ok (.iadd, 1) := by decide +kernel
theorem dX7_tells_45 : decode cX7_tells 45 = .ok (.iaload, 1) := by decide +kernel
theorem dX7_tells_46 : decode cX7_tells 46 = .ok (.iastore, 1) := by decide +kernel
theorem dX7_tells_47 : decode cX7_tells 47 = .ok (.iinc 4 1, 3) := by decide +kernel
theorem dX7_tells_50 : decode cX7_tells 50 = .ok (.goto (-34), 3) := by decide +kernel
theorem dX7_tells_53 : decode cX7_tells 53 = .ok (.aload_n 0, 1) := by decide +kernel
theorem dX7_tells_54 : decode cX7_tells 54 = .ok (.getfield 7, 3) := by decide +kernel
theorem dX7_tells_57 : decode cX7_tells 57 = .ok (.sipush 1077, 3) := by decide +kernel
theorem dX7_tells_60 : decode cX7_tells 60 = .ok (.dup2, 1) := by decide +kernel
theorem dX7_tells_61 : decode cX7_tells 61 = .ok (.iaload, 1) := by decide +kernel
theorem dX7_tells_62 : decode cX7_tells 62 = .ok (.iconst 1, 1) := by decide +kernel
theorem dX7_tells_63 : decode cX7_tells 63 = .ok (.isub, 1) := by decide +kernel
theorem dX7_tells_64 : decode cX7_tells 64 = .ok (.iastore, 1) := by decide +kernel
theorem dX7_tells_65 : decode cX7_tells 65 = .ok (.sipush 1078, 3) := by decide +kernel
theorem dX7_tells_68 : decode cX7_tells 68 = .ok (.iconst 4, 1) := by decide +kernel
theorem dX7_tells_69 : decode cX7_tells 69 = .ok (.aload_n 0, 1) := by decide +kernel
theorem dX7_tells_70 : decode cX7_tells 70 = .ok (.getfield 7, 3) := by decide +kernel
theorem dX7_tells_73 : decode cX7_tells 73 = .ok (.sipush 1077, 3) := by decide +kernel
theorem dX7_tells_76 : decode cX7_tells 76 = .ok (.iaload, 1) := by decide +kernel
theorem dX7_tells_77 : decode cX7_tells 77 = .ok (.imul, 1) := by decide +kernel
theorem dX7_tells_78 : decode cX7_tells 78 = .ok (.iadd, 1) := by decide +kernel
theorem dX7_tells_79 : decode cX7_tells 79 = .ok (.istore 4, 2) := by decide +kernel
theorem dX7_tells_81 : decode cX7_tells 81 = .ok (.aload_n 0, 1) := by decide +kernel
theorem dX7_tells_82 : decode cX7_tells 82 = .ok (.getfield 7, 3) := by decide +kernel
theorem dX7_tells_85 : decode cX7_tells 85 = .ok (.iload 4, 2) := by decide +kernel
theorem dX7_tells_87 : decode cX7_tells 87 = .ok (.iload_n 1, 1) := by decide +kernel
theorem dX7_tells_88 : decode cX7_tells 88 = .ok (.iastore, 1) := by decide +kernel
theorem dX7_tells_89 : decode cX7_tells 89 = .ok (.aload_n 0, 1) := by decide +kernel
theorem dX7_tells_90 : decode cX7_tells 90 = .ok (.getfield 7, 3) := by decide +kernel
theorem dX7_tells_93 : decode cX7_tells 93 = .ok (.iload 4, 2) := by decide +kernel
theorem dX7_tells_95 : decode cX7_tells 95 = .ok (.iconst 1, 1) := by decide +kernel
theorem dX7_tells_96 : decode cX7_tells 96 = .ok (.iadd, 1) := by decide +kernel
theorem dX7_tells_97 : decode cX7_tells 97 = .ok (.iload_n 2, 1) := by decide +kernel
theorem dX7_tells_98 : decode cX7_tells 98 = .ok (.iconst 4, 1) := by decide +kernel
theorem dX7_tells_99 : decode cX7_tells 99 = .ok (.if_icmp .ge 7, 3) := by decide +kernel
theorem dX7_tells_102 : decode cX7_tells 102 = .ok (.iload_n 2, 1) := by decide +kernel
theorem dX7_tells_103 : decode cX7_tells 103 = .ok (.goto 4, 3) := by decide +kernel
theorem dX7_tells_106 : decode cX7_tells 106 = .ok (.iconst 4, 1) := by decide +kernel
theorem dX7_tells_107 : decode cX7_tells 107 = .ok (.iastore, 1) := by decide +kernel
theorem dX7_tells_108 : decode cX7_tells 108 = .ok (.aload_n 0, 1) := by decide +kernel
theorem dX7_tells_109 : decode cX7_tells 109 = .ok (.getfield 7, 3) := by decide +kernel
theorem dX7_tells_112 : decode cX7_tells 112 = .ok (.iload 4, 2) := by decide +kernel
theorem dX7_tells_114 : decode cX7_tells 114 = .ok (.iconst 2, 1) := by decide +kernel
theorem dX7_tells_115 : decode cX7_tells 115 = .ok (.iadd, 1) := by decide +kernel
theorem dX7_tells_116 : decode cX7_tells 116 = .ok (.iload_n 3, 1) := by decide +kernel
theorem dX7_tells_117 : decode cX7_tells 117 = .ok (.iastore, 1) := by decide +kernel
theorem dX7_tells_118 : decode cX7_tells 118 = .ok (.aload_n 0, 1) := by decide +kernel
theorem dX7_tells_119 : decode cX7_tells 119 = .ok (.getfield 7, 3) := by decide +kernel
theorem dX7_tells_122 : decode cX7_tells 122 = .ok (.iload 4, 2) := by decide +kernel
theorem dX7_tells_124 : decode cX7_tells 124 = .ok (.iconst 3, 1) := by decide +kernel
theorem dX7_tells_125 : decode cX7_tells 125 = .ok (.iadd, 1) := by decide +kernel
theorem dX7_tells_126 : decode cX7_tells 126 = .ok (.aload_n 0, 1) := by decide +kernel
theorem dX7_tells_127 : decode cX7_tells 127 = .ok (.getfield 7, 3) := by decide +kernel
theorem dX7_tells_130 : decode cX7_tells 130 = .ok (.sipush 1072, 3) := by decide +kernel
theorem dX7_tells_133 : decode cX7_tells 133 = .ok (.iaload, 1) := by decide +kernel
theorem dX7_tells_134 : decode cX7_tells 134 = .ok (.iastore, 1) := by decide +kernel
theorem dX7_tells_135 : decode cX7_tells 135 = .ok (.aload_n 0, 1) := by decide +kernel
theorem dX7_tells_136 : decode cX7_tells 136 = .ok (.getfield 7, 3) := by decide +kernel
theorem dX7_tells_139 : decode cX7_tells 139 = .ok (.sipush 1077, 3) := by decide +kernel
theorem dX7_tells_142 : decode cX7_tells 142 = .ok (.dup2, 1) := by decide +kernel
theorem dX7_tells_143 : decode cX7_tells 143 = .ok (.iaload, 1) := by decide +kernel
theorem dX7_tells_144 : decode cX7_tells 144 = .ok (.iconst 1, 1) := by decide +kernel
theorem dX7_tells_145 : decode cX7_tells 145 = .ok (.iadd, 1) := by decide +kernel
theorem dX7_tells_146 : decode cX7_tells 146 = .ok (.iastore, 1) := by decide +kernel
theorem dX7_tells_147 : decode cX7_tells 147 = .ok (.return_, 1) := by decide +kernel
theorem dX7_least_0 : decode cX7_least 0 = .ok (.bipush (-5), 2) := by decide +kernel
theorem dX7_least_2 : decode cX7_least 2 = .ok (.istore_n 2, 1) := by decide +kernel
theorem dX7_least_3 : decode cX7_least 3 = .ok (.iconst 0, 1) := by decide +kernel
theorem dX7_least_4 : decode cX7_least 4 = .ok (.istore_n 3, 1) := by decide +kernel
theorem dX7_least_5 : decode cX7_least 5 = .ok (.iload_n 3, 1) := by decide +kernel
theorem dX7_least_6 : decode cX7_least 6 = .ok (.bipush 26, 2) := by decide +kernel
end
section
theorem dX7_least_8 : decode cX7_least 8 = .ok (.if_icmp .ge 78, 3) := by decide +kernel
theorem dX7_least_11 : decode cX7_least 11 = .ok (.aload_n 0, 1) := by decide +kernel
theorem dX7_least_12 : decode cX7_least 12 = .ok (.iload_n 1, 1) := by decide +kernel
theorem dX7_least_13 : decode cX7_least 13 = .ok (.iload_n 3, 1) := by decide +kernel
theorem dX7_least_14 : decode cX7_least 14 = .ok (.invokevirtual 43, 3) := by decide +kernel
theorem dX7_least_17 : decode cX7_least 17 = .ok (.ifCond .eq 63, 3) := by decide +kernel
theorem dX7_least_20 : decode cX7_least 20 = .ok (.iload_n 2, 1) := by decide +kernel
theorem dX7_least_21 : decode cX7_least 21 = .ok (.bipush (-5), 2) := by decide +kernel
theorem dX7_least_23 : decode cX7_least 23 = .ok (.if_icmp .ne 7, 3) := by decide +kernel
theorem dX7_least_26 : decode cX7_least 26 = .ok (.iconst 1, 1) := by decide +kernel
theorem dX7_least_27 : decode cX7_least 27 = .ok (.goto 18, 3) := by decide +kernel
theorem dX7_least_30 : decode cX7_least 30 = .ok (.aload_n 0, 1) := by decide +kernel
theorem dX7_least_31 : decode cX7_least 31 = .ok (.iload_n 1, 1) := by decide +kernel
theorem dX7_least_32 : decode cX7_least 32 = .ok (.iload_n 2, 1) := by decide +kernel
theorem dX7_least_33 : decode cX7_least 33 = .ok (.iconst 1, 1) := by decide +kernel
theorem dX7_least_34 : decode cX7_least 34 = .ok (.invokevirtual 31, 3) := by decide +kernel
theorem dX7_least_37 : decode cX7_least 37 = .ok (.aload_n 0, 1) := by decide +kernel
theorem dX7_least_38 : decode cX7_least 38 = .ok (.iload_n 1, 1) := by decide +kernel
theorem dX7_least_39 : decode cX7_least 39 = .ok (.iload_n 3, 1) := by decide +kernel
theorem dX7_least_40 : decode cX7_least 40 = .ok (.iconst 1, 1) := by decide +kernel
theorem dX7_least_41 : decode cX7_least 41 = .ok (.invokevirtual 31, 3) := by decide +kernel
theorem dX7_least_44 : decode cX7_least 44 = .ok (.isub, 1) := by decide +kernel
theorem dX7_least_45 : decode cX7_least 45 = .ok (.istore 4, 2) := by decide +kernel
theorem dX7_least_47 : decode cX7_least 47 = .ok (.iload 4, 2) := by decide +kernel
theorem dX7_least_49 : decode cX7_least 49 = .ok (.ifCond .gt 25, 3) := by decide +kernel
theorem dX7_least_52 : decode cX7_least 52 = .ok (.iload 4, 2) := by decide +kernel
theorem dX7_least_54 : decode cX7_least 54 = .ok (.ifCond .ne 24, 3) := by decide +kernel
theorem dX7_least_57 : decode cX7_least 57 = .ok (.aload_n 0, 1) := by decide +kernel
theorem dX7_least_58 : decode cX7_least 58 = .ok (.iload_n 1, 1) := by decide +kernel
theorem dX7_least_59 : decode cX7_least 59 = .ok (.iload_n 3, 1) := by decide +kernel
theorem dX7_least_60 : decode cX7_least 60 = .ok (.iconst 3, 1) := by decide +kernel
theorem dX7_least_61 : decode cX7_least 61 = .ok (.invokevirtual 31, 3) := by decide +kernel
theorem dX7_least_64 : decode cX7_least 64 = .ok (.aload_n 0, 1) := by decide +kernel
theorem dX7_least_65 : decode cX7_least 65 = .ok (.iload_n 1, 1) := by decide +kernel
theorem dX7_least_66 : decode cX7_least 66 = .ok (.iload_n 2, 1) := by decide +kernel
theorem dX7_least_67 : decode cX7_least 67 = .ok (.iconst 3, 1) := by decide +kernel
theorem dX7_least_68 : decode cX7_least 68 = .ok (.invokevirtual 31, 3) := by decide +kernel
theorem dX7_least_71 : decode cX7_least 71 = .ok (.if_icmp .ge 7, 3) := by decide +kernel
theorem dX7_least_74 : decode cX7_least 74 = .ok (.iload_n 3, 1) := by decide +kernel
theorem dX7_least_75 : decode cX7_least 75 = .ok (.goto 4, 3) := by decide +kernel
theorem dX7_least_78 : decode cX7_least 78 = .ok (.iload_n 2, 1) := by decide +kernel
theorem dX7_least_79 : decode cX7_least 79 = .ok (.istore_n 2, 1) := by decide +kernel
theorem dX7_least_80 : decode cX7_least 80 = .ok (.iinc 3 1, 3) := by decide +kernel
theorem dX7_least_83 : decode cX7_least 83 = .ok (.goto (-78), 3) := by decide +kernel
theorem dX7_least_86 : decode cX7_least 86 = .ok (.iload_n 2, 1) := by decide +kernel
theorem dX7_least_87 : decode cX7_least 87 = .ok (.ireturn, 1) := by decide +kernel
theorem dX7_drops_0 : decode cX7_drops 0 = .ok (.aload_n 0, 1) := by decide +kernel
theorem dX7_drops_1 : decode cX7_drops 1 = .ok (.iload_n 1, 1) := by decide +kernel
theorem dX7_drops_2 : decode cX7_drops 2 = .ok (.iload_n 2, 1) := by decide +kernel
theorem dX7_drops_3 : decode cX7_drops 3 = .ok (.iconst 1, 1) := by decide +kernel
theorem dX7_drops_4 : decode cX7_drops 4 = .ok (.invokevirtual 31, 3) := by decide +kernel
theorem dX7_drops_7 : decode cX7_drops 7 = .ok (.istore_n 3, 1) := by decide +kernel
theorem dX7_drops_8 : decode cX7_drops 8 = .ok (.aload_n 0, 1) := by decide +kernel
theorem dX7_drops_9 : decode cX7_drops 9 = .ok (.iload_n 1, 1) := by decide +kernel
theorem dX7_drops_10 : decode cX7_drops 10 = .ok (.iconst 1, 1) := by decide +kernel
theorem dX7_drops_11 : decode cX7_drops 11 = .ok (.iload_n 3, 1) := by decide +kernel
theorem dX7_drops_12 : decode cX7_drops 12 = .ok (.aload_n 0, 1) := by decide +kernel
theorem dX7_drops_13 : decode cX7_drops 13 = .ok (.iload_n 1, 1) := by decide +kernel
theorem dX7_drops_14 : decode cX7_drops 14 = .ok (.iconst 1, 1) := by decide +kernel
theorem dX7_drops_15 : decode cX7_drops 15 = .ok (.invokevirtual 47, 3) := by decide +kernel
theorem dX7_drops_18 : decode cX7_drops 18 = .ok (.if_icmp .le 7, 3) := by decide +kernel
theorem dX7_drops_21 : decode cX7_drops 21 = .ok (.iload_n 3, 1) := by decide +kernel
theorem dX7_drops_22 : decode cX7_drops 22 = .ok (.goto 9, 3) := by decide +kernel
theorem dX7_drops_25 : decode cX7_drops 25 = .ok (.aload_n 0, 1) := by decide +kernel
theorem dX7_drops_26 : decode cX7_drops 26 = .ok (.iload_n 1, 1) := by decide +kernel
theorem dX7_drops_27 : decode cX7_drops 27 = .ok (.iconst 1, 1) := by decide +kernel
theorem dX7_drops_28 : decode cX7_drops 28 = .ok (.invokevirtual 47, 3) := by decide +kernel
theorem dX7_drops_31 : decode cX7_drops 31 = .ok (.invokevirtual 23, 3) := by decide +kernel
theorem dX7_drops_34 : decode cX7_drops 34 = .ok (.aload_n 0, 1) := by decide +kernel
theorem dX7_drops_35 : decode cX7_drops 35 = .ok (.iload_n 1, 1) := by decide +kernel
theorem dX7_drops_36 : decode cX7_drops 36 = .ok (.iload_n 2, 1) := by decide +kernel
theorem dX7_drops_37 : decode cX7_drops 37 = .ok (.iconst 0, 1) := by decide +kernel
theorem dX7_drops_38 : decode cX7_drops 38 = .ok (.iconst 0, 1) := by decide +kernel
theorem dX7_drops_39 : decode cX7_drops 39 = .ok (.invokevirtual 51, 3) := by decide +kernel
theorem dX7_drops_42 : decode cX7_drops 42 = .ok (.return_, 1) := by decide +kernel
theorem dX7_evicts_0 : decode cX7_evicts 0 = .ok (.aload_n 0, 1) := by decide +kernel
theorem dX7_evicts_1 : decode cX7_evicts 1 = .ok (.iload_n 1, 1) := by decide +kernel
theorem dX7_evicts_2 : decode cX7_evicts 2 = .ok (.invokevirtual 55, 3) := by decide +kernel
theorem dX7_evicts_5 : decode cX7_evicts 5 = .ok (.istore_n 2, 1) := by decide +kernel
theorem dX7_evicts_6 : decode cX7_evicts 6 = .ok (.aload_n 0, 1) := by decide +kernel
theorem dX7_evicts_7 : decode cX7_evicts 7 = .ok (.iload_n 1, 1) := by decide +kernel
theorem dX7_evicts_8 : decode cX7_evicts 8 = .ok (.iload_n 2, 1) := by decide +kernel
theorem dX7_evicts_9 : decode cX7_evicts 9 = .ok (.invokevirtual 58, 3) := by decide +kernel
theorem dX7_evicts_12 : decode cX7_evicts 12 = .ok (.aload_n 0, 1) := by decide +kernel
theorem dX7_evicts_13 : decode cX7_evicts 13 = .ok (.getfield 7, 3) := by decide +kernel
theorem dX7_evicts_16 : decode cX7_evicts 16 = .ok (.sipush 1073, 3) := by decide +kernel
theorem dX7_evicts_19 : decode cX7_evicts 19 = .ok (.dup2, 1) := by decide +kernel
theorem dX7_evicts_20 : decode cX7_evicts 20 = .ok (.iaload, 1) := by decide +kernel
theorem dX7_evicts_21 : decode cX7_evicts 21 = .ok (.iconst 1, 1) := by decide +kernel
theorem dX7_evicts_22 : decode cX7_evicts 22 = .ok (.iadd, 1) := by decide +kernel
theorem dX7_evicts_23 : decode cX7_evicts 23 = .ok (.iastore, 1) := by decide +kernel
theorem dX7_evicts_24 : decode cX7_evicts 24 = .ok (.aload_n 0, 1) := by decide +kernel
theorem dX7_evicts_25 : decode cX7_evicts 25 = .ok (.iconst 0, 1) := by decide +kernel
theorem dX7_evicts_26 : decode cX7_evicts 26 = .ok (.iload_n 1, 1) := by decide +kernel
theorem dX7_evicts_27 : decode cX7_evicts 27 = .ok (.bipush 97, 2) := by decide +kernel
theorem dX7_evicts_29 : decode cX7_evicts 29 = .ok (.iload_n 2, 1) := by decide +kernel
theorem dX7_evicts_30 : decode cX7_evicts 30 = .ok (.iadd, 1) := by decide +kernel
theorem dX7_evicts_31 : decode cX7_evicts 31 = .ok (.invokevirtual 62, 3) := by decide +kernel
theorem dX7_evicts_34 : decode cX7_evicts 34 = .ok (.return_, 1) := by decide +kernel
theorem dX7_comes_0 : decode cX7_comes 0 = .ok (.aload_n 0, 1) := by decide +kernel
theorem dX7_comes_1 : decode cX7_comes 1 = .ok (.getfield 7, 3) := by decide +kernel
theorem dX7_comes_4 : decode cX7_comes 4 = .ok (.sipush 1072, 3) := by decide +kernel
theorem dX7_comes_7 : decode cX7_comes 7 = .ok (.dup2, 1) := by decide +kernel
theorem dX7_comes_8 : decode cX7_comes 8 = .ok (.iaload, 1) := by decide +kernel
theorem dX7_comes_9 : decode cX7_comes 9 = .ok (.iconst 1, 1) := by decide +kernel
theorem dX7_comes_10 : decode cX7_comes 10 = .ok (.iadd, 1) := by decide +kernel
theorem dX7_comes_11 : decode cX7_comes 11 = .ok (.iastore, 1) := by decide +kernel
theorem dX7_comes_12 : decode cX7_comes 12 = .ok (.aload_n 0, 1) := by decide +kernel
theorem dX7_comes_13 : decode cX7_comes 13 = .ok (.iload_n 1, 1) := by decide +kernel
theorem dX7_comes_14 : decode cX7_comes 14 = .ok (.iconst 2, 1) := by decide +kernel
theorem dX7_comes_15 : decode cX7_comes 15 = .ok (.aload_n 0, 1) := by decide +kernel
theorem dX7_comes_16 : decode cX7_comes 16 = .ok (.iload_n 1, 1) := by decide +kernel
theorem dX7_comes_17 : decode cX7_comes 17 = .ok (.iconst 2, 1) := by decide +kernel
theorem dX7_comes_18 : decode cX7_comes 18 = .ok (.invokevirtual 47, 3) := by decide +kernel
theorem dX7_comes_21 : decode cX7_comes 21 = .ok (.iload_n 3, 1) := by decide +kernel
theorem dX7_comes_22 : decode cX7_comes 22 = .ok (.iadd, 1) := by decide +kernel
theorem dX7_comes_23 : decode cX7_comes 23 = .ok (.invokevirtual 23, 3) := by decide +kernel
theorem dX7_comes_26 : decode cX7_comes 26 = .ok (.aload_n 0, 1) := by decide +kernel
theorem dX7_comes_27 : decode cX7_comes 27 = .ok (.iload_n 1, 1) := by decide +kernel
theorem dX7_comes_28 : decode cX7_comes 28 = .ok (.iconst 3, 1) := by decide +kernel
theorem dX7_comes_29 : decode cX7_comes 29 = .ok (.aload_n 0, 1) := by decide +kernel
theorem dX7_comes_30 : decode cX7_comes 30 = .ok (.iload_n 1, 1) := by decide +kernel
theorem dX7_comes_31 : decode cX7_comes 31 = .ok (.iconst 3, 1) := by decide +kernel
theorem dX7_comes_32 : decode cX7_comes 32 = .ok (.invokevirtual 47, 3) := by decide +kernel
theorem dX7_comes_35 : decode cX7_comes 35 = .ok (.iconst 1, 1) := by decide +kernel
theorem dX7_comes_36 : decode cX7_comes 36 = .ok (.iadd, 1) := by decide +kernel
theorem dX7_comes_37 : decode cX7_comes 37 = .ok (.invokevirtual 23, 3) := by decide +kernel
theorem dX7_comes_40 : decode cX7_comes 40 = .ok (.aload_n 0, 1) := by decide +kernel
theorem dX7_comes_41 : decode cX7_comes 41 = .ok (.iload_n 1, 1) := by decide +kernel
theorem dX7_comes_42 : decode cX7_comes 42 = .ok (.iload_n 2, 1) := by decide +kernel
theorem dX7_comes_43 : decode cX7_comes 43 = .ok (.iconst 4, 1) := by decide +kernel
theorem dX7_comes_44 : decode cX7_comes 44 = .ok (.aload_n 0, 1) := by decide +kernel
theorem dX7_comes_45 : decode cX7_comes 45 = .ok (.iload_n 1, 1) := by decide +kernel
theorem dX7_comes_46 : decode cX7_comes 46 = .ok (.iload_n 2, 1) := by decide +kernel
theorem dX7_comes_47 : decode cX7_comes 47 = .ok (.iconst 4, 1) := by decide +kernel
theorem dX7_comes_48 : decode cX7_comes 48 = .ok (.invokevirtual 31, 3) := by decide +kernel
theorem dX7_comes_51 : decode cX7_comes 51 = .ok (.iload_n 3, 1) := by decide +kernel
theorem dX7_comes_52 : decode cX7_comes 52 = .ok (.iadd, 1) := by decide +kernel
theorem dX7_comes_53 : decode cX7_comes 53 = .ok (.invokevirtual 51, 3) := by decide +kernel
theorem dX7_comes_56 : decode cX7_comes 56 = .ok (.aload_n 0, 1) := by decide +kernel
theorem dX7_comes_57 : decode cX7_comes 57 = .ok (.iload_n 1, 1) := by decide +kernel
theorem dX7_comes_58 : decode cX7_comes 58 = .ok (.iload_n 2, 1) := by decide +kernel
theorem dX7_comes_59 : decode cX7_comes 59 = .ok (.invokevirtual 43, 3) := by decide +kernel
theorem dX7_comes_62 : decode cX7_comes 62 = .ok (.ifCond .eq 22, 3) := by decide +kernel
theorem dX7_comes_65 : decode cX7_comes 65 = .ok (.aload_n 0, 1) := by decide +kernel
theorem dX7_comes_66 : decode cX7_comes 66 = .ok (.iload_n 1, 1) := by decide +kernel
theorem dX7_comes_67 : decode cX7_comes 67 = .ok (.iload_n 2, 1) := by decide +kernel
theorem dX7_comes_68 : decode cX7_comes 68 = .ok (.iconst 1, 1) := by decide +kernel
theorem dX7_comes_69 : decode cX7_comes 69 = .ok (.aload_n 0, 1) := by decide +kernel
theorem dX7_comes_70 : decode cX7_comes 70 = .ok (.iload_n 1, 1) := by decide +kernel
theorem dX7_comes_71 : decode cX7_comes 71 = .ok (.iload_n 2, 1) := by decide +kernel
theorem dX7_comes_72 : decode cX7_comes 72 = .ok (.iconst 1, 1) := by decide +kernel
theorem dX7_comes_73 : decode cX7_comes 73 = .ok (.invokevirtual 31, 3) := by decide +kernel
theorem dX7_comes_76 : decode cX7_comes 76 = .ok (.iload_n 3, 1) := by decide +kernel
theorem dX7_comes_77 : decode cX7_comes 77 = .ok (.iadd, 1) := by decide +kernel
theorem dX7_comes_78 : decode cX7_comes 78 = .ok (.invokevirtual 51, 3) := by decide +kernel
theorem dX7_comes_81 : decode cX7_comes 81 = .ok (.goto 58, 3) := by decide +kernel
theorem dX7_comes_84 : decode cX7_comes 84 = .ok (.aload_n 0, 1) := by decide +kernel
theorem dX7_comes_85 : decode cX7_comes 85 = .ok (.iload_n 1, 1) := by decide +kernel
theorem dX7_comes_86 : decode cX7_comes 86 = .ok (.invokevirtual 65, 3) := by decide +kernel
theorem dX7_comes_89 : decode cX7_comes 89 = .ok (.aload_n 0, 1) := by decide +kernel
theorem dX7_comes_90 : decode cX7_comes 90 = .ok (.iload_n 1, 1) := by decide +kernel
theorem dX7_comes_91 : decode cX7_comes 91 = .ok (.iconst 0, 1) := by decide +kernel
theorem dX7_comes_92 : decode cX7_comes 92 = .ok (.invokevirtual 47, 3) := by decide +kernel
theorem dX7_comes_95 : decode cX7_comes 95 = .ok (.if_icmp .ne 8, 3) := by decide +kernel
theorem dX7_comes_98 : decode cX7_comes 98 = .ok (.aload_n 0, 1) := by decide +kernel
theorem dX7_comes_99 : decode cX7_comes 99 = .ok (.iload_n 1, 1) := by decide +kernel
theorem dX7_comes_100 : decode cX7_comes 100 = .ok (.invokevirtual 68, 3) := by decide +kernel
theorem dX7_comes_103 : decode cX7_comes 103 = .ok (.aload_n 0, 1) := by decide +kernel
theorem dX7_comes_104 : decode cX7_comes 104 = .ok (.iload_n 1, 1) := by decide +kernel
theorem dX7_comes_105 : decode cX7_comes 105 = .ok (.iload_n 2, 1) := by decide +kernel
theorem dX7_comes_106 : decode cX7_comes 106 = .ok (.iconst 0, 1) := by decide +kernel
theorem dX7_comes_107 : decode cX7_comes 107 = .ok (.iconst 1, 1) := by decide +kernel
theorem dX7_comes_108 : decode cX7_comes 108 = .ok (.invokevirtual 51, 3) := by decide +kernel
theorem dX7_comes_111 : decode cX7_comes 111 = .ok (.aload_n 0, 1) := by decide +kernel
theorem dX7_comes_112 : decode cX7_comes 112 = .ok (.iload_n 1, 1) := by decide +kernel
theorem dX7_comes_113 : decode cX7_comes 113 = .ok (.iload_n 2, 1) := by decide +kernel
theorem dX7_comes_114 : decode cX7_comes 114 = .ok (.iconst 1, 1) := by decide +kernel
theorem dX7_comes_115 : decode cX7_comes 115 = .ok (.aload_n 0, 1) := by decide +kernel
theorem dX7_comes_116 : decode cX7_comes 116 = .ok (.iload_n 1, 1) := by decide +kernel
theorem dX7_comes_117 : decode cX7_comes 117 = .ok (.iconst 1, 1) := by decide +kernel
theorem dX7_comes_118 : decode cX7_comes 118 = .ok (.invokevirtual 47, 3) := by decide +kernel
theorem dX7_comes_121 : decode cX7_comes 121 = .ok (.iload_n 3, 1) := by decide +kernel
theorem dX7_comes_122 : decode cX7_comes 122 = .ok (.iadd, 1) := by decide +kernel
theorem dX7_comes_123 : decode cX7_comes 123 = .ok (.invokevirtual 51, 3) := by decide +kernel
theorem dX7_comes_126 : decode cX7_comes 126 = .ok (.aload_n 0, 1) := by decide +kernel
theorem dX7_comes_127 : decode cX7_comes 127 = .ok (.iload_n 1, 1) := by decide +kernel
theorem dX7_comes_128 : decode cX7_comes 128 = .ok (.iload_n 2, 1) := by decide +kernel
theorem dX7_comes_129 : decode cX7_comes 129 = .ok (.iconst 2, 1) := by decide +kernel
theorem dX7_comes_130 : decode cX7_comes 130 = .ok (.aload_n 0, 1) := by decide +kernel
theorem dX7_comes_131 : decode cX7_comes 131 = .ok (.iload_n 1, 1) := by decide +kernel
theorem dX7_comes_132 : decode cX7_comes 132 = .ok (.iconst 1, 1) := by decide +kernel
theorem dX7_comes_133 : decode cX7_comes 133 = .ok (.invokevirtual 47, 3) := by decide +kernel
theorem dX7_comes_136 : decode cX7_comes 136 = .ok (.invokevirtual 51, 3) := by decide +kernel
theorem dX7_comes_139 : decode cX7_comes 139 = .ok (.aload_n 0, 1) := by decide +kernel
theorem dX7_comes_140 : decode cX7_comes 140 = .ok (.iload_n 1, 1) := by decide +kernel
theorem dX7_comes_141 : decode cX7_comes 141 = .ok (.iload_n 2, 1) := by decide +kernel
theorem dX7_comes_142 : decode cX7_comes 142 = .ok (.iconst 3, 1) := by decide +kernel
theorem dX7_comes_143 : decode cX7_comes 143 = .ok (.aload_n 0, 1) := by decide +kernel
theorem dX7_comes_144 : decode cX7_comes 144 = .ok (.getfield 7, 3) := by decide +kernel
theorem dX7_comes_147 : decode cX7_comes 147 = .ok (.sipush 1072, 3) := by decide +kernel
theorem dX7_comes_150 : decode cX7_comes 150 = .ok (.iaload, 1) := by decide +kernel
theorem dX7_comes_151 : decode cX7_comes 151 = .ok (.invokevirtual 51, 3) := by decide +kernel
theorem dX7_comes_154 : decode cX7_comes 154 = .ok (.return_, 1) := by decide +kernel
theorem dX7_empties_0 : decode cX7_empties 0 = .ok (.iconst 1, 1) := by decide +kernel
theorem dX7_empties_1 : decode cX7_empties 1 = .ok (.istore_n 2, 1) := by decide +kernel
theorem dX7_empties_2 : decode cX7_empties 2 = .ok (.iload_n 2, 1) := by decide +kernel
theorem dX7_empties_3 : decode cX7_empties 3 = .ok (.sipush 134, 3) := by decide +kernel
theorem dX7_empties_6 : decode cX7_empties 6 = .ok (.if_icmp .ge 16, 3) := by decide +kernel
theorem dX7_empties_9 : decode cX7_empties 9 = .ok (.aload_n 0, 1) := by decide +kernel
theorem dX7_empties_10 : decode cX7_empties 10 = .ok (.iload_n 1, 1) := by decide +kernel
theorem dX7_empties_11 : decode cX7_empties 11 = .ok (.iload_n 2, 1) := by decide +kernel
theorem dX7_empties_12 : decode cX7_empties 12 = .ok (.iconst 0, 1) := by decide +kernel
theorem dX7_empties_13 : decode cX7_empties 13 = .ok (.invokevirtual 23, 3) := by decide +kernel
theorem dX7_empties_16 : decode cX7_empties 16 = .ok (.iinc 2 1, 3) := by decide +kernel
theorem dX7_empties_19 : decode cX7_empties 19 = .ok (.goto (-17), 3) := by decide +kernel
theorem dX7_empties_22 : decode cX7_empties 22 = .ok (.return_, 1) := by decide +kernel
theorem dX7_copies_0 : decode cX7_copies 0 = .ok (.iconst 0, 1) := by decide +kernel
theorem dX7_copies_1 : decode cX7_copies 1 = .ok (.istore_n 3, 1) := by decide +kernel
theorem dX7_copies_2 : decode cX7_copies 2 = .ok (.iload_n 3, 1) := by decide +kernel
theorem dX7_copies_3 : decode cX7_copies 3 = .ok (.sipush 134, 3) := by decide +kernel
theorem dX7_copies_6 : decode cX7_copies 6 = .ok (.if_icmp .ge 21, 3) := by decide +kernel
theorem dX7_copies_9 : decode cX7_copies 9 = .ok (.aload_n 0, 1) := by decide +kernel
theorem dX7_copies_10 : decode cX7_copies 10 = .ok (.iload_n 2, 1) := by decide +kernel
theorem dX7_copies_11 : decode cX7_copies 11 = .ok (.iload_n 3, 1) := by decide +kernel
theorem dX7_copies_12 : decode cX7_copies 12 = .ok (.aload_n 0, 1) := by decide +kernel
theorem dX7_copies_13 : decode cX7_copies 13 = .ok (.iload_n 1, 1) := by decide +kernel
theorem dX7_copies_14 : decode cX7_copies 14 = .ok (.iload_n 3, 1) := by decide +kernel
theorem dX7_copies_15 : decode cX7_copies 15 = .ok (.invokevirtual 47, 3) := by decide +kernel
theorem dX7_copies_18 : decode cX7_copies 18 = .ok (.invokevirtual 23, 3) := by decide +kernel
theorem dX7_copies_21 : decode cX7_copies 21 = .ok (.iinc 3 1, 3) := by decide +kernel
theorem dX7_copies_24 : decode cX7_copies 24 = .ok (.goto (-22), 3) := by decide +kernel
theorem dX7_copies_27 : decode cX7_copies 27 = .ok (.return_, 1) := by decide +kernel
theorem dX7_joins_0 : decode cX7_joins 0 = .ok (.iconst 0, 1) := by decide +kernel
theorem dX7_joins_1 : decode cX7_joins 1 = .ok (.istore_n 3, 1) := by decide +kernel
theorem dX7_joins_2 : decode cX7_joins 2 = .ok (.iload_n 3, 1) := by decide +kernel
theorem dX7_joins_3 : decode cX7_joins 3 = .ok (.bipush 26, 2) := by decide +kernel
theorem dX7_joins_5 : decode cX7_joins 5 = .ok (.if_icmp .ge 192, 3) := by decide +kernel
theorem dX7_joins_8 : decode cX7_joins 8 = .ok (.aload_n 0, 1) := by decide +kernel
theorem dX7_joins_9 : decode cX7_joins 9 = .ok (.iload_n 1, 1) := by decide +kernel
theorem dX7_joins_10 : decode cX7_joins 10 = .ok (.iload_n 3, 1) := by decide +kernel
theorem dX7_joins_11 : decode cX7_joins 11 = .ok (.invokevirtual 43, 3) := by decide +kernel
theorem dX7_joins_14 : decode cX7_joins 14 = .ok (.istore 4, 2) := by decide +kernel
theorem dX7_joins_16 : decode cX7_joins 16 = .ok (.aload_n 0, 1) := by decide +kernel
theorem dX7_joins_17 : decode cX7_joins 17 = .ok (.iload_n 2, 1) := by decide +kernel
theorem dX7_joins_18 : decode cX7_joins 18 = .ok (.iload_n 3, 1) := by decide +kernel
theorem dX7_joins_19 : decode cX7_joins 19 = .ok (.invokevirtual 43, 3) := by decide +kernel
theorem dX7_joins_22 : decode cX7_joins 22 = .ok (.istore 5, 2) := by decide +kernel
theorem dX7_joins_24 : decode cX7_joins 24 = .ok (.iload 4, 2) := by decide +kernel
theorem dX7_joins_26 : decode cX7_joins 26 = .ok (.ifCond .eq 13, 3) := by decide +kernel
theorem dX7_joins_29 : decode cX7_joins 29 = .ok (.aload_n 0, 1) := by decide +kernel
theorem dX7_joins_30 : decode cX7_joins 30 = .ok (.iload_n 1, 1) := by decide +kernel
theorem dX7_joins_31 : decode cX7_joins 31 = .ok (.iload_n 3, 1) := by decide +kernel
theorem dX7_joins_32 : decode cX7_joins 32 = .ok (.iconst 1, 1) := by decide +kernel
theorem dX7_joins_33 : decode cX7_joins 33 = .ok (.invokevirtual 31, 3) := by decide +kernel
theorem dX7_joins_36 : decode cX7_joins 36 = .ok (.goto 9, 3) := by decide +kernel
theorem dX7_joins_39 : decode cX7_joins 39 = .ok (.aload_n 0, 1) := by decide +kernel
theorem dX7_joins_40 : decode cX7_joins 40 = .ok (.iload_n 1, 1) := by decide +kernel
theorem dX7_joins_41 : decode cX7_joins 41 = .ok (.iconst 1, 1) := by decide +kernel
theorem dX7_joins_42 : decode cX7_joins 42 = .ok (.invokevirtual 47, 3) := by decide +kernel
theorem dX7_joins_45 : decode cX7_joins 45 = .ok (.iload 5, 2) := by decide +kernel
theorem dX7_joins_47 : decode cX7_joins 47 = .ok (.ifCond .eq 13, 3) := by decide +kernel
theorem dX7_joins_50 : decode cX7_joins 50 = .ok (.aload_n 0, 1) := by decide +kernel
theorem dX7_joins_51 : decode cX7_joins 51 = .ok (.iload_n 2, 1) := by decide +kernel
theorem dX7_joins_52 : decode cX7_joins 52 = .ok (.iload_n 3, 1) := by decide +kernel
theorem dX7_joins_53 : decode cX7_joins 53 = .ok (.iconst 1, 1) := by decide +kernel
theorem dX7_joins_54 : decode cX7_joins 54 = .ok (.invokevirtual 31, 3) := by decide +kernel
theorem dX7_joins_57 : decode cX7_joins 57 = .ok (.goto 9, 3) := by decide +kernel
theorem dX7_joins_60 : decode cX7_joins 60 = .ok (.aload_n 0, 1) := by decide +kernel
theorem dX7_joins_61 : decode cX7_joins 61 = .ok (.iload_n 2, 1) := by decide +kernel
theorem dX7_joins_62 : decode cX7_joins 62 = .ok (.iconst 1, 1) := by decide +kernel
theorem dX7_joins_63 : decode cX7_joins 63 = .ok (.invokevirtual 47, 3) := by decide +kernel
theorem dX7_joins_66 : decode cX7_joins 66 = .ok (.iadd, 1) := by decide +kernel
theorem dX7_joins_67 : decode cX7_joins 67 = .ok (.istore 6, 2) := by decide +kernel
theorem dX7_joins_69 : decode cX7_joins 69 = .ok (.iload 4, 2) := by decide +kernel
theorem dX7_joins_71 : decode cX7_joins 71 = .ok (.ifCond .eq 13, 3) := by decide +kernel
theorem dX7_joins_74 : decode cX7_joins 74 = .ok (.aload_n 0, 1) := by decide +kernel
theorem dX7_joins_75 : decode cX7_joins 75 = .ok (.iload_n 1, 1) := by decide +kernel
theorem dX7_joins_76 : decode cX7_joins 76 = .ok (.iload_n 3, 1) := by decide +kernel
theorem dX7_joins_77 : decode cX7_joins 77 = .ok (.iconst 2, 1) := by decide +kernel
theorem dX7_joins_78 : decode cX7_joins 78 = .ok (.invokevirtual 31, 3) := by decide +kernel
theorem dX7_joins_81 : decode cX7_joins 81 = .ok (.goto 9, 3) := by decide +kernel
theorem dX7_joins_84 : decode cX7_joins 84 = .ok (.aload_n 0, 1) := by decide +kernel
theorem dX7_joins_85 : decode cX7_joins 85 = .ok (.iload_n 1, 1) := by decide +kernel
theorem dX7_joins_86 : decode cX7_joins 86 = .ok (.iconst 1, 1) := by decide +kernel
theorem dX7_joins_87 : decode cX7_joins 87 = .ok (.invokevirtual 47, 3) := by decide +kernel
theorem dX7_joins_90 : decode cX7_joins 90 = .ok (.iload 5, 2) := by decide +kernel
theorem dX7_joins_92 : decode cX7_joins 92 = .ok (.ifCond .eq 13, 3) := by decide +kernel
theorem dX7_joins_95 : decode cX7_joins 95 = .ok (.aload_n 0, 1) := by decide +kernel
theorem dX7_joins_96 : decode cX7_joins 96 = .ok (.iload_n 2, 1) := by decide +kernel
theorem dX7_joins_97 : decode cX7_joins 97 = .ok (.iload_n 3, 1) := by decide +kernel
theorem dX7_joins_98 : decode cX7_joins 98 = .ok (.iconst 2, 1) := by decide +kernel
theorem dX7_joins_99 : decode cX7_joins 99 = .ok (.invokevirtual 31, 3) := by decide +kernel
theorem dX7_joins_102 : decode cX7_joins 102 = .ok (.goto 9, 3) := by decide +kernel
theorem dX7_joins_105 : decode cX7_joins 105 = .ok (.aload_n 0, 1) := by decide +kernel
theorem dX7_joins_106 : decode cX7_joins 106 = .ok (.iload_n 2, 1) := by decide +kernel
theorem dX7_joins_107 : decode cX7_joins 107 = .ok (.iconst 1, 1) := by decide +kernel
theorem dX7_joins_108 : decode cX7_joins 108 = .ok (.invokevirtual 47, 3) := by decide +kernel
theorem dX7_joins_111 : decode cX7_joins 111 = .ok (.iadd, 1) := by decide +kernel
theorem dX7_joins_112 : decode cX7_joins 112 = .ok (.istore 7, 2) := by decide +kernel
theorem dX7_joins_114 : decode cX7_joins 114 = .ok (.aload_n 0, 1) := by decide +kernel
theorem dX7_joins_115 : decode cX7_joins 115 = .ok (.iload_n 1, 1) := by decide +kernel
theorem dX7_joins_116 : decode cX7_joins 116 = .ok (.iload_n 3, 1) := by decide +kernel
theorem dX7_joins_117 : decode cX7_joins 117 = .ok (.iconst 0, 1) := by decide +kernel
theorem dX7_joins_118 : decode cX7_joins 118 = .ok (.iload 4, 2) := by decide +kernel
theorem dX7_joins_120 : decode cX7_joins 120 = .ok (.ifCond .ne 8, 3) := by decide +kernel
theorem dX7_joins_123 : decode cX7_joins 123 = .ok (.iload 5, 2) := by decide +kernel
theorem dX7_joins_125 : decode cX7_joins 125 = .ok (.ifCond .eq 7, 3) := by decide +kernel
theorem dX7_joins_128 : decode cX7_joins 128 = .ok (.iconst 1, 1) := by decide +kernel
theorem dX7_joins_129 : decode cX7_joins 129 = .ok (.goto 4, 3) := by decide +kernel
theorem dX7_joins_132 : decode cX7_joins 132 = .ok (.iconst 0, 1) := by decide +kernel
theorem dX7_joins_133 : decode cX7_joins 133 = .ok (.invokevirtual 51, 3) := by decide +kernel
theorem dX7_joins_136 : decode cX7_joins 136 = .ok (.aload_n 0, 1) := by decide +kernel
theorem dX7_joins_137 : decode cX7_joins 137 = .ok (.iload_n 1, 1) := by decide +kernel
theorem dX7_joins_138 : decode cX7_joins 138 = .ok (.iload_n 3, 1) := by decide +kernel
theorem dX7_joins_139 : decode cX7_joins 139 = .ok (.iconst 1, 1) := by decide +kernel
theorem dX7_joins_140 : decode cX7_joins 140 = .ok (.iload 6, 2) := by decide +kernel
theorem dX7_joins_142 : decode cX7_joins 142 = .ok (.invokevirtual 51, 3) := by decide +kernel
theorem dX7_joins_145 : decode cX7_joins 145 = .ok (.aload_n 0, 1) := by decide +kernel
theorem dX7_joins_146 : decode cX7_joins 146 = .ok (.iload_n 1, 1) := by decide +kernel
theorem dX7_joins_147 : decode cX7_joins 147 = .ok (.iload_n 3, 1) := by decide +kernel
theorem dX7_joins_148 : decode cX7_joins 148 = .ok (.iconst 2, 1) := by decide +kernel
theorem dX7_joins_149 : decode cX7_joins 149 = .ok (.iload 7, 2) := by decide +kernel
theorem dX7_joins_151 : decode cX7_joins 151 = .ok (.invokevirtual 51, 3) := by decide +kernel
theorem dX7_joins_154 : decode cX7_joins 154 = .ok (.aload_n 0, 1) := by decide +kernel
theorem dX7_joins_155 : decode cX7_joins 155 = .ok (.iload_n 1, 1) := by decide +kernel
theorem dX7_joins_156 : decode cX7_joins 156 = .ok (.iload_n 3, 1) := by decide +kernel
theorem dX7_joins_157 : decode cX7_joins 157 = .ok (.iconst 3, 1) := by decide +kernel
theorem dX7_joins_158 : decode cX7_joins 158 = .ok (.aload_n 0, 1) := by decide +kernel
theorem dX7_joins_159 : decode cX7_joins 159 = .ok (.getfield 7, 3) := by decide +kernel
theorem dX7_joins_162 : decode cX7_joins 162 = .ok (.sipush 1072, 3) := by decide +kernel
theorem dX7_joins_165 : decode cX7_joins 165 = .ok (.iaload, 1) := by decide +kernel
theorem dX7_joins_166 : decode cX7_joins 166 = .ok (.invokevirtual 51, 3) := by decide +kernel
theorem dX7_joins_169 : decode cX7_joins 169 = .ok (.aload_n 0, 1) := by decide +kernel
theorem dX7_joins_170 : decode cX7_joins 170 = .ok (.iload_n 1, 1) := by decide +kernel
theorem dX7_joins_171 : decode cX7_joins 171 = .ok (.iload_n 3, 1) := by decide +kernel
theorem dX7_joins_172 : decode cX7_joins 172 = .ok (.iconst 4, 1) := by decide +kernel
theorem dX7_joins_173 : decode cX7_joins 173 = .ok (.aload_n 0, 1) := by decide +kernel
theorem dX7_joins_174 : decode cX7_joins 174 = .ok (.iload_n 1, 1) := by decide +kernel
theorem dX7_joins_175 : decode cX7_joins 175 = .ok (.iload_n 3, 1) := by decide +kernel
theorem dX7_joins_176 : decode cX7_joins 176 = .ok (.iconst 4, 1) := by decide +kernel
theorem dX7_joins_177 : decode cX7_joins 177 = .ok (.invokevirtual 31, 3) := by decide +kernel
theorem dX7_joins_180 : decode cX7_joins 180 = .ok (.aload_n 0, 1) := by decide +kernel
theorem dX7_joins_181 : decode cX7_joins 181 = .ok (.iload_n 2, 1) := by decide +kernel
theorem dX7_joins_182 : decode cX7_joins 182 = .ok (.iload_n 3, 1) := by decide +kernel
theorem dX7_joins_183 : decode cX7_joins 183 = .ok (.iconst 4, 1) := by decide +kernel
theorem dX7_joins_184 : decode cX7_joins 184 = .ok (.invokevirtual 31, 3) := by decide +kernel
theorem dX7_joins_187 : decode cX7_joins 187 = .ok (.iadd, 1) := by decide +kernel
theorem dX7_joins_188 : decode cX7_joins 188 = .ok (.invokevirtual 51, 3) := by decide +kernel
theorem dX7_joins_191 : decode cX7_joins 191 = .ok (.iinc 3 1, 3) := by decide +kernel
theorem dX7_joins_194 : decode cX7_joins 194 = .ok (.goto (-192), 3) := by decide +kernel
theorem dX7_joins_197 : decode cX7_joins 197 = .ok (.aload_n 0, 1) := by decide +kernel
theorem dX7_joins_198 : decode cX7_joins 198 = .ok (.iload_n 1, 1) := by decide +kernel
theorem dX7_joins_199 : decode cX7_joins 199 = .ok (.iconst 1, 1) := by decide +kernel
theorem dX7_joins_200 : decode cX7_joins 200 = .ok (.aload_n 0, 1) := by decide +kernel
theorem dX7_joins_201 : decode cX7_joins 201 = .ok (.iload_n 1, 1) := by decide +kernel
theorem dX7_joins_202 : decode cX7_joins 202 = .ok (.iconst 1, 1) := by decide +kernel
theorem dX7_joins_203 : decode cX7_joins 203 = .ok (.invokevirtual 47, 3) := by decide +kernel
theorem dX7_joins_206 : decode cX7_joins 206 = .ok (.aload_n 0, 1) := by decide +kernel
theorem dX7_joins_207 : decode cX7_joins 207 = .ok (.iload_n 2, 1) := by decide +kernel
theorem dX7_joins_208 : decode cX7_joins 208 = .ok (.iconst 1, 1) := by decide +kernel
theorem dX7_joins_209 : decode cX7_joins 209 = .ok (.invokevirtual 47, 3) := by decide +kernel
theorem dX7_joins_212 : decode cX7_joins 212 = .ok (.iadd, 1) := by decide +kernel
theorem dX7_joins_213 : decode cX7_joins 213 = .ok (.invokevirtual 23, 3) := by decide +kernel
theorem dX7_joins_216 : decode cX7_joins 216 = .ok (.aload_n 0, 1) := by decide +kernel
theorem dX7_joins_217 : decode cX7_joins 217 = .ok (.iload_n 1, 1) := by decide +kernel
theorem dX7_joins_218 : decode cX7_joins 218 = .ok (.iconst 2, 1) := by decide +kernel
theorem dX7_joins_219 : decode cX7_joins 219 = .ok (.aload_n 0, 1) := by decide +kernel
theorem dX7_joins_220 : decode cX7_joins 220 = .ok (.iload_n 1, 1) := by decide +kernel
theorem dX7_joins_221 : decode cX7_joins 221 = .ok (.iconst 2, 1) := by decide +kernel
theorem dX7_joins_222 : decode cX7_joins 222 = .ok (.invokevirtual 47, 3) := by decide +kernel
theorem dX7_joins_225 : decode cX7_joins 225 = .ok (.aload_n 0, 1) := by decide +kernel
theorem dX7_joins_226 : decode cX7_joins 226 = .ok (.iload_n 2, 1) := by decide +kernel
theorem dX7_joins_227 : decode cX7_joins 227 = .ok (.iconst 2, 1) := by decide +kernel
theorem dX7_joins_228 : decode cX7_joins 228 = .ok (.invokevirtual 47, 3) := by decide +kernel
theorem dX7_joins_231 : decode cX7_joins 231 = .ok (.iadd, 1) := by decide +kernel
theorem dX7_joins_232 : decode cX7_joins 232 = .ok (.invokevirtual 23, 3) := by decide +kernel
theorem dX7_joins_235 : decode cX7_joins 235 = .ok (.iconst 0, 1) := by decide +kernel
theorem dX7_joins_236 : decode cX7_joins 236 = .ok (.istore_n 3, 1) := by decide +kernel
theorem dX7_joins_237 : decode cX7_joins 237 = .ok (.aload_n 0, 1) := by decide +kernel
theorem dX7_joins_238 : decode cX7_joins 238 = .ok (.iload_n 1, 1) := by decide +kernel
theorem dX7_joins_239 : decode cX7_joins 239 = .ok (.invokevirtual 65, 3) := by decide +kernel
theorem dX7_joins_242 : decode cX7_joins 242 = .ok (.aload_n 0, 1) := by decide +kernel
theorem dX7_joins_243 : decode cX7_joins 243 = .ok (.iload_n 1, 1) := by decide +kernel
theorem dX7_joins_244 : decode cX7_joins 244 = .ok (.iconst 0, 1) := by decide +kernel
theorem dX7_joins_245 : decode cX7_joins 245 = .ok (.invokevirtual 47, 3) := by decide +kernel
theorem dX7_joins_248 : decode cX7_joins 248 = .ok (.if_icmp .le 76, 3) := by decide +kernel
theorem dX7_joins_251 : decode cX7_joins 251 = .ok (.bipush (-5), 2) := by decide +kernel
theorem dX7_joins_253 : decode cX7_joins 253 = .ok (.istore 4, 2) := by decide +kernel
theorem dX7_joins_255 : decode cX7_joins 255 = .ok (.iconst 0, 1) := by decide +kernel
theorem dX7_joins_256 : decode cX7_joins 256 = .ok (.istore 5, 2) := by decide +kernel
theorem dX7_joins_258 : decode cX7_joins 258 = .ok (.iload 5, 2) := by decide +kernel
theorem dX7_joins_260 : decode cX7_joins 260 = .ok (.bipush 26, 2) := by decide +kernel
theorem dX7_joins_262 : decode cX7_joins 262 = .ok (.if_icmp .ge 49, 3) := by decide +kernel
theorem dX7_joins_265 : decode cX7_joins 265 = .ok (.aload_n 0, 1) := by decide +kernel
theorem dX7_joins_266 : decode cX7_joins 266 = .ok (.iload_n 1, 1) := by decide +kernel
theorem dX7_joins_267 : decode cX7_joins 267 = .ok (.iload 5, 2) := by decide +kernel
theorem dX7_joins_269 : decode cX7_joins 269 = .ok (.invokevirtual 43, 3) := by decide +kernel
theorem dX7_joins_272 : decode cX7_joins 272 = .ok (.ifCond .eq 33, 3) := by decide +kernel
theorem dX7_joins_275 : decode cX7_joins 275 = .ok (.iload 4, 2) := by decide +kernel
theorem dX7_joins_277 : decode cX7_joins 277 = .ok (.bipush (-5), 2) := by decide +kernel
theorem dX7_joins_279 : decode cX7_joins 279 = .ok (.if_icmp .eq 22, 3) := by decide +kernel
theorem dX7_joins_282 : decode cX7_joins 282 = .ok (.aload_n 0, 1) := by decide +kernel
theorem dX7_joins_283 : decode cX7_joins 283 = .ok (.iload_n 1, 1) := by decide +kernel
theorem dX7_joins_284 : decode cX7_joins 284 = .ok (.iload 5, 2) := by decide +kernel
theorem dX7_joins_286 : decode cX7_joins 286 = .ok (.iconst 1, 1) := by decide +kernel
theorem dX7_joins_287 : decode cX7_joins 287 = .ok (.invokevirtual 31, 3) := by decide +kernel
theorem dX7_joins_290 : decode cX7_joins 290 = .ok (.aload_n 0, 1) := by decide +kernel
theorem dX7_joins_291 : decode cX7_joins 291 = .ok (.iload_n 1, 1) := by decide +kernel
theorem dX7_joins_292 : decode cX7_joins 292 = .ok (.iload 4, 2) := by decide +kernel
theorem dX7_joins_294 : decode cX7_joins 294 = .ok (.iconst 1, 1) := by decide +kernel
theorem dX7_joins_295 : decode cX7_joins 295 = .ok (.invokevirtual 31, 3) := by decide +kernel
theorem dX7_joins_298 : decode cX7_joins 298 = .ok (.if_icmp .gt 7, 3) := by decide +kernel
theorem dX7_joins_301 : decode cX7_joins 301 = .ok (.iload 5, 2) := by decide +kernel
theorem dX7_joins_303 : decode cX7_joins 303 = .ok (.istore 4, 2) := by decide +kernel
theorem dX7_joins_305 : decode cX7_joins 305 = .ok (.iinc 5 1, 3) := by decide +kernel
theorem dX7_joins_308 : decode cX7_joins 308 = .ok (.goto (-50), 3) := by decide +kernel
theorem dX7_joins_311 : decode cX7_joins 311 = .ok (.aload_n 0, 1) := by decide +kernel
theorem dX7_joins_312 : decode cX7_joins 312 = .ok (.iload_n 1, 1) := by decide +kernel
theorem dX7_joins_313 : decode cX7_joins 313 = .ok (.iload 4, 2) := by decide +kernel
theorem dX7_joins_315 : decode cX7_joins 315 = .ok (.invokevirtual 58, 3) := by decide +kernel
theorem dX7_joins_318 : decode cX7_joins 318 = .ok (.iinc 3 1, 3) := by decide +kernel
theorem dX7_joins_321 : decode cX7_joins 321 = .ok (.goto (-84), 3) := by decide +kernel
theorem dX7_joins_324 : decode cX7_joins 324 = .ok (.iload_n 3, 1) := by decide +kernel
theorem dX7_joins_325 : decode cX7_joins 325 = .ok (.ireturn, 1) := by decide +kernel
theorem dX7_arrive_0 : decode cX7_arrive 0 = .ok (.iload_n 1, 1) := by decide +kernel
theorem dX7_arrive_1 : decode cX7_arrive 1 = .ok (.invokestatic 72, 3) := by decide +kernel
theorem dX7_arrive_4 : decode cX7_arrive 4 = .ok (.ifCond .eq 10, 3) := by decide +kernel
theorem dX7_arrive_7 : decode cX7_arrive 7 = .ok (.iload_n 2, 1) := by decide +kernel
theorem dX7_arrive_8 : decode cX7_arrive 8 = .ok (.invokestatic 76, 3) := by decide +kernel
theorem dX7_arrive_11 : decode cX7_arrive 11 = .ok (.ifCond .ne 5, 3) := by decide +kernel
theorem dX7_arrive_14 : decode cX7_arrive 14 = .ok (.iconst (-1), 1) := by decide +kernel
theorem dX7_arrive_15 : decode cX7_arrive 15 = .ok (.ireturn, 1) := by decide +kernel
theorem dX7_arrive_16 : decode cX7_arrive 16 = .ok (.iload_n 3, 1) := by decide +kernel
theorem dX7_arrive_17 : decode cX7_arrive 17 = .ok (.iconst 1, 1) := by decide +kernel
theorem dX7_arrive_18 : decode cX7_arrive 18 = .ok (.bipush 99, 2) := by decide +kernel
theorem dX7_arrive_20 : decode cX7_arrive 20 = .ok (.invokestatic 35, 3) := by decide +kernel
theorem dX7_arrive_23 : decode cX7_arrive 23 = .ok (.ifCond .ne 6, 3) := by decide +kernel
theorem dX7_arrive_26 : decode cX7_arrive 26 = .ok (.bipush (-2), 2) := by decide +kernel
theorem dX7_arrive_28 : decode cX7_arrive 28 = .ok (.ireturn, 1) := by decide +kernel
theorem dX7_arrive_29 : decode cX7_arrive 29 = .ok (.aload_n 0, 1) := by decide +kernel
theorem dX7_arrive_30 : decode cX7_arrive 30 = .ok (.iload_n 1, 1) := by decide +kernel
theorem dX7_arrive_31 : decode cX7_arrive 31 = .ok (.iconst 2, 1) := by decide +kernel
theorem dX7_arrive_32 : decode cX7_arrive 32 = .ok (.invokevirtual 47, 3) := by decide +kernel
theorem dX7_arrive_35 : decode cX7_arrive 35 = .ok (.iload_n 3, 1) := by decide +kernel
theorem dX7_arrive_36 : decode cX7_arrive 36 = .ok (.iadd, 1) := by decide +kernel
theorem dX7_arrive_37 : decode cX7_arrive 37 = .ok (.ldc 80, 2) := by decide +kernel
theorem dX7_arrive_39 : decode cX7_arrive 39 = .ok (.if_icmp .le 6, 3) := by decide +kernel
theorem dX7_arrive_42 : decode cX7_arrive 42 = .ok (.bipush (-3), 2) := by decide +kernel
theorem dX7_arrive_44 : decode cX7_arrive 44 = .ok (.ireturn, 1) := by decide +kernel
theorem dX7_arrive_45 : decode cX7_arrive 45 = .ok (.aload_n 0, 1) := by decide +kernel
theorem dX7_arrive_46 : decode cX7_arrive 46 = .ok (.invokevirtual 81, 3) := by decide +kernel
theorem dX7_arrive_49 : decode cX7_arrive 49 = .ok (.aload_n 0, 1) := by decide +kernel
theorem dX7_arrive_50 : decode cX7_arrive 50 = .ok (.iload_n 1, 1) := by decide +kernel
theorem dX7_arrive_51 : decode cX7_arrive 51 = .ok (.iload_n 2, 1) := by decide +kernel
theorem dX7_arrive_52 : decode cX7_arrive 52 = .ok (.bipush 97, 2) := by decide +kernel
theorem dX7_arrive_54 : decode cX7_arrive 54 = .ok (.isub, 1) := by decide +kernel
theorem dX7_arrive_55 : decode cX7_arrive 55 = .ok (.iload_n 3, 1) := by decide +kernel
theorem dX7_arrive_56 : decode cX7_arrive 56 = .ok (.invokevirtual 84, 3) := by decide +kernel
theorem dX7_arrive_59 : decode cX7_arrive 59 = .ok (.aload_n 0, 1) := by decide +kernel
theorem dX7_arrive_60 : decode cX7_arrive 60 = .ok (.iload_n 1, 1) := by decide +kernel
theorem dX7_arrive_61 : decode cX7_arrive 61 = .ok (.iload_n 2, 1) := by decide +kernel
theorem dX7_arrive_62 : decode cX7_arrive 62 = .ok (.bipush 97, 2) := by decide +kernel
theorem dX7_arrive_64 : decode cX7_arrive 64 = .ok (.isub, 1) := by decide +kernel
theorem dX7_arrive_65 : decode cX7_arrive 65 = .ok (.iconst 1, 1) := by decide +kernel
theorem dX7_arrive_66 : decode cX7_arrive 66 = .ok (.invokevirtual 31, 3) := by decide +kernel
theorem dX7_arrive_69 : decode cX7_arrive 69 = .ok (.ireturn, 1) := by decide +kernel
theorem dX7_present_0 : decode cX7_present 0 = .ok (.iconst 4, 1) := by decide +kernel
theorem dX7_present_1 : decode cX7_present 1 = .ok (.aload_n 0, 1) := by decide +kernel
theorem dX7_present_2 : decode cX7_present 2 = .ok (.getfield 7, 3) := by decide +kernel
theorem dX7_present_5 : decode cX7_present 5 = .ok (.sipush 1076, 3) := by decide +kernel
theorem dX7_present_8 : decode cX7_present 8 = .ok (.iaload, 1) := by decide +kernel
theorem dX7_present_9 : decode cX7_present 9 = .ok (.iadd, 1) := by decide +kernel
theorem dX7_present_10 : decode cX7_present 10 = .ok (.iconst 1, 1) := by decide +kernel
theorem dX7_present_11 : decode cX7_present 11 = .ok (.isub, 1) := by decide +kernel
theorem dX7_present_12 : decode cX7_present 12 = .ok (.ireturn, 1) := by decide +kernel
theorem dX7_flows_0 : decode cX7_flows 0 = .ok (.aload_n 0, 1) := by decide +kernel
theorem dX7_flows_1 : decode cX7_flows 1 = .ok (.aload_n 0, 1) := by decide +kernel
theorem dX7_flows_2 : decode cX7_flows 2 = .ok (.invokevirtual 87, 3) := by decide +kernel
theorem dX7_flows_5 : decode cX7_flows 5 = .ok (.iconst 3, 1) := by decide +kernel
theorem dX7_flows_6 : decode cX7_flows 6 = .ok (.invokevirtual 47, 3) := by decide +kernel
theorem dX7_flows_9 : decode cX7_flows 9 = .ok (.bipush 8, 2) := by decide +kernel
theorem dX7_flows_11 : decode cX7_flows 11 = .ok (.if_icmp .ne 89, 3) := by decide +kernel
theorem dX7_flows_14 : decode cX7_flows 14 = .ok (.aload_n 0, 1) := by decide +kernel
theorem dX7_flows_15 : decode cX7_flows 15 = .ok (.getfield 7, 3) := by decide +kernel
theorem dX7_flows_18 : decode cX7_flows 18 = .ok (.sipush 1076, 3) := by decide +kernel
theorem dX7_flows_21 : decode cX7_flows 21 = .ok (.iaload, 1) := by decide +kernel
theorem dX7_flows_22 : decode cX7_flows 22 = .ok (.iconst 4, 1) := by decide +kernel
theorem dX7_flows_23 : decode cX7_flows 23 = .ok (.if_icmp .ne 31, 3) := by decide +kernel
theorem dX7_flows_26 : decode cX7_flows 26 = .ok (.iconst 0, 1) := by decide +kernel
theorem dX7_flows_27 : decode cX7_flows 27 = .ok (.istore_n 3, 1) := by decide +kernel
theorem dX7_flows_28 : decode cX7_flows 28 = .ok (.iload_n 3, 1) := by decide +kernel
theorem dX7_flows_29 : decode cX7_flows 29 = .ok (.iconst 3, 1) := by decide +kernel
theorem dX7_flows_30 : decode cX7_flows 30 = .ok (.if_icmp .ge 21, 3) := by decide +kernel
theorem dX7_flows_33 : decode cX7_flows 33 = .ok (.aload_n 0, 1) := by decide +kernel
theorem dX7_flows_34 : decode cX7_flows 34 = .ok (.iconst 4, 1) := by decide +kernel
theorem dX7_flows_35 : decode cX7_flows 35 = .ok (.iload_n 3, 1) := by decide +kernel
theorem dX7_flows_36 : decode cX7_flows 36 = .ok (.iadd, 1) := by decide +kernel
theorem dX7_flows_37 : decode cX7_flows 37 = .ok (.iconst 1, 1) := by decide +kernel
theorem dX7_flows_38 : decode cX7_flows 38 = .ok (.iadd, 1) := by decide +kernel
theorem dX7_flows_39 : decode cX7_flows 39 = .ok (.iconst 4, 1) := by decide +kernel
theorem dX7_flows_40 : decode cX7_flows 40 = .ok (.iload_n 3, 1) := by decide +kernel
theorem dX7_flows_41 : decode cX7_flows 41 = .ok (.iadd, 1) := by decide +kernel
theorem dX7_flows_42 : decode cX7_flows 42 = .ok (.invokevirtual 91, 3) := by decide +kernel
theorem dX7_flows_45 : decode cX7_flows 45 = .ok (.iinc 3 1, 3) := by decide +kernel
theorem dX7_flows_48 : decode cX7_flows 48 = .ok (.goto (-20), 3) := by decide +kernel
theorem dX7_flows_51 : decode cX7_flows 51 = .ok (.goto 15, 3) := by decide +kernel
theorem dX7_flows_54 : decode cX7_flows 54 = .ok (.aload_n 0, 1) := by decide +kernel
theorem dX7_flows_55 : decode cX7_flows 55 = .ok (.getfield 7, 3) := by decide +kernel
theorem dX7_flows_58 : decode cX7_flows 58 = .ok (.sipush 1076, 3) := by decide +kernel
theorem dX7_flows_61 : decode cX7_flows 61 = .ok (.dup2, 1) := by decide +kernel
theorem dX7_flows_62 : decode cX7_flows 62 = .ok (.iaload, 1) := by decide +kernel
theorem dX7_flows_63 : decode cX7_flows 63 = .ok (.iconst 1, 1) := by decide +kernel
theorem dX7_flows_64 : decode cX7_flows 64 = .ok (.iadd, 1) := by decide +kernel
theorem dX7_flows_65 : decode cX7_flows 65 = .ok (.iastore, 1) := by decide +kernel
theorem dX7_flows_66 : decode cX7_flows 66 = .ok (.aload_n 0, 1) := by decide +kernel
theorem dX7_flows_67 : decode cX7_flows 67 = .ok (.aload_n 0, 1) := by decide +kernel
theorem dX7_flows_68 : decode cX7_flows 68 = .ok (.invokevirtual 87, 3) := by decide +kernel
theorem dX7_flows_71 : decode cX7_flows 71 = .ok (.invokevirtual 94, 3) := by decide +kernel
theorem dX7_flows_74 : decode cX7_flows 74 = .ok (.aload_n 0, 1) := by decide +kernel
theorem dX7_flows_75 : decode cX7_flows 75 = .ok (.getfield 7, 3) := by decide +kernel
theorem dX7_flows_78 : decode cX7_flows 78 = .ok (.sipush 1075, 3) := by decide +kernel
theorem dX7_flows_81 : decode cX7_flows 81 = .ok (.dup2, 1) := by decide +kernel
theorem dX7_flows_82 : decode cX7_flows 82 = .ok (.iaload, 1) := by decide +kernel
theorem dX7_flows_83 : decode cX7_flows 83 = .ok (.iconst 1, 1) := by decide +kernel
theorem dX7_flows_84 : decode cX7_flows 84 = .ok (.iadd, 1) := by decide +kernel
theorem dX7_flows_85 : decode cX7_flows 85 = .ok (.iastore, 1) := by decide +kernel
theorem dX7_flows_86 : decode cX7_flows 86 = .ok (.aload_n 0, 1) := by decide +kernel
theorem dX7_flows_87 : decode cX7_flows 87 = .ok (.iconst 2, 1) := by decide +kernel
theorem dX7_flows_88 : decode cX7_flows 88 = .ok (.iconst 4, 1) := by decide +kernel
theorem dX7_flows_89 : decode cX7_flows 89 = .ok (.aload_n 0, 1) := by decide +kernel
theorem dX7_flows_90 : decode cX7_flows 90 = .ok (.getfield 7, 3) := by decide +kernel
theorem dX7_flows_93 : decode cX7_flows 93 = .ok (.sipush 1075, 3) := by decide +kernel
theorem dX7_flows_96 : decode cX7_flows 96 = .ok (.iaload, 1) := by decide +kernel
theorem dX7_flows_97 : decode cX7_flows 97 = .ok (.invokevirtual 62, 3) := by decide +kernel
theorem dX7_flows_100 : decode cX7_flows 100 = .ok (.aload_n 0, 1) := by decide +kernel
theorem dX7_flows_101 : decode cX7_flows 101 = .ok (.aload_n 0, 1) := by decide +kernel
theorem dX7_flows_102 : decode cX7_flows 102 = .ok (.invokevirtual 87, 3) := by decide +kernel
theorem dX7_flows_105 : decode cX7_flows 105 = .ok (.iload_n 1, 1) := by decide +kernel
theorem dX7_flows_106 : decode cX7_flows 106 = .ok (.iload_n 2, 1) := by decide +kernel
theorem dX7_flows_107 : decode cX7_flows 107 = .ok (.invokevirtual 84, 3) := by decide +kernel
theorem dX7_flows_110 : decode cX7_flows 110 = .ok (.return_, 1) := by decide +kernel
theorem dX7_flow_0 : decode cX7_flow 0 = .ok (.iload_n 1, 1) := by decide +kernel
theorem dX7_flow_1 : decode cX7_flow 1 = .ok (.invokestatic 76, 3) := by decide +kernel
theorem dX7_flow_4 : decode cX7_flow 4 = .ok (.ifCond .ne 5, 3) := by decide +kernel
theorem dX7_flow_7 : decode cX7_flow 7 = .ok (.iconst (-1), 1) := by decide +kernel
theorem dX7_flow_8 : decode cX7_flow 8 = .ok (.ireturn, 1) := by decide +kernel
theorem dX7_flow_9 : decode cX7_flow 9 = .ok (.iload_n 2, 1) := by decide +kernel
theorem dX7_flow_10 : decode cX7_flow 10 = .ok (.iconst 1, 1) := by decide +kernel
theorem dX7_flow_11 : decode cX7_flow 11 = .ok (.bipush 99, 2) := by decide +kernel
theorem dX7_flow_13 : decode cX7_flow 13 = .ok (.invokestatic 35, 3) := by decide +kernel
theorem dX7_flow_16 : decode cX7_flow 16 = .ok (.ifCond .ne 6, 3) := by decide +kernel
theorem dX7_flow_19 : decode cX7_flow 19 = .ok (.bipush (-2), 2) := by decide +kernel
theorem dX7_flow_21 : decode cX7_flow 21 = .ok (.ireturn, 1) := by decide +kernel
theorem dX7_flow_22 : decode cX7_flow 22 = .ok (.aload_n 0, 1) := by decide +kernel
theorem dX7_flow_23 : decode cX7_flow 23 = .ok (.invokevirtual 81, 3) := by decide +kernel
theorem dX7_flow_26 : decode cX7_flow 26 = .ok (.aload_n 0, 1) := by decide +kernel
theorem dX7_flow_27 : decode cX7_flow 27 = .ok (.iload_n 1, 1) := by decide +kernel
theorem dX7_flow_28 : decode cX7_flow 28 = .ok (.bipush 97, 2) := by decide +kernel
theorem dX7_flow_30 : decode cX7_flow 30 = .ok (.isub, 1) := by decide +kernel
theorem dX7_flow_31 : decode cX7_flow 31 = .ok (.iload_n 2, 1) := by decide +kernel
theorem dX7_flow_32 : decode cX7_flow 32 = .ok (.invokevirtual 97, 3) := by decide +kernel
theorem dX7_flow_35 : decode cX7_flow 35 = .ok (.aload_n 0, 1) := by decide +kernel
theorem dX7_flow_36 : decode cX7_flow 36 = .ok (.aload_n 0, 1) := by decide +kernel
theorem dX7_flow_37 : decode cX7_flow 37 = .ok (.invokevirtual 87, 3) := by decide +kernel
theorem dX7_flow_40 : decode cX7_flow 40 = .ok (.iconst 3, 1) := by decide +kernel
theorem dX7_flow_41 : decode cX7_flow 41 = .ok (.invokevirtual 47, 3) := by decide +kernel
theorem dX7_flow_44 : decode cX7_flow 44 = .ok (.ireturn, 1) := by decide +kernel
theorem dX7_merge_0 : decode cX7_merge 0 = .ok (.iload_n 1, 1) := by decide +kernel
theorem dX7_merge_1 : decode cX7_merge 1 = .ok (.invokestatic 72, 3) := by decide +kernel
theorem dX7_merge_4 : decode cX7_merge 4 = .ok (.ifCond .eq 10, 3) := by decide +kernel
theorem dX7_merge_7 : decode cX7_merge 7 = .ok (.iload_n 2, 1) := by decide +kernel
theorem dX7_merge_8 : decode cX7_merge 8 = .ok (.invokestatic 72, 3) := by decide +kernel
theorem dX7_merge_11 : decode cX7_merge 11 = .ok (.ifCond .ne 5, 3) := by decide +kernel
theorem dX7_merge_14 : decode cX7_merge 14 = .ok (.iconst (-1), 1) := by decide +kernel
theorem dX7_merge_15 : decode cX7_merge 15 = .ok (.ireturn, 1) := by decide +kernel
theorem dX7_merge_16 : decode cX7_merge 16 = .ok (.iload_n 1, 1) := by decide +kernel
theorem dX7_merge_17 : decode cX7_merge 17 = .ok (.iload_n 2, 1) := by decide +kernel
theorem dX7_merge_18 : decode cX7_merge 18 = .ok (.if_icmp .ne 6, 3) := by decide +kernel
theorem dX7_merge_21 : decode cX7_merge 21 = .ok (.bipush (-2), 2) := by decide +kernel
theorem dX7_merge_23 : decode cX7_merge 23 = .ok (.ireturn, 1) := by decide +kernel
theorem dX7_merge_24 : decode cX7_merge 24 = .ok (.aload_n 0, 1) := by decide +kernel
theorem dX7_merge_25 : decode cX7_merge 25 = .ok (.iload_n 1, 1) := by decide +kernel
theorem dX7_merge_26 : decode cX7_merge 26 = .ok (.iconst 2, 1) := by decide +kernel
theorem dX7_merge_27 : decode cX7_merge 27 = .ok (.invokevirtual 47, 3) := by decide +kernel
theorem dX7_merge_30 : decode cX7_merge 30 = .ok (.aload_n 0, 1) := by decide +kernel
theorem dX7_merge_31 : decode cX7_merge 31 = .ok (.iload_n 2, 1) := by decide +kernel
theorem dX7_merge_32 : decode cX7_merge 32 = .ok (.iconst 2, 1) := by decide +kernel
theorem dX7_merge_33 : decode cX7_merge 33 = .ok (.invokevirtual 47, 3) := by decide +kernel
theorem dX7_merge_36 : decode cX7_merge 36 = .ok (.iadd, 1) := by decide +kernel
theorem dX7_merge_37 : decode cX7_merge 37 = .ok (.ldc 80, 2) := by decide +kernel
theorem dX7_merge_39 : decode cX7_merge 39 = .ok (.if_icmp .le 6, 3) := by decide +kernel
theorem dX7_merge_42 : decode cX7_merge 42 = .ok (.bipush (-3), 2) := by decide +kernel
theorem dX7_merge_44 : decode cX7_merge 44 = .ok (.ireturn, 1) := by decide +kernel
theorem dX7_merge_45 : decode cX7_merge 45 = .ok (.aload_n 0, 1) := by decide +kernel
theorem dX7_merge_46 : decode cX7_merge 46 = .ok (.invokevirtual 81, 3) := by decide +kernel
theorem dX7_merge_49 : decode cX7_merge 49 = .ok (.aload_n 0, 1) := by decide +kernel
theorem dX7_merge_50 : decode cX7_merge 50 = .ok (.iload_n 1, 1) := by decide +kernel
theorem dX7_merge_51 : decode cX7_merge 51 = .ok (.iload_n 2, 1) := by decide +kernel
theorem dX7_merge_52 : decode cX7_merge 52 = .ok (.invokevirtual 100, 3) := by decide +kernel
theorem dX7_merge_55 : decode cX7_merge 55 = .ok (.istore_n 3, 1) := by decide +kernel
theorem dX7_merge_56 : decode cX7_merge 56 = .ok (.aload_n 0, 1) := by decide +kernel
theorem dX7_merge_57 : decode cX7_merge 57 = .ok (.iload_n 2, 1) := by decide +kernel
theorem dX7_merge_58 : decode cX7_merge 58 = .ok (.invokevirtual 94, 3) := by decide +kernel
theorem dX7_merge_61 : decode cX7_merge 61 = .ok (.aload_n 0, 1) := by decide +kernel
theorem dX7_merge_62 : decode cX7_merge 62 = .ok (.getfield 7, 3) := by decide +kernel
theorem dX7_merge_65 : decode cX7_merge 65 = .ok (.sipush 1074, 3) := by decide +kernel
theorem dX7_merge_68 : decode cX7_merge 68 = .ok (.dup2, 1) := by decide +kernel
theorem dX7_merge_69 : decode cX7_merge 69 = .ok (.iaload, 1) := by decide +kernel
theorem dX7_merge_70 : decode cX7_merge 70 = .ok (.iconst 1, 1) := by decide +kernel
theorem dX7_merge_71 : decode cX7_merge 71 = .ok (.iadd, 1) := by decide +kernel
theorem dX7_merge_72 : decode cX7_merge 72 = .ok (.iastore, 1) := by decide +kernel
theorem dX7_merge_73 : decode cX7_merge 73 = .ok (.aload_n 0, 1) := by decide +kernel
theorem dX7_merge_74 : decode cX7_merge 74 = .ok (.iconst 1, 1) := by decide +kernel
theorem dX7_merge_75 : decode cX7_merge 75 = .ok (.iload_n 1, 1) := by decide +kernel
theorem dX7_merge_76 : decode cX7_merge 76 = .ok (.iload_n 3, 1) := by decide +kernel
theorem dX7_merge_77 : decode cX7_merge 77 = .ok (.invokevirtual 62, 3) := by decide +kernel
theorem dX7_merge_80 : decode cX7_merge 80 = .ok (.iload_n 3, 1) := by decide +kernel
theorem dX7_merge_81 : decode cX7_merge 81 = .ok (.ireturn, 1) := by decide +kernel
theorem dX7_copy_0 : decode cX7_copy 0 = .ok (.iload_n 1, 1) := by decide +kernel
theorem dX7_copy_1 : decode cX7_copy 1 = .ok (.invokestatic 72, 3) := by decide +kernel
theorem dX7_copy_4 : decode cX7_copy 4 = .ok (.ifCond .eq 10, 3) := by decide +kernel
theorem dX7_copy_7 : decode cX7_copy 7 = .ok (.iload_n 2, 1) := by decide +kernel
theorem dX7_copy_8 : decode cX7_copy 8 = .ok (.invokestatic 72, 3) := by decide +kernel
theorem dX7_copy_11 : decode cX7_copy 11 = .ok (.ifCond .ne 5, 3) := by decide +kernel
theorem dX7_copy_14 : decode cX7_copy 14 = .ok (.iconst (-1), 1) := by decide +kernel
theorem dX7_copy_15 : decode cX7_copy 15 = .ok (.ireturn, 1) := by decide +kernel
theorem dX7_copy_16 : decode cX7_copy 16 = .ok (.iload_n 1, 1) := by decide +kernel
theorem dX7_copy_17 : decode cX7_copy 17 = .ok (.iload_n 2, 1) := by decide +kernel
theorem dX7_copy_18 : decode cX7_copy 18 = .ok (.if_icmp .ne 6, 3) := by decide +kernel
theorem dX7_copy_21 : decode cX7_copy 21 = .ok (.bipush (-2), 2) := by decide +kernel
theorem dX7_copy_23 : decode cX7_copy 23 = .ok (.ireturn, 1) := by decide +kernel
theorem dX7_copy_24 : decode cX7_copy 24 = .ok (.aload_n 0, 1) := by decide +kernel
theorem dX7_copy_25 : decode cX7_copy 25 = .ok (.invokevirtual 81, 3) := by decide +kernel
theorem dX7_copy_28 : decode cX7_copy 28 = .ok (.aload_n 0, 1) := by decide +kernel
theorem dX7_copy_29 : decode cX7_copy 29 = .ok (.iload_n 2, 1) := by decide +kernel
theorem dX7_copy_30 : decode cX7_copy 30 = .ok (.iload_n 1, 1) := by decide +kernel
theorem dX7_copy_31 : decode cX7_copy 31 = .ok (.invokevirtual 91, 3) := by decide +kernel
theorem dX7_copy_34 : decode cX7_copy 34 = .ok (.aload_n 0, 1) := by decide +kernel
theorem dX7_copy_35 : decode cX7_copy 35 = .ok (.iload_n 1, 1) := by decide +kernel
theorem dX7_copy_36 : decode cX7_copy 36 = .ok (.invokevirtual 65, 3) := by decide +kernel
theorem dX7_copy_39 : decode cX7_copy 39 = .ok (.ireturn, 1) := by decide +kernel
theorem dX7_setSize_0 : decode cX7_setSize 0 = .ok (.iload_n 1, 1) := by decide +kernel
theorem dX7_setSize_1 : decode cX7_setSize 1 = .ok (.invokestatic 72, 3) := by decide +kernel
theorem dX7_setSize_4 : decode cX7_setSize 4 = .ok (.ifCond .ne 5, 3) := by decide +kernel
theorem dX7_setSize_7 : decode cX7_setSize 7 = .ok (.iconst (-1), 1) := by decide +kernel
theorem dX7_setSize_8 : decode cX7_setSize 8 = .ok (.ireturn, 1) := by decide +kernel
theorem dX7_setSize_9 : decode cX7_setSize 9 = .ok (.iload_n 2, 1) := by decide +kernel
theorem dX7_setSize_10 : decode cX7_setSize 10 = .ok (.iconst 2, 1) := by decide +kernel
theorem dX7_setSize_11 : decode cX7_setSize 11 = .ok (.bipush 10, 2) := by decide +kernel
theorem dX7_setSize_13 : decode cX7_setSize 13 = .ok (.invokestatic 35, 3) := by decide +kernel
theorem dX7_setSize_16 : decode cX7_setSize 16 = .ok (.ifCond .ne 6, 3) := by decide +kernel
theorem dX7_setSize_19 : decode cX7_setSize 19 = .ok (.bipush (-2), 2) := by decide +kernel
theorem dX7_setSize_21 : decode cX7_setSize 21 = .ok (.ireturn, 1) := by decide +kernel
theorem dX7_setSize_22 : decode cX7_setSize 22 = .ok (.aload_n 0, 1) := by decide +kernel
theorem dX7_setSize_23 : decode cX7_setSize 23 = .ok (.iload_n 1, 1) := by decide +kernel
theorem dX7_setSize_24 : decode cX7_setSize 24 = .ok (.iconst 0, 1) := by decide +kernel
theorem dX7_setSize_25 : decode cX7_setSize 25 = .ok (.invokevirtual 47, 3) := by decide +kernel
theorem dX7_setSize_28 : decode cX7_setSize 28 = .ok (.iload_n 2, 1) := by decide +kernel
theorem dX7_setSize_29 : decode cX7_setSize 29 = .ok (.if_icmp .ne 6, 3) := by decide +kernel
theorem dX7_setSize_32 : decode cX7_setSize 32 = .ok (.bipush (-5), 2) := by decide +kernel
theorem dX7_setSize_34 : decode cX7_setSize 34 = .ok (.ireturn, 1) := by decide +kernel
theorem dX7_setSize_35 : decode cX7_setSize 35 = .ok (.aload_n 0, 1) := by decide +kernel
theorem dX7_setSize_36 : decode cX7_setSize 36 = .ok (.invokevirtual 81, 3) := by decide +kernel
theorem dX7_setSize_39 : decode cX7_setSize 39 = .ok (.aload_n 0, 1) := by decide +kernel
theorem dX7_setSize_40 : decode cX7_setSize 40 = .ok (.iload_n 1, 1) := by decide +kernel
theorem dX7_setSize_41 : decode cX7_setSize 41 = .ok (.iconst 0, 1) := by decide +kernel
theorem dX7_setSize_42 : decode cX7_setSize 42 = .ok (.iload_n 2, 1) := by decide +kernel
theorem dX7_setSize_43 : decode cX7_setSize 43 = .ok (.invokevirtual 23, 3) := by decide +kernel
theorem dX7_setSize_46 : decode cX7_setSize 46 = .ok (.iconst 0, 1) := by decide +kernel
theorem dX7_setSize_47 : decode cX7_setSize 47 = .ok (.istore_n 3, 1) := by decide +kernel
theorem dX7_setSize_48 : decode cX7_setSize 48 = .ok (.aload_n 0, 1) := by decide +kernel
theorem dX7_setSize_49 : decode cX7_setSize 49 = .ok (.iload_n 1, 1) := by decide +kernel
theorem dX7_setSize_50 : decode cX7_setSize 50 = .ok (.invokevirtual 65, 3) := by decide +kernel
theorem dX7_setSize_53 : decode cX7_setSize 53 = .ok (.iload_n 2, 1) := by decide +kernel
theorem dX7_setSize_54 : decode cX7_setSize 54 = .ok (.if_icmp .le 14, 3) := by decide +kernel
theorem dX7_setSize_57 : decode cX7_setSize 57 = .ok (.aload_n 0, 1) := by decide +kernel
theorem dX7_setSize_58 : decode cX7_setSize 58 = .ok (.iload_n 1, 1) := by decide +kernel
theorem dX7_setSize_59 : decode cX7_setSize 59 = .ok (.invokevirtual 68, 3) := by decide +kernel
theorem dX7_setSize_62 : decode cX7_setSize 62 = .ok (.iinc 3 1, 3) := by decide +kernel
theorem dX7_setSize_65 : decode cX7_setSize 65 = .ok (.goto (-17), 3) := by decide +kernel
theorem dX7_setSize_68 : decode cX7_setSize 68 = .ok (.iload_n 3, 1) := by decide +kernel
theorem dX7_setSize_69 : decode cX7_setSize 69 = .ok (.ireturn, 1) := by decide +kernel
theorem dX7_clear_0 : decode cX7_clear 0 = .ok (.iload_n 1, 1) := by decide +kernel
theorem dX7_clear_1 : decode cX7_clear 1 = .ok (.invokestatic 72, 3) := by decide +kernel
theorem dX7_clear_4 : decode cX7_clear 4 = .ok (.ifCond .ne 5, 3) := by decide +kernel
theorem dX7_clear_7 : decode cX7_clear 7 = .ok (.iconst (-1), 1) := by decide +kernel
theorem dX7_clear_8 : decode cX7_clear 8 = .ok (.ireturn, 1) := by decide +kernel
theorem dX7_clear_9 : decode cX7_clear 9 = .ok (.aload_n 0, 1) := by decide +kernel
theorem dX7_clear_10 : decode cX7_clear 10 = .ok (.iload_n 1, 1) := by decide +kernel
theorem dX7_clear_11 : decode cX7_clear 11 = .ok (.iconst 2, 1) := by decide +kernel
theorem dX7_clear_12 : decode cX7_clear 12 = .ok (.invokevirtual 47, 3) := by decide +kernel
theorem dX7_clear_15 : decode cX7_clear 15 = .ok (.istore_n 2, 1) := by decide +kernel
theorem dX7_clear_16 : decode cX7_clear 16 = .ok (.iload_n 2, 1) := by decide +kernel
theorem dX7_clear_17 : decode cX7_clear 17 = .ok (.ifCond .ne 6, 3) := by decide +kernel
theorem dX7_clear_20 : decode cX7_clear 20 = .ok (.bipush (-5), 2) := by decide +kernel
theorem dX7_clear_22 : decode cX7_clear 22 = .ok (.ireturn, 1) := by decide +kernel
theorem dX7_clear_23 : decode cX7_clear 23 = .ok (.aload_n 0, 1) := by decide +kernel
theorem dX7_clear_24 : decode cX7_clear 24 = .ok (.invokevirtual 81, 3) := by decide +kernel
theorem dX7_clear_27 : decode cX7_clear 27 = .ok (.aload_n 0, 1) := by decide +kernel
theorem dX7_clear_28 : decode cX7_clear 28 = .ok (.iload_n 1, 1) := by decide +kernel
theorem dX7_clear_29 : decode cX7_clear 29 = .ok (.invokevirtual 94, 3) := by decide +kernel
theorem dX7_clear_32 : decode cX7_clear 32 = .ok (.iload_n 2, 1) := by decide +kernel
theorem dX7_clear_33 : decode cX7_clear 33 = .ok (.ireturn, 1) := by decide +kernel
theorem dX7_type_0 : decode cX7_type 0 = .ok (.aload_n 0, 1) := by decide +kernel
theorem dX7_type_1 : decode cX7_type 1 = .ok (.getfield 103, 3) := by decide +kernel
theorem dX7_type_4 : decode cX7_type 4 = .ok (.bipush 60, 2) := by decide +kernel
theorem dX7_type_6 : decode cX7_type 6 = .ok (.if_icmp .ne 6, 3) := by decide +kernel
theorem dX7_type_9 : decode cX7_type 9 = .ok (.bipush (-3), 2) := by decide +kernel
theorem dX7_type_11 : decode cX7_type 11 = .ok (.ireturn, 1) := by decide +kernel
theorem dX7_type_12 : decode cX7_type 12 = .ok (.aload_n 0, 1) := by decide +kernel
theorem dX7_type_13 : decode cX7_type 13 = .ok (.getfield 19, 3) := by decide +kernel
theorem dX7_type_16 : decode cX7_type 16 = .ok (.aload_n 0, 1) := by decide +kernel
theorem dX7_type_17 : decode cX7_type 17 = .ok (.getfield 103, 3) := by decide +kernel
theorem dX7_type_20 : decode cX7_type 20 = .ok (.iload_n 1, 1) := by decide +kernel
theorem dX7_type_21 : decode cX7_type 21 = .ok (.castore, 1) := by decide +kernel
theorem dX7_type_22 : decode cX7_type 22 = .ok (.aload_n 0, 1) := by decide +kernel
theorem dX7_type_23 : decode cX7_type 23 = .ok (.dup, 1) := by decide +kernel
theorem dX7_type_24 : decode cX7_type 24 = .ok (.getfield 103, 3) := by decide +kernel
theorem dX7_type_27 : decode cX7_type 27 = .ok (.iconst 1, 1) := by decide +kernel
theorem dX7_type_28 : decode cX7_type 28 = .ok (.iadd, 1) := by decide +kernel
theorem dX7_type_29 : decode cX7_type 29 = .ok (.putfield 103, 3) := by decide +kernel
theorem dX7_type_32 : decode cX7_type 32 = .ok (.aload_n 0, 1) := by decide +kernel
theorem dX7_type_33 : decode cX7_type 33 = .ok (.getfield 103, 3) := by decide +kernel
theorem dX7_type_36 : decode cX7_type 36 = .ok (.ireturn, 1) := by decide +kernel
theorem dX7_clearText_0 : decode cX7_clearText 0 = .ok (.aload_n 0, 1) := by decide +kernel
theorem dX7_clearText_1 : decode cX7_clearText 1 = .ok (.getfield 103, 3) := by decide +kernel
theorem dX7_clearText_4 : decode cX7_clearText 4 = .ok (.istore_n 1, 1) := by decide +kernel
theorem dX7_clearText_5 : decode cX7_clearText 5 = .ok (.aload_n 0, 1) := by decide +kernel
theorem dX7_clearText_6 : decode cX7_clearText 6 = .ok (.iconst 0, 1) := by decide +kernel
theorem dX7_clearText_7 : decode cX7_clearText 7 = .ok (.putfield 103, 3) := by decide +kernel
theorem dX7_clearText_10 : decode cX7_clearText 10 = .ok (.iload_n 1, 1) := by decide +kernel
theorem dX7_clearText_11 : decode cX7_clearText 11 = .ok (.ireturn, 1) := by decide +kernel
theorem dX7_isBetween_0 : decode cX7_isBetween 0 = .ok (.aload_n 0, 1) := by decide +kernel
theorem dX7_isBetween_1 : decode cX7_isBetween 1 = .ok (.getfield 106, 3) := by decide +kernel
theorem dX7_isBetween_4 : decode cX7_isBetween 4 = .ok (.aload_n 0, 1) := by decide +kernel
theorem dX7_isBetween_5 : decode cX7_isBetween 5 = .ok (.getfield 103, 3) := by decide +kernel
theorem dX7_isBetween_8 : decode cX7_isBetween 8 = .ok (.if_icmp .ge 24, 3) := by decide +kernel
theorem dX7_isBetween_11 : decode cX7_isBetween 11 = .ok (.aload_n 0, 1) := by decide +kernel
theorem dX7_isBetween_12 : decode cX7_isBetween 12 = .ok (.getfield 19, 3) := by decide +kernel
theorem dX7_isBetween_15 : decode cX7_isBetween 15 = .ok (.aload_n 0, 1) := by decide +kernel
theorem dX7_isBetween_16 : decode cX7_isBetween 16 = .ok (.getfield 106, 3) := by decide +kernel
theorem dX7_isBetween_19 : decode cX7_isBetween 19 = .ok (.caload, 1) := by decide +kernel
theorem dX7_isBetween_20 : decode cX7_isBetween 20 = .ok (.iload_n 1, 1) := by decide +kernel
theorem dX7_isBetween_21 : decode cX7_isBetween 21 = .ok (.iload_n 2, 1) := by decide +kernel
theorem dX7_isBetween_22 : decode cX7_isBetween 22 = .ok (.invokestatic 35, 3) := by decide +kernel
theorem dX7_isBetween_25 : decode cX7_isBetween 25 = .ok (.ifCond .eq 7, 3) := by decide +kernel
theorem dX7_isBetween_28 : decode cX7_isBetween 28 = .ok (.iconst 1, 1) := by decide +kernel
theorem dX7_isBetween_29 : decode cX7_isBetween 29 = .ok (.goto 4, 3) := by decide +kernel
theorem dX7_isBetween_32 : decode cX7_isBetween 32 = .ok (.iconst 0, 1) := by decide +kernel
theorem dX7_isBetween_33 : decode cX7_isBetween 33 = .ok (.ireturn, 1) := by decide +kernel
theorem dX7_takes_0 : decode cX7_takes 0 = .ok (.aload_n 0, 1) := by decide +kernel
theorem dX7_takes_1 : decode cX7_takes 1 = .ok (.iload_n 1, 1) := by decide +kernel
theorem dX7_takes_2 : decode cX7_takes 2 = .ok (.iload_n 1, 1) := by decide +kernel
theorem dX7_takes_3 : decode cX7_takes 3 = .ok (.invokevirtual 109, 3) := by decide +kernel
theorem dX7_takes_6 : decode cX7_takes 6 = .ok (.istore_n 2, 1) := by decide +kernel
theorem dX7_takes_7 : decode cX7_takes 7 = .ok (.aload_n 0, 1) := by decide +kernel
theorem dX7_takes_8 : decode cX7_takes 8 = .ok (.dup, 1) := by decide +kernel
theorem dX7_takes_9 : decode cX7_takes 9 = .ok (.getfield 106, 3) := by decide +kernel
theorem dX7_takes_12 : decode cX7_takes 12 = .ok (.iload_n 2, 1) := by decide +kernel
theorem dX7_takes_13 : decode cX7_takes 13 = .ok (.ifCond .eq 7, 3) := by decide +kernel
theorem dX7_takes_16 : decode cX7_takes 16 = .ok (.iconst 1, 1) := by decide +kernel
theorem dX7_takes_17 : decode cX7_takes 17 = .ok (.goto 4, 3) := by decide +kernel
theorem dX7_takes_20 : decode cX7_takes 20 = .ok (.iconst 0, 1) := by decide +kernel
theorem dX7_takes_21 : decode cX7_takes 21 = .ok (.iadd, 1) := by decide +kernel
theorem dX7_takes_22 : decode cX7_takes 22 = .ok (.putfield 106, 3) := by decide +kernel
theorem dX7_takes_25 : decode cX7_takes 25 = .ok (.iload_n 2, 1) := by decide +kernel
theorem dX7_takes_26 : decode cX7_takes 26 = .ok (.ireturn, 1) := by decide +kernel
theorem dX7_takesArrival_0 : decode cX7_takesArrival 0 = .ok (.aload_n 0, 1) := by decide +kernel
theorem dX7_takesArrival_1 : decode cX7_takesArrival 1 = .ok (.bipush 97, 2) := by decide +kernel
theorem dX7_takesArrival_3 : decode cX7_takesArrival 3 = .ok (.bipush 122, 2) := by decide +kernel
theorem dX7_takesArrival_5 : decode cX7_takesArrival 5 = .ok (.invokevirtual 109, 3) := by decide +kernel
theorem dX7_takesArrival_8 : decode cX7_takesArrival 8 = .ok (.ifCond .ne 5, 3) := by decide +kernel
theorem dX7_takesArrival_11 : decode cX7_takesArrival 11 = .ok (.iconst 0, 1) := by decide +kernel
theorem dX7_takesArrival_12 : decode cX7_takesArrival 12 = .ok (.ireturn, 1) := by decide +kernel
theorem dX7_takesArrival_13 : decode cX7_takesArrival 13 = .ok (.aload_n 0, 1) := by decide +kernel
theorem dX7_takesArrival_14 : decode cX7_takesArrival 14 = .ok (.aload_n 0, 1) := by decide +kernel
theorem dX7_takesArrival_15 : decode cX7_takesArrival 15 = .ok (.getfield 19, 3) := by decide +kernel
theorem dX7_takesArrival_18 : decode cX7_takesArrival 18 = .ok (.aload_n 0, 1) := by decide +kernel
theorem dX7_takesArrival_19 : decode cX7_takesArrival 19 = .ok (.getfield 106, 3) := by decide +kernel
theorem dX7_takesArrival_22 : decode cX7_takesArrival 22 = .ok (.caload, 1) := by decide +kernel
theorem dX7_takesArrival_23 : decode cX7_takesArrival 23 = .ok (.bipush 97, 2) := by decide +kernel
theorem dX7_takesArrival_25 : decode cX7_takesArrival 25 = .ok (.isub, 1) := by decide +kernel
theorem dX7_takesArrival_26 : decode cX7_takesArrival 26 = .ok (.putfield 112, 3) := by decide +kernel
theorem dX7_takesArrival_29 : decode cX7_takesArrival 29 = .ok (.aload_n 0, 1) := by decide +kernel
theorem dX7_takesArrival_30 : decode cX7_takesArrival 30 = .ok (.dup, 1) := by decide +kernel
theorem dX7_takesArrival_31 : decode cX7_takesArrival 31 = .ok (.getfield 106, 3) := by decide +kernel
theorem dX7_takesArrival_34 : decode cX7_takesArrival 34 = .ok (.iconst 1, 1) := by decide +kernel
theorem dX7_takesArrival_35 : decode cX7_takesArrival 35 = .ok (.iadd, 1) := by decide +kernel
theorem dX7_takesArrival_36 : decode cX7_takesArrival 36 = .ok (.putfield 106, 3) := by decide +kernel
theorem dX7_takesArrival_39 : decode cX7_takesArrival 39 = .ok (.aload_n 0, 1) := by decide +kernel
theorem dX7_takesArrival_40 : decode cX7_takesArrival 40 = .ok (.iconst 1, 1) := by decide +kernel
theorem dX7_takesArrival_41 : decode cX7_takesArrival 41 = .ok (.putfield 115, 3) := by decide +kernel
theorem dX7_takesArrival_44 : decode cX7_takesArrival 44 = .ok (.aload_n 0, 1) := by decide +kernel
theorem dX7_takesArrival_45 : decode cX7_takesArrival 45 = .ok (.bipush 49, 2) := by decide +kernel
theorem dX7_takesArrival_47 : decode cX7_takesArrival 47 = .ok (.bipush 57, 2) := by decide +kernel
theorem dX7_takesArrival_49 : decode cX7_takesArrival 49 = .ok (.invokevirtual 109, 3) := by decide +kernel
theorem dX7_takesArrival_52 : decode cX7_takesArrival 52 = .ok (.ifCond .eq 74, 3) := by decide +kernel
theorem dX7_takesArrival_55 : decode cX7_takesArrival 55 = .ok (.aload_n 0, 1) := by decide +kernel
theorem dX7_takesArrival_56 : decode cX7_takesArrival 56 = .ok (.aload_n 0, 1) := by decide +kernel
theorem dX7_takesArrival_57 : decode cX7_takesArrival 57 = .ok (.getfield 19, 3) := by decide +kernel
theorem dX7_takesArrival_60 : decode cX7_takesArrival 60 = .ok (.aload_n 0, 1) := by decide +kernel
theorem dX7_takesArrival_61 : decode cX7_takesArrival 61 = .ok (.getfield 106, 3) := by decide +kernel
theorem dX7_takesArrival_64 : decode cX7_takesArrival 64 = .ok (.caload, 1) := by decide +kernel
theorem dX7_takesArrival_65 : decode cX7_takesArrival 65 = .ok (.bipush 48, 2) := by decide +kernel
theorem dX7_takesArrival_67 : decode cX7_takesArrival 67 = .ok (.isub, 1) := by decide +kernel
theorem dX7_takesArrival_68 : decode cX7_takesArrival 68 = .ok (.putfield 115, 3) := by decide +kernel
theorem dX7_takesArrival_71 : decode cX7_takesArrival 71 = .ok (.aload_n 0, 1) := by decide +kernel
theorem dX7_takesArrival_72 : decode cX7_takesArrival 72 = .ok (.dup, 1) := by decide +kernel
theorem dX7_takesArrival_73 : decode cX7_takesArrival 73 = .ok (.getfield 106, 3) := by decide +kernel
theorem dX7_takesArrival_76 : decode cX7_takesArrival 76 = .ok (.iconst 1, 1) := by decide +kernel
theorem dX7_takesArrival_77 : decode cX7_takesArrival 77 = .ok (.iadd, 1) := by decide +kernel
theorem dX7_takesArrival_78 : decode cX7_takesArrival 78 = .ok (.putfield 106, 3) := by decide +kernel
theorem dX7_takesArrival_81 : decode cX7_takesArrival 81 = .ok (.aload_n 0, 1) := by decide +kernel
theorem dX7_takesArrival_82 : decode cX7_takesArrival 82 = .ok (.bipush 48, 2) := by decide +kernel
theorem dX7_takesArrival_84 : decode cX7_takesArrival 84 = .ok (.bipush 57, 2) := by decide +kernel
theorem dX7_takesArrival_86 : decode cX7_takesArrival 86 = .ok (.invokevirtual 109, 3) := by decide +kernel
theorem dX7_takesArrival_89 : decode cX7_takesArrival 89 = .ok (.ifCond .eq 37, 3) := by decide +kernel
theorem dX7_takesArrival_92 : decode cX7_takesArrival 92 = .ok (.aload_n 0, 1) := by decide +kernel
theorem dX7_takesArrival_93 : decode cX7_takesArrival 93 = .ok (.bipush 10, 2) := by decide +kernel
theorem dX7_takesArrival_95 : decode cX7_takesArrival 95 = .ok (.aload_n 0, 1) := by decide +kernel
theorem dX7_takesArrival_96 : decode cX7_takesArrival 96 = .ok (.getfield 115, 3) := by decide +kernel
theorem dX7_takesArrival_99 : decode cX7_takesArrival 99 = .ok (.imul, 1) := by decide +kernel
theorem dX7_takesArrival_100 : decode cX7_takesArrival 100 = .ok (.aload_n 0, 1) := by decide +kernel
theorem dX7_takesArrival_101 : decode cX7_takesArrival 101 = .ok (.getfield 19, 3) := by decide +kernel
theorem dX7_takesArrival_104 : decode cX7_takesArrival 104 = .ok (.aload_n 0, 1) := by decide +kernel
theorem dX7_takesArrival_105 : decode cX7_takesArrival 105 = .ok (.getfield 106, 3) := by decide +kernel
theorem dX7_takesArrival_108 : decode cX7_takesArrival 108 = .ok (.caload, 1) := by decide +kernel
theorem dX7_takesArrival_109 : decode cX7_takesArrival 109 = .ok (.iadd, 1) := by decide +kernel
theorem dX7_takesArrival_110 : decode cX7_takesArrival 110 = .ok (.bipush 48, 2) := by decide +kernel
theorem dX7_takesArrival_112 : decode cX7_takesArrival 112 = .ok (.isub, 1) := by decide +kernel
theorem dX7_takesArrival_113 : decode cX7_takesArrival 113 = .ok (.putfield 115, 3) := by decide +kernel
theorem dX7_takesArrival_116 : decode cX7_takesArrival 116 = .ok (.aload_n 0, 1) := by decide +kernel
theorem dX7_takesArrival_117 : decode cX7_takesArrival 117 = .ok (.dup, 1) := by decide +kernel
theorem dX7_takesArrival_118 : decode cX7_takesArrival 118 = .ok (.getfield 106, 3) := by decide +kernel
theorem dX7_takesArrival_121 : decode cX7_takesArrival 121 = .ok (.iconst 1, 1) := by decide +kernel
theorem dX7_takesArrival_122 : decode cX7_takesArrival 122 = .ok (.iadd, 1) := by decide +kernel
theorem dX7_takesArrival_123 : decode cX7_takesArrival 123 = .ok (.putfield 106, 3) := by decide +kernel
theorem dX7_takesArrival_126 : decode cX7_takesArrival 126 = .ok (.iconst 1, 1) := by decide +kernel
theorem dX7_takesArrival_127 : decode cX7_takesArrival 127 = .ok (.ireturn, 1) := by decide +kernel
theorem dX7_arrivals_0 : decode cX7_arrivals 0 = .ok (.aload_n 0, 1) := by decide +kernel
theorem dX7_arrivals_1 : decode cX7_arrivals 1 = .ok (.iconst 0, 1) := by decide +kernel
theorem dX7_arrivals_2 : decode cX7_arrivals 2 = .ok (.putfield 106, 3) := by decide +kernel
theorem dX7_arrivals_5 : decode cX7_arrivals 5 = .ok (.aload_n 0, 1) := by decide +kernel
theorem dX7_arrivals_6 : decode cX7_arrivals 6 = .ok (.iconst 0, 1) := by decide +kernel
theorem dX7_arrivals_7 : decode cX7_arrivals 7 = .ok (.putfield 118, 3) := by decide +kernel
theorem dX7_arrivals_10 : decode cX7_arrivals 10 = .ok (.iconst 0, 1) := by decide +kernel
theorem dX7_arrivals_11 : decode cX7_arrivals 11 = .ok (.istore_n 1, 1) := by decide +kernel
theorem dX7_arrivals_12 : decode cX7_arrivals 12 = .ok (.iconst 1, 1) := by decide +kernel
theorem dX7_arrivals_13 : decode cX7_arrivals 13 = .ok (.istore_n 2, 1) := by decide +kernel
theorem dX7_arrivals_14 : decode cX7_arrivals 14 = .ok (.iload_n 2, 1) := by decide +kernel
theorem dX7_arrivals_15 : decode cX7_arrivals 15 = .ok (.ifCond .eq 62, 3) := by decide +kernel
theorem dX7_arrivals_18 : decode cX7_arrivals 18 = .ok (.aload_n 0, 1) := by decide +kernel
theorem dX7_arrivals_19 : decode cX7_arrivals 19 = .ok (.invokevirtual 121, 3) := by decide +kernel
theorem dX7_arrivals_22 : decode cX7_arrivals 22 = .ok (.ifCond .ne 6, 3) := by decide +kernel
theorem dX7_arrivals_25 : decode cX7_arrivals 25 = .ok (.bipush (-5), 2) := by decide +kernel
theorem dX7_arrivals_27 : decode cX7_arrivals 27 = .ok (.ireturn, 1) := by decide +kernel
theorem dX7_arrivals_28 : decode cX7_arrivals 28 = .ok (.aload_n 0, 1) := by decide +kernel
theorem dX7_arrivals_29 : decode cX7_arrivals 29 = .ok (.dup, 1) := by decide +kernel
theorem dX7_arrivals_30 : decode cX7_arrivals 30 = .ok (.getfield 118, 3) := by decide +kernel
theorem dX7_arrivals_33 : decode cX7_arrivals 33 = .ok (.aload_n 0, 1) := by decide +kernel
theorem dX7_arrivals_34 : decode cX7_arrivals 34 = .ok (.getfield 115, 3) := by decide +kernel
theorem dX7_arrivals_37 : decode cX7_arrivals 37 = .ok (.iadd, 1) := by decide +kernel
theorem dX7_arrivals_38 : decode cX7_arrivals 38 = .ok (.putfield 118, 3) := by decide +kernel
theorem dX7_arrivals_41 : decode cX7_arrivals 41 = .ok (.iinc 1 1, 3) := by decide +kernel
theorem dX7_arrivals_44 : decode cX7_arrivals 44 = .ok (.aload_n 0, 1) := by decide +kernel
theorem dX7_arrivals_45 : decode cX7_arrivals 45 = .ok (.getfield 106, 3) := by decide +kernel
theorem dX7_arrivals_48 : decode cX7_arrivals 48 = .ok (.aload_n 0, 1) := by decide +kernel
theorem dX7_arrivals_49 : decode cX7_arrivals 49 = .ok (.getfield 103, 3) := by decide +kernel
theorem dX7_arrivals_52 : decode cX7_arrivals 52 = .ok (.if_icmp .ge 7, 3) := by decide +kernel
theorem dX7_arrivals_55 : decode cX7_arrivals 55 = .ok (.iconst 1, 1) := by decide +kernel
theorem dX7_arrivals_56 : decode cX7_arrivals 56 = .ok (.goto 4, 3) := by decide +kernel
theorem dX7_arrivals_59 : decode cX7_arrivals 59 = .ok (.iconst 0, 1) := by decide +kernel
theorem dX7_arrivals_60 : decode cX7_arrivals 60 = .ok (.istore_n 2, 1) := by decide +kernel
theorem dX7_arrivals_61 : decode cX7_arrivals 61 = .ok (.iload_n 2, 1) := by decide +kernel
theorem dX7_arrivals_62 : decode cX7_arrivals 62 = .ok (.ifCond .eq (-48), 3) := by decide +kernel
theorem dX7_arrivals_65 : decode cX7_arrivals 65 = .ok (.aload_n 0, 1) := by decide +kernel
theorem dX7_arrivals_66 : decode cX7_arrivals 66 = .ok (.bipush 44, 2) := by decide +kernel
theorem dX7_arrivals_68 : decode cX7_arrivals 68 = .ok (.invokevirtual 125, 3) := by decide +kernel
theorem dX7_arrivals_71 : decode cX7_arrivals 71 = .ok (.ifCond .ne (-57), 3) := by decide +kernel
theorem dX7_arrivals_74 : decode cX7_arrivals 74 = .ok (.bipush (-5), 2) := by decide +kernel
theorem dX7_arrivals_76 : decode cX7_arrivals 76 = .ok (.ireturn, 1) := by decide +kernel
theorem dX7_arrivals_77 : decode cX7_arrivals 77 = .ok (.iload_n 1, 1) := by decide +kernel
theorem dX7_arrivals_78 : decode cX7_arrivals 78 = .ok (.ireturn, 1) := by decide +kernel
theorem dX7_feed_0 : decode cX7_feed 0 = .ok (.iload_n 1, 1) := by decide +kernel
theorem dX7_feed_1 : decode cX7_feed 1 = .ok (.invokestatic 72, 3) := by decide +kernel
theorem dX7_feed_4 : decode cX7_feed 4 = .ok (.ifCond .ne 5, 3) := by decide +kernel
theorem dX7_feed_7 : decode cX7_feed 7 = .ok (.iconst (-1), 1) := by decide +kernel
theorem dX7_feed_8 : decode cX7_feed 8 = .ok (.ireturn, 1) := by decide +kernel
theorem dX7_feed_9 : decode cX7_feed 9 = .ok (.aload_n 0, 1) := by decide +kernel
theorem dX7_feed_10 : decode cX7_feed 10 = .ok (.invokevirtual 128, 3) := by decide +kernel
theorem dX7_feed_13 : decode cX7_feed 13 = .ok (.istore_n 2, 1) := by decide +kernel
theorem dX7_feed_14 : decode cX7_feed 14 = .ok (.iload_n 2, 1) := by decide +kernel
theorem dX7_feed_15 : decode cX7_feed 15 = .ok (.bipush (-5), 2) := by decide +kernel
theorem dX7_feed_17 : decode cX7_feed 17 = .ok (.if_icmp .ne 11, 3) := by decide +kernel
theorem dX7_feed_20 : decode cX7_feed 20 = .ok (.bipush (-100), 2) := by decide +kernel
theorem dX7_feed_22 : decode cX7_feed 22 = .ok (.aload_n 0, 1) := by decide +kernel
theorem dX7_feed_23 : decode cX7_feed 23 = .ok (.getfield 106, 3) := by decide +kernel
theorem dX7_feed_26 : decode cX7_feed 26 = .ok (.isub, 1) := by decide +kernel
theorem dX7_feed_27 : decode cX7_feed 27 = .ok (.ireturn, 1) := by decide +kernel
theorem dX7_feed_28 : decode cX7_feed 28 = .ok (.aload_n 0, 1) := by decide +kernel
theorem dX7_feed_29 : decode cX7_feed 29 = .ok (.iload_n 1, 1) := by decide +kernel
theorem dX7_feed_30 : decode cX7_feed 30 = .ok (.iconst 2, 1) := by decide +kernel
theorem dX7_feed_31 : decode cX7_feed 31 = .ok (.invokevirtual 47, 3) := by decide +kernel
theorem dX7_feed_34 : decode cX7_feed 34 = .ok (.aload_n 0, 1) := by decide +kernel
theorem dX7_feed_35 : decode cX7_feed 35 = .ok (.getfield 118, 3) := by decide +kernel
theorem dX7_feed_38 : decode cX7_feed 38 = .ok (.iadd, 1) := by decide +kernel
theorem dX7_feed_39 : decode cX7_feed 39 = .ok (.ldc 80, 2) := by decide +kernel
theorem dX7_feed_41 : decode cX7_feed 41 = .ok (.if_icmp .le 6, 3) := by decide +kernel
theorem dX7_feed_44 : decode cX7_feed 44 = .ok (.bipush (-3), 2) := by decide +kernel
theorem dX7_feed_46 : decode cX7_feed 46 = .ok (.ireturn, 1) := by decide +kernel
theorem dX7_feed_47 : decode cX7_feed 47 = .ok (.aload_n 0, 1) := by decide +kernel
theorem dX7_feed_48 : decode cX7_feed 48 = .ok (.invokevirtual 81, 3) := by decide +kernel
theorem dX7_feed_51 : decode cX7_feed 51 = .ok (.aload_n 0, 1) := by decide +kernel
theorem dX7_feed_52 : decode cX7_feed 52 = .ok (.iconst 0, 1) := by decide +kernel
theorem dX7_feed_53 : decode cX7_feed 53 = .ok (.putfield 106, 3) := by decide +kernel
theorem dX7_feed_56 : decode cX7_feed 56 = .ok (.iconst 0, 1) := by decide +kernel
theorem dX7_feed_57 : decode cX7_feed 57 = .ok (.istore_n 3, 1) := by decide +kernel
theorem dX7_feed_58 : decode cX7_feed 58 = .ok (.iload_n 3, 1) := by decide +kernel
theorem dX7_feed_59 : decode cX7_feed 59 = .ok (.iload_n 2, 1) := by decide +kernel
theorem dX7_feed_60 : decode cX7_feed 60 = .ok (.if_icmp .ge 37, 3) := by decide +kernel
theorem dX7_feed_63 : decode cX7_feed 63 = .ok (.aload_n 0, 1) := by decide +kernel
theorem dX7_feed_64 : decode cX7_feed 64 = .ok (.invokevirtual 121, 3) := by decide +kernel
theorem dX7_feed_67 : decode cX7_feed 67 = .ok (.pop, 1) := by decide +kernel
theorem dX7_feed_68 : decode cX7_feed 68 = .ok (.aload_n 0, 1) := by decide +kernel
theorem dX7_feed_69 : decode cX7_feed 69 = .ok (.dup, 1) := by decide +kernel
theorem dX7_feed_70 : decode cX7_feed 70 = .ok (.getfield 106, 3) := by decide +kernel
theorem dX7_feed_73 : decode cX7_feed 73 = .ok (.iconst 1, 1) := by decide +kernel
theorem dX7_feed_74 : decode cX7_feed 74 = .ok (.iadd, 1) := by decide +kernel
theorem dX7_feed_75 : decode cX7_feed 75 = .ok (.putfield 106, 3) := by decide +kernel
theorem dX7_feed_78 : decode cX7_feed 78 = .ok (.aload_n 0, 1) := by decide +kernel
theorem dX7_feed_79 : decode cX7_feed 79 = .ok (.iload_n 1, 1) := by decide +kernel
theorem dX7_feed_80 : decode cX7_feed 80 = .ok (.aload_n 0, 1) := by decide +kernel
theorem dX7_feed_81 : decode cX7_feed 81 = .ok (.getfield 112, 3) := by decide +kernel
theorem dX7_feed_84 : decode cX7_feed 84 = .ok (.aload_n 0, 1) := by decide +kernel
theorem dX7_feed_85 : decode cX7_feed 85 = .ok (.getfield 115, 3) := by decide +kernel
theorem dX7_feed_88 : decode cX7_feed 88 = .ok (.invokevirtual 84, 3) := by decide +kernel
theorem dX7_feed_91 : decode cX7_feed 91 = .ok (.iinc 3 1, 3) := by decide +kernel
theorem dX7_feed_94 : decode cX7_feed 94 = .ok (.goto (-36), 3) := by decide +kernel
theorem dX7_feed_97 : decode cX7_feed 97 = .ok (.iload_n 2, 1) := by decide +kernel
theorem dX7_feed_98 : decode cX7_feed 98 = .ok (.ireturn, 1) := by decide +kernel
theorem dX7_flowAll_0 : decode cX7_flowAll 0 = .ok (.aload_n 0, 1) := by decide +kernel
theorem dX7_flowAll_1 : decode cX7_flowAll 1 = .ok (.invokevirtual 128, 3) := by decide +kernel
theorem dX7_flowAll_4 : decode cX7_flowAll 4 = .ok (.istore_n 1, 1) := by decide +kernel
theorem dX7_flowAll_5 : decode cX7_flowAll 5 = .ok (.iload_n 1, 1) := by decide +kernel
theorem dX7_flowAll_6 : decode cX7_flowAll 6 = .ok (.bipush (-5), 2) := by decide +kernel
theorem dX7_flowAll_8 : decode cX7_flowAll 8 = .ok (.if_icmp .ne 11, 3) := by decide +kernel
theorem dX7_flowAll_11 : decode cX7_flowAll 11 = .ok (.bipush (-100), 2) := by decide +kernel
theorem dX7_flowAll_13 : decode cX7_flowAll 13 = .ok (.aload_n 0, 1) := by decide +kernel
theorem dX7_flowAll_14 : decode cX7_flowAll 14 = .ok (.getfield 106, 3) := by decide +kernel
theorem dX7_flowAll_17 : decode cX7_flowAll 17 = .ok (.isub, 1) := by decide +kernel
theorem dX7_flowAll_18 : decode cX7_flowAll 18 = .ok (.ireturn, 1) := by decide +kernel
theorem dX7_flowAll_19 : decode cX7_flowAll 19 = .ok (.aload_n 0, 1) := by decide +kernel
theorem dX7_flowAll_20 : decode cX7_flowAll 20 = .ok (.invokevirtual 81, 3) := by decide +kernel
theorem dX7_flowAll_23 : decode cX7_flowAll 23 = .ok (.aload_n 0, 1) := by decide +kernel
theorem dX7_flowAll_24 : decode cX7_flowAll 24 = .ok (.iconst 0, 1) := by decide +kernel
theorem dX7_flowAll_25 : decode cX7_flowAll 25 = .ok (.putfield 106, 3) := by decide +kernel
theorem dX7_flowAll_28 : decode cX7_flowAll 28 = .ok (.iconst 0, 1) := by decide +kernel
theorem dX7_flowAll_29 : decode cX7_flowAll 29 = .ok (.istore_n 2, 1) := by decide +kernel
theorem dX7_flowAll_30 : decode cX7_flowAll 30 = .ok (.iload_n 2, 1) := by decide +kernel
theorem dX7_flowAll_31 : decode cX7_flowAll 31 = .ok (.iload_n 1, 1) := by decide +kernel
theorem dX7_flowAll_32 : decode cX7_flowAll 32 = .ok (.if_icmp .ge 36, 3) := by decide +kernel
theorem dX7_flowAll_35 : decode cX7_flowAll 35 = .ok (.aload_n 0, 1) := by decide +kernel
theorem dX7_flowAll_36 : decode cX7_flowAll 36 = .ok (.invokevirtual 121, 3) := by decide +kernel
theorem dX7_flowAll_39 : decode cX7_flowAll 39 = .ok (.pop, 1) := by decide +kernel
theorem dX7_flowAll_40 : decode cX7_flowAll 40 = .ok (.aload_n 0, 1) := by decide +kernel
theorem dX7_flowAll_41 : decode cX7_flowAll 41 = .ok (.dup, 1) := by decide +kernel
theorem dX7_flowAll_42 : decode cX7_flowAll 42 = .ok (.getfield 106, 3) := by decide +kernel
theorem dX7_flowAll_45 : decode cX7_flowAll 45 = .ok (.iconst 1, 1) := by decide +kernel
theorem dX7_flowAll_46 : decode cX7_flowAll 46 = .ok (.iadd, 1) := by decide +kernel
theorem dX7_flowAll_47 : decode cX7_flowAll 47 = .ok (.putfield 106, 3) := by decide +kernel
theorem dX7_flowAll_50 : decode cX7_flowAll 50 = .ok (.aload_n 0, 1) := by decide +kernel
theorem dX7_flowAll_51 : decode cX7_flowAll 51 = .ok (.aload_n 0, 1) := by decide +kernel
theorem dX7_flowAll_52 : decode cX7_flowAll 52 = .ok (.getfield 112, 3) := by decide +kernel
theorem dX7_flowAll_55 : decode cX7_flowAll 55 = .ok (.aload_n 0, 1) := by decide +kernel
theorem dX7_flowAll_56 : decode cX7_flowAll 56 = .ok (.getfield 115, 3) := by decide +kernel
theorem dX7_flowAll_59 : decode cX7_flowAll 59 = .ok (.invokevirtual 97, 3) := by decide +kernel
theorem dX7_flowAll_62 : decode cX7_flowAll 62 = .ok (.iinc 2 1, 3) := by decide +kernel
theorem dX7_flowAll_65 : decode cX7_flowAll 65 = .ok (.goto (-35), 3) := by decide +kernel
theorem dX7_flowAll_68 : decode cX7_flowAll 68 = .ok (.iload_n 1, 1) := by decide +kernel
theorem dX7_flowAll_69 : decode cX7_flowAll 69 = .ok (.ireturn, 1) := by decide +kernel
theorem dX7_isWord_0 : decode cX7_isWord 0 = .ok (.aload_n 0, 1) := by decide +kernel
theorem dX7_isWord_1 : decode cX7_isWord 1 = .ok (.getfield 106, 3) := by decide +kernel
theorem dX7_isWord_4 : decode cX7_isWord 4 = .ok (.iload 5, 2) := by decide +kernel
theorem dX7_isWord_6 : decode cX7_isWord 6 = .ok (.if_icmp .ne 48, 3) := by decide +kernel
theorem dX7_isWord_9 : decode cX7_isWord 9 = .ok (.aload_n 0, 1) := by decide +kernel
theorem dX7_isWord_10 : decode cX7_isWord 10 = .ok (.getfield 19, 3) := by decide +kernel
theorem dX7_isWord_13 : decode cX7_isWord 13 = .ok (.iconst 0, 1) := by decide +kernel
theorem dX7_isWord_14 : decode cX7_isWord 14 = .ok (.caload, 1) := by decide +kernel
theorem dX7_isWord_15 : decode cX7_isWord 15 = .ok (.iload_n 1, 1) := by decide +kernel
theorem dX7_isWord_16 : decode cX7_isWord 16 = .ok (.if_icmp .ne 38, 3) := by decide +kernel
theorem dX7_isWord_19 : decode cX7_isWord 19 = .ok (.aload_n 0, 1) := by decide +kernel
theorem dX7_isWord_20 : decode cX7_isWord 20 = .ok (.getfield 19, 3) := by decide +kernel
theorem dX7_isWord_23 : decode cX7_isWord 23 = .ok (.iconst 1, 1) := by decide +kernel
theorem dX7_isWord_24 : decode cX7_isWord 24 = .ok (.caload, 1) := by decide +kernel
theorem dX7_isWord_25 : decode cX7_isWord 25 = .ok (.iload_n 2, 1) := by decide +kernel
theorem dX7_isWord_26 : decode cX7_isWord 26 = .ok (.if_icmp .ne 28, 3) := by decide +kernel
theorem dX7_isWord_29 : decode cX7_isWord 29 = .ok (.aload_n 0, 1) := by decide +kernel
theorem dX7_isWord_30 : decode cX7_isWord 30 = .ok (.getfield 19, 3) := by decide +kernel
theorem dX7_isWord_33 : decode cX7_isWord 33 = .ok (.iconst 2, 1) := by decide +kernel
theorem dX7_isWord_34 : decode cX7_isWord 34 = .ok (.caload, 1) := by decide +kernel
theorem dX7_isWord_35 : decode cX7_isWord 35 = .ok (.iload_n 3, 1) := by decide +kernel
theorem dX7_isWord_36 : decode cX7_isWord 36 = .ok (.if_icmp .ne 18, 3) := by decide +kernel
theorem dX7_isWord_39 : decode cX7_isWord 39 = .ok (.aload_n 0, 1) := by decide +kernel
theorem dX7_isWord_40 : decode cX7_isWord 40 = .ok (.getfield 19, 3) := by decide +kernel
theorem dX7_isWord_43 : decode cX7_isWord 43 = .ok (.iconst 3, 1) := by decide +kernel
theorem dX7_isWord_44 : decode cX7_isWord 44 = .ok (.caload, 1) := by decide +kernel
theorem dX7_isWord_45 : decode cX7_isWord 45 = .ok (.iload 4, 2) := by decide +kernel
theorem dX7_isWord_47 : decode cX7_isWord 47 = .ok (.if_icmp .ne 7, 3) := by decide +kernel
theorem dX7_isWord_50 : decode cX7_isWord 50 = .ok (.iconst 1, 1) := by decide +kernel
theorem dX7_isWord_51 : decode cX7_isWord 51 = .ok (.goto 4, 3) := by decide +kernel
theorem dX7_isWord_54 : decode cX7_isWord 54 = .ok (.iconst 0, 1) := by decide +kernel
theorem dX7_isWord_55 : decode cX7_isWord 55 = .ok (.ireturn, 1) := by decide +kernel
theorem dX7_word_0 : decode cX7_word 0 = .ok (.aload_n 0, 1) := by decide +kernel
theorem dX7_word_1 : decode cX7_word 1 = .ok (.iconst 0, 1) := by decide +kernel
theorem dX7_word_2 : decode cX7_word 2 = .ok (.putfield 106, 3) := by decide +kernel
theorem dX7_word_5 : decode cX7_word 5 = .ok (.aload_n 0, 1) := by decide +kernel
theorem dX7_word_6 : decode cX7_word 6 = .ok (.bipush 97, 2) := by decide +kernel
theorem dX7_word_8 : decode cX7_word 8 = .ok (.bipush 122, 2) := by decide +kernel
theorem dX7_word_10 : decode cX7_word 10 = .ok (.invokevirtual 109, 3) := by decide +kernel
theorem dX7_word_13 : decode cX7_word 13 = .ok (.ifCond .eq 16, 3) := by decide +kernel
theorem dX7_word_16 : decode cX7_word 16 = .ok (.aload_n 0, 1) := by decide +kernel
theorem dX7_word_17 : decode cX7_word 17 = .ok (.dup, 1) := by decide +kernel
theorem dX7_word_18 : decode cX7_word 18 = .ok (.getfield 106, 3) := by decide +kernel
theorem dX7_word_21 : decode cX7_word 21 = .ok (.iconst 1, 1) := by decide +kernel
theorem dX7_word_22 : decode cX7_word 22 = .ok (.iadd, 1) := by decide +kernel
theorem dX7_word_23 : decode cX7_word 23 = .ok (.putfield 106, 3) := by decide +kernel
theorem dX7_word_26 : decode cX7_word 26 = .ok (.goto (-21), 3) := by decide +kernel
theorem dX7_word_29 : decode cX7_word 29 = .ok (.aload_n 0, 1) := by decide +kernel
theorem dX7_word_30 : decode cX7_word 30 = .ok (.bipush 109, 2) := by decide +kernel
theorem dX7_word_32 : decode cX7_word 32 = .ok (.bipush 101, 2) := by decide +kernel
theorem dX7_word_34 : decode cX7_word 34 = .ok (.bipush 114, 2) := by decide +kernel
theorem dX7_word_36 : decode cX7_word 36 = .ok (.bipush 103, 2) := by decide +kernel
theorem dX7_word_38 : decode cX7_word 38 = .ok (.iconst 5, 1) := by decide +kernel
theorem dX7_word_39 : decode cX7_word 39 = .ok (.invokevirtual 131, 3) := by decide +kernel
theorem dX7_word_42 : decode cX7_word 42 = .ok (.ifCond .eq 16, 3) := by decide +kernel
theorem dX7_word_45 : decode cX7_word 45 = .ok (.aload_n 0, 1) := by decide +kernel
theorem dX7_word_46 : decode cX7_word 46 = .ok (.getfield 19, 3) := by decide +kernel
theorem dX7_word_49 : decode cX7_word 49 = .ok (.iconst 4, 1) := by decide +kernel
theorem dX7_word_50 : decode cX7_word 50 = .ok (.caload, 1) := by decide +kernel
theorem dX7_word_51 : decode cX7_word 51 = .ok (.bipush 101, 2) := by decide +kernel
theorem dX7_word_53 : decode cX7_word 53 = .ok (.if_icmp .ne 5, 3) := by decide +kernel
theorem dX7_word_56 : decode cX7_word 56 = .ok (.iconst 0, 1) := by decide +kernel
theorem dX7_word_57 : decode cX7_word 57 = .ok (.ireturn, 1) := by decide +kernel
theorem dX7_word_58 : decode cX7_word 58 = .ok (.aload_n 0, 1) := by decide +kernel
theorem dX7_word_59 : decode cX7_word 59 = .ok (.bipush 99, 2) := by decide +kernel
theorem dX7_word_61 : decode cX7_word 61 = .ok (.bipush 108, 2) := by decide +kernel
theorem dX7_word_63 : decode cX7_word 63 = .ok (.bipush 101, 2) := by decide +kernel
theorem dX7_word_65 : decode cX7_word 65 = .ok (.bipush 97, 2) := by decide +kernel
theorem dX7_word_67 : decode cX7_word 67 = .ok (.iconst 5, 1) := by decide +kernel
theorem dX7_word_68 : decode cX7_word 68 = .ok (.invokevirtual 131, 3) := by decide +kernel
theorem dX7_word_71 : decode cX7_word 71 = .ok (.ifCond .eq 16, 3) := by decide +kernel
theorem dX7_word_74 : decode cX7_word 74 = .ok (.aload_n 0, 1) := by decide +kernel
theorem dX7_word_75 : decode cX7_word 75 = .ok (.getfield 19, 3) := by decide +kernel
theorem dX7_word_78 : decode cX7_word 78 = .ok (.iconst 4, 1) := by decide +kernel
theorem dX7_word_79 : decode cX7_word 79 = .ok (.caload, 1) := by decide +kernel
theorem dX7_word_80 : decode cX7_word 80 = .ok (.bipush 114, 2) := by decide +kernel
theorem dX7_word_82 : decode cX7_word 82 = .ok (.if_icmp .ne 5, 3) := by decide +kernel
theorem dX7_word_85 : decode cX7_word 85 = .ok (.iconst 3, 1) := by decide +kernel
theorem dX7_word_86 : decode cX7_word 86 = .ok (.ireturn, 1) := by decide +kernel
theorem dX7_word_87 : decode cX7_word 87 = .ok (.aload_n 0, 1) := by decide +kernel
theorem dX7_word_88 : decode cX7_word 88 = .ok (.bipush 99, 2) := by decide +kernel
theorem dX7_word_90 : decode cX7_word 90 = .ok (.bipush 111, 2) := by decide +kernel
theorem dX7_word_92 : decode cX7_word 92 = .ok (.bipush 112, 2) := by decide +kernel
theorem dX7_word_94 : decode cX7_word 94 = .ok (.bipush 121, 2) := by decide +kernel
theorem dX7_word_96 : decode cX7_word 96 = .ok (.iconst 4, 1) := by decide +kernel
theorem dX7_word_97 : decode cX7_word 97 = .ok (.invokevirtual 131, 3) := by decide +kernel
theorem dX7_word_100 : decode cX7_word 100 = .ok (.ifCond .eq 7, 3) := by decide +kernel
theorem dX7_word_103 : decode cX7_word 103 = .ok (.iconst 1, 1) := by decide +kernel
theorem dX7_word_104 : decode cX7_word 104 = .ok (.goto 25, 3) := by decide +kernel
theorem dX7_word_107 : decode cX7_word 107 = .ok (.aload_n 0, 1) := by decide +kernel
theorem dX7_word_108 : decode cX7_word 108 = .ok (.bipush 115, 2) := by decide +kernel
theorem dX7_word_110 : decode cX7_word 110 = .ok (.bipush 105, 2) := by decide +kernel
theorem dX7_word_112 : decode cX7_word 112 = .ok (.bipush 122, 2) := by decide +kernel
theorem dX7_word_114 : decode cX7_word 114 = .ok (.bipush 101, 2) := by decide +kernel
theorem dX7_word_116 : decode cX7_word 116 = .ok (.iconst 4, 1) := by decide +kernel
theorem dX7_word_117 : decode cX7_word 117 = .ok (.invokevirtual 131, 3) := by decide +kernel
theorem dX7_word_120 : decode cX7_word 120 = .ok (.ifCond .eq 7, 3) := by decide +kernel
theorem dX7_word_123 : decode cX7_word 123 = .ok (.iconst 2, 1) := by decide +kernel
theorem dX7_word_124 : decode cX7_word 124 = .ok (.goto 5, 3) := by decide +kernel
theorem dX7_word_127 : decode cX7_word 127 = .ok (.bipush (-5), 2) := by decide +kernel
theorem dX7_word_129 : decode cX7_word 129 = .ok (.ireturn, 1) := by decide +kernel
theorem dX7_takesNumber_0 : decode cX7_takesNumber 0 = .ok (.aload_n 0, 1) := by decide +kernel
theorem dX7_takesNumber_1 : decode cX7_takesNumber 1 = .ok (.bipush 32, 2) := by decide +kernel
theorem dX7_takesNumber_3 : decode cX7_takesNumber 3 = .ok (.invokevirtual 125, 3) := by decide +kernel
theorem dX7_takesNumber_6 : decode cX7_takesNumber 6 = .ok (.ifCond .eq 14, 3) := by decide +kernel
theorem dX7_takesNumber_9 : decode cX7_takesNumber 9 = .ok (.aload_n 0, 1) := by decide +kernel
theorem dX7_takesNumber_10 : decode cX7_takesNumber 10 = .ok (.bipush 48, 2) := by decide +kernel
theorem dX7_takesNumber_12 : decode cX7_takesNumber 12 = .ok (.bipush 57, 2) := by decide +kernel
theorem dX7_takesNumber_14 : decode cX7_takesNumber 14 = .ok (.invokevirtual 109, 3) := by decide +kernel
theorem dX7_takesNumber_17 : decode cX7_takesNumber 17 = .ok (.ifCond .ne 5, 3) := by decide +kernel
theorem dX7_takesNumber_20 : decode cX7_takesNumber 20 = .ok (.iconst 0, 1) := by decide +kernel
theorem dX7_takesNumber_21 : decode cX7_takesNumber 21 = .ok (.ireturn, 1) := by decide +kernel
theorem dX7_takesNumber_22 : decode cX7_takesNumber 22 = .ok (.aload_n 0, 1) := by decide +kernel
theorem dX7_takesNumber_23 : decode cX7_takesNumber 23 = .ok (.aload_n 0, 1) := by decide +kernel
theorem dX7_takesNumber_24 : decode cX7_takesNumber 24 = .ok (.getfield 19, 3) := by decide +kernel
theorem dX7_takesNumber_27 : decode cX7_takesNumber 27 = .ok (.aload_n 0, 1) := by decide +kernel
theorem dX7_takesNumber_28 : decode cX7_takesNumber 28 = .ok (.getfield 106, 3) := by decide +kernel
theorem dX7_takesNumber_31 : decode cX7_takesNumber 31 = .ok (.caload, 1) := by decide +kernel
theorem dX7_takesNumber_32 : decode cX7_takesNumber 32 = .ok (.bipush 48, 2) := by decide +kernel
theorem dX7_takesNumber_34 : decode cX7_takesNumber 34 = .ok (.isub, 1) := by decide +kernel
theorem dX7_takesNumber_35 : decode cX7_takesNumber 35 = .ok (.putfield 115, 3) := by decide +kernel
theorem dX7_takesNumber_38 : decode cX7_takesNumber 38 = .ok (.aload_n 0, 1) := by decide +kernel
theorem dX7_takesNumber_39 : decode cX7_takesNumber 39 = .ok (.dup, 1) := by decide +kernel
theorem dX7_takesNumber_40 : decode cX7_takesNumber 40 = .ok (.getfield 106, 3) := by decide +kernel
theorem dX7_takesNumber_43 : decode cX7_takesNumber 43 = .ok (.iconst 1, 1) := by decide +kernel
theorem dX7_takesNumber_44 : decode cX7_takesNumber 44 = .ok (.iadd, 1) := by decide +kernel
theorem dX7_takesNumber_45 : decode cX7_takesNumber 45 = .ok (.putfield 106, 3) := by decide +kernel
theorem dX7_takesNumber_48 : decode cX7_takesNumber 48 = .ok (.aload_n 0, 1) := by decide +kernel
theorem dX7_takesNumber_49 : decode cX7_takesNumber 49 = .ok (.getfield 115, 3) := by decide +kernel
theorem dX7_takesNumber_52 : decode cX7_takesNumber 52 = .ok (.ifCond .le 48, 3) := by decide +kernel
theorem dX7_takesNumber_55 : decode cX7_takesNumber 55 = .ok (.aload_n 0, 1) := by decide +kernel
theorem dX7_takesNumber_56 : decode cX7_takesNumber 56 = .ok (.bipush 48, 2) := by decide +kernel
theorem dX7_takesNumber_58 : decode cX7_takesNumber 58 = .ok (.bipush 57, 2) := by decide +kernel
theorem dX7_takesNumber_60 : decode cX7_takesNumber 60 = .ok (.invokevirtual 109, 3) := by decide +kernel
theorem dX7_takesNumber_63 : decode cX7_takesNumber 63 = .ok (.ifCond .eq 37, 3) := by decide +kernel
theorem dX7_takesNumber_66 : decode cX7_takesNumber 66 = .ok (.aload_n 0, 1) := by decide +kernel
theorem dX7_takesNumber_67 : decode cX7_takesNumber 67 = .ok (.bipush 10, 2) := by decide +kernel
theorem dX7_takesNumber_69 : decode cX7_takesNumber 69 = .ok (.aload_n 0, 1) := by decide +kernel
theorem dX7_takesNumber_70 : decode cX7_takesNumber 70 = .ok (.getfield 115, 3) := by decide +kernel
theorem dX7_takesNumber_73 : decode cX7_takesNumber 73 = .ok (.imul, 1) := by decide +kernel
theorem dX7_takesNumber_74 : decode cX7_takesNumber 74 = .ok (.aload_n 0, 1) := by decide +kernel
theorem dX7_takesNumber_75 : decode cX7_takesNumber 75 = .ok (.getfield 19, 3) := by decide +kernel
theorem dX7_takesNumber_78 : decode cX7_takesNumber 78 = .ok (.aload_n 0, 1) := by decide +kernel
theorem dX7_takesNumber_79 : decode cX7_takesNumber 79 = .ok (.getfield 106, 3) := by decide +kernel
theorem dX7_takesNumber_82 : decode cX7_takesNumber 82 = .ok (.caload, 1) := by decide +kernel
theorem dX7_takesNumber_83 : decode cX7_takesNumber 83 = .ok (.iadd, 1) := by decide +kernel
theorem dX7_takesNumber_84 : decode cX7_takesNumber 84 = .ok (.bipush 48, 2) := by decide +kernel
theorem dX7_takesNumber_86 : decode cX7_takesNumber 86 = .ok (.isub, 1) := by decide +kernel
theorem dX7_takesNumber_87 : decode cX7_takesNumber 87 = .ok (.putfield 115, 3) := by decide +kernel
theorem dX7_takesNumber_90 : decode cX7_takesNumber 90 = .ok (.aload_n 0, 1) := by decide +kernel
theorem dX7_takesNumber_91 : decode cX7_takesNumber 91 = .ok (.dup, 1) := by decide +kernel
theorem dX7_takesNumber_92 : decode cX7_takesNumber 92 = .ok (.getfield 106, 3) := by decide +kernel
theorem dX7_takesNumber_95 : decode cX7_takesNumber 95 = .ok (.iconst 1, 1) := by decide +kernel
theorem dX7_takesNumber_96 : decode cX7_takesNumber 96 = .ok (.iadd, 1) := by decide +kernel
theorem dX7_takesNumber_97 : decode cX7_takesNumber 97 = .ok (.putfield 106, 3) := by decide +kernel
theorem dX7_takesNumber_100 : decode cX7_takesNumber 100 = .ok (.iconst 1, 1) := by decide +kernel
theorem dX7_takesNumber_101 : decode cX7_takesNumber 101 = .ok (.ireturn, 1) := by decide +kernel
theorem dX7_perform_0 : decode cX7_perform 0 = .ok (.aload_n 0, 1) := by decide +kernel
theorem dX7_perform_1 : decode cX7_perform 1 = .ok (.invokevirtual 135, 3) := by decide +kernel
theorem dX7_perform_4 : decode cX7_perform 4 = .ok (.istore_n 1, 1) := by decide +kernel
theorem dX7_perform_5 : decode cX7_perform 5 = .ok (.iload_n 1, 1) := by decide +kernel
theorem dX7_perform_6 : decode cX7_perform 6 = .ok (.bipush (-5), 2) := by decide +kernel
theorem dX7_perform_8 : decode cX7_perform 8 = .ok (.if_icmp .ne 6, 3) := by decide +kernel
theorem dX7_perform_11 : decode cX7_perform 11 = .ok (.bipush (-100), 2) := by decide +kernel
theorem dX7_perform_13 : decode cX7_perform 13 = .ok (.ireturn, 1) := by decide +kernel
theorem dX7_perform_14 : decode cX7_perform 14 = .ok (.aload_n 0, 1) := by decide +kernel
theorem dX7_perform_15 : decode cX7_perform 15 = .ok (.invokevirtual 138, 3) := by decide +kernel
theorem dX7_perform_18 : decode cX7_perform 18 = .ok (.ifCond .ne 11, 3) := by decide +kernel
theorem dX7_perform_21 : decode cX7_perform 21 = .ok (.bipush (-100), 2) := by decide +kernel
theorem dX7_perform_23 : decode cX7_perform 23 = .ok (.aload_n 0, 1) := by decide +kernel
theorem dX7_perform_24 : decode cX7_perform 24 = .ok (.getfield 106, 3) := by decide +kernel
theorem dX7_perform_27 : decode cX7_perform 27 = .ok (.isub, 1) := by decide +kernel
theorem dX7_perform_28 : decode cX7_perform 28 = .ok (.ireturn, 1) := by decide +kernel
theorem dX7_perform_29 : decode cX7_perform 29 = .ok (.aload_n 0, 1) := by decide +kernel
theorem dX7_perform_30 : decode cX7_perform 30 = .ok (.getfield 115, 3) := by decide +kernel
theorem dX7_perform_33 : decode cX7_perform 33 = .ok (.istore_n 2, 1) := by decide +kernel
theorem dX7_perform_34 : decode cX7_perform 34 = .ok (.iload_n 1, 1) := by decide +kernel
theorem dX7_perform_35 : decode cX7_perform 35 = .ok (.iconst 3, 1) := by decide +kernel
theorem dX7_perform_36 : decode cX7_perform 36 = .ok (.if_icmp .eq 10, 3) := by decide +kernel
theorem dX7_perform_39 : decode cX7_perform 39 = .ok (.aload_n 0, 1) := by decide +kernel
theorem dX7_perform_40 : decode cX7_perform 40 = .ok (.invokevirtual 138, 3) := by decide +kernel
theorem dX7_perform_43 : decode cX7_perform 43 = .ok (.ifCond .eq 14, 3) := by decide +kernel
theorem dX7_perform_46 : decode cX7_perform 46 = .ok (.aload_n 0, 1) := by decide +kernel
theorem dX7_perform_47 : decode cX7_perform 47 = .ok (.getfield 106, 3) := by decide +kernel
theorem dX7_perform_50 : decode cX7_perform 50 = .ok (.aload_n 0, 1) := by decide +kernel
theorem dX7_perform_51 : decode cX7_perform 51 = .ok (.getfield 103, 3) := by decide +kernel
theorem dX7_perform_54 : decode cX7_perform 54 = .ok (.if_icmp .ge 11, 3) := by decide +kernel
theorem dX7_perform_57 : decode cX7_perform 57 = .ok (.bipush (-100), 2) := by decide +kernel
theorem dX7_perform_59 : decode cX7_perform 59 = .ok (.aload_n 0, 1) := by decide +kernel
theorem dX7_perform_60 : decode cX7_perform 60 = .ok (.getfield 106, 3) := by decide +kernel
theorem dX7_perform_63 : decode cX7_perform 63 = .ok (.isub, 1) := by decide +kernel
theorem dX7_perform_64 : decode cX7_perform 64 = .ok (.ireturn, 1) := by decide +kernel
theorem dX7_perform_65 : decode cX7_perform 65 = .ok (.iload_n 1, 1) := by decide +kernel
theorem dX7_perform_66 : decode cX7_perform 66 = .ok (.ifCond .ne 15, 3) := by decide +kernel
theorem dX7_perform_69 : decode cX7_perform 69 = .ok (.aload_n 0, 1) := by decide +kernel
theorem dX7_perform_70 : decode cX7_perform 70 = .ok (.iload_n 2, 1) := by decide +kernel
theorem dX7_perform_71 : decode cX7_perform 71 = .ok (.aload_n 0, 1) := by decide +kernel
theorem dX7_perform_72 : decode cX7_perform 72 = .ok (.getfield 115, 3) := by decide +kernel
theorem dX7_perform_75 : decode cX7_perform 75 = .ok (.invokevirtual 141, 3) := by decide +kernel
theorem dX7_perform_78 : decode cX7_perform 78 = .ok (.goto 42, 3) := by decide +kernel
theorem dX7_perform_81 : decode cX7_perform 81 = .ok (.iload_n 1, 1) := by decide +kernel
theorem dX7_perform_82 : decode cX7_perform 82 = .ok (.iconst 1, 1) := by decide +kernel
theorem dX7_perform_83 : decode cX7_perform 83 = .ok (.if_icmp .ne 15, 3) := by decide +kernel
theorem dX7_perform_86 : decode cX7_perform 86 = .ok (.aload_n 0, 1) := by decide +kernel
theorem dX7_perform_87 : decode cX7_perform 87 = .ok (.iload_n 2, 1) := by decide +kernel
theorem dX7_perform_88 : decode cX7_perform 88 = .ok (.aload_n 0, 1) := by decide +kernel
theorem dX7_perform_89 : decode cX7_perform 89 = .ok (.getfield 115, 3) := by decide +kernel
theorem dX7_perform_92 : decode cX7_perform 92 = .ok (.invokevirtual 144, 3) := by decide +kernel
theorem dX7_perform_95 : decode cX7_perform 95 = .ok (.goto 25, 3) := by decide +kernel
theorem dX7_perform_98 : decode cX7_perform 98 = .ok (.iload_n 1, 1) := by decide +kernel
theorem dX7_perform_99 : decode cX7_perform 99 = .ok (.iconst 2, 1) := by decide +kernel
theorem dX7_perform_100 : decode cX7_perform 100 = .ok (.if_icmp .ne 15, 3) := by decide +kernel
theorem dX7_perform_103 : decode cX7_perform 103 = .ok (.aload_n 0, 1) := by decide +kernel
theorem dX7_perform_104 : decode cX7_perform 104 = .ok (.iload_n 2, 1) := by decide +kernel
theorem dX7_perform_105 : decode cX7_perform 105 = .ok (.aload_n 0, 1) := by decide +kernel
theorem dX7_perform_106 : decode cX7_perform 106 = .ok (.getfield 115, 3) := by decide +kernel
theorem dX7_perform_109 : decode cX7_perform 109 = .ok (.invokevirtual 147, 3) := by decide +kernel
theorem dX7_perform_112 : decode cX7_perform 112 = .ok (.goto 8, 3) := by decide +kernel
theorem dX7_perform_115 : decode cX7_perform 115 = .ok (.aload_n 0, 1) := by decide +kernel
theorem dX7_perform_116 : decode cX7_perform 116 = .ok (.iload_n 2, 1) := by decide +kernel
theorem dX7_perform_117 : decode cX7_perform 117 = .ok (.invokevirtual 150, 3) := by decide +kernel
theorem dX7_perform_120 : decode cX7_perform 120 = .ok (.ireturn, 1) := by decide +kernel
theorem dX7_undo_0 : decode cX7_undo 0 = .ok (.aload_n 0, 1) := by decide +kernel
theorem dX7_undo_1 : decode cX7_undo 1 = .ok (.getfield 39, 3) := by decide +kernel
theorem dX7_undo_4 : decode cX7_undo 4 = .ok (.ifCond .ne 6, 3) := by decide +kernel
theorem dX7_undo_7 : decode cX7_undo 7 = .ok (.bipush (-5), 2) := by decide +kernel
theorem dX7_undo_9 : decode cX7_undo 9 = .ok (.ireturn, 1) := by decide +kernel
theorem dX7_undo_10 : decode cX7_undo 10 = .ok (.aload_n 0, 1) := by decide +kernel
theorem dX7_undo_11 : decode cX7_undo 11 = .ok (.dup, 1) := by decide +kernel
theorem dX7_undo_12 : decode cX7_undo 12 = .ok (.getfield 39, 3) := by decide +kernel
theorem dX7_undo_15 : decode cX7_undo 15 = .ok (.iconst 1, 1) := by decide +kernel
theorem dX7_undo_16 : decode cX7_undo 16 = .ok (.isub, 1) := by decide +kernel
theorem dX7_undo_17 : decode cX7_undo 17 = .ok (.putfield 39, 3) := by decide +kernel
theorem dX7_undo_20 : decode cX7_undo 20 = .ok (.iconst 0, 1) := by decide +kernel
theorem dX7_undo_21 : decode cX7_undo 21 = .ok (.istore_n 1, 1) := by decide +kernel
theorem dX7_undo_22 : decode cX7_undo 22 = .ok (.iload_n 1, 1) := by decide +kernel
theorem dX7_undo_23 : decode cX7_undo 23 = .ok (.sipush 1110, 3) := by decide +kernel
theorem dX7_undo_26 : decode cX7_undo 26 = .ok (.if_icmp .ge 30, 3) := by decide +kernel
theorem dX7_undo_29 : decode cX7_undo 29 = .ok (.aload_n 0, 1) := by decide +kernel
theorem dX7_undo_30 : decode cX7_undo 30 = .ok (.getfield 7, 3) := by decide +kernel
theorem dX7_undo_33 : decode cX7_undo 33 = .ok (.iload_n 1, 1) := by decide +kernel
theorem dX7_undo_34 : decode cX7_undo 34 = .ok (.aload_n 0, 1) := by decide +kernel
theorem dX7_undo_35 : decode cX7_undo 35 = .ok (.getfield 13, 3) := by decide +kernel
theorem dX7_undo_38 : decode cX7_undo 38 = .ok (.sipush 1110, 3) := by decide +kernel
theorem dX7_undo_41 : decode cX7_undo 41 = .ok (.aload_n 0, 1) := by decide +kernel
theorem dX7_undo_42 : decode cX7_undo 42 = .ok (.getfield 39, 3) := by decide +kernel
theorem dX7_undo_45 : decode cX7_undo 45 = .ok (.imul, 1) := by decide +kernel
theorem dX7_undo_46 : decode cX7_undo 46 = .ok (.iload_n 1, 1) := by decide +kernel
theorem dX7_undo_47 : decode cX7_undo 47 = .ok (.iadd, 1) := by decide +kernel
theorem dX7_undo_48 : decode cX7_undo 48 = .ok (.iaload, 1) := by decide +kernel
theorem dX7_undo_49 : decode cX7_undo 49 = .ok (.iastore, 1) := by decide +kernel
theorem dX7_undo_50 : decode cX7_undo 50 = .ok (.iinc 1 1, 3) := by decide +kernel
theorem dX7_undo_53 : decode cX7_undo 53 = .ok (.goto (-31), 3) := by decide +kernel
theorem dX7_undo_56 : decode cX7_undo 56 = .ok (.aload_n 0, 1) := by decide +kernel
theorem dX7_undo_57 : decode cX7_undo 57 = .ok (.getfield 39, 3) := by decide +kernel
theorem dX7_undo_60 : decode cX7_undo 60 = .ok (.ireturn, 1) := by decide +kernel
theorem dX7_keep_0 : decode cX7_keep 0 = .ok (.iconst 0, 1) := by decide +kernel
theorem dX7_keep_1 : decode cX7_keep 1 = .ok (.istore_n 1, 1) := by decide +kernel
theorem dX7_keep_2 : decode cX7_keep 2 = .ok (.iload_n 1, 1) := by decide +kernel
theorem dX7_keep_3 : decode cX7_keep 3 = .ok (.sipush 1110, 3) := by decide +kernel
theorem dX7_keep_6 : decode cX7_keep 6 = .ok (.if_icmp .ge 21, 3) := by decide +kernel
theorem dX7_keep_9 : decode cX7_keep 9 = .ok (.aload_n 0, 1) := by decide +kernel
theorem dX7_keep_10 : decode cX7_keep 10 = .ok (.getfield 16, 3) := by decide +kernel
theorem dX7_keep_13 : decode cX7_keep 13 = .ok (.iload_n 1, 1) := by decide +kernel
theorem dX7_keep_14 : decode cX7_keep 14 = .ok (.aload_n 0, 1) := by decide +kernel
theorem dX7_keep_15 : decode cX7_keep 15 = .ok (.getfield 7, 3) := by decide +kernel
theorem dX7_keep_18 : decode cX7_keep 18 = .ok (.iload_n 1, 1) := by decide +kernel
theorem dX7_keep_19 : decode cX7_keep 19 = .ok (.iaload, 1) := by decide +kernel
theorem dX7_keep_20 : decode cX7_keep 20 = .ok (.iastore, 1) := by decide +kernel
theorem dX7_keep_21 : decode cX7_keep 21 = .ok (.iinc 1 1, 3) := by decide +kernel
theorem dX7_keep_24 : decode cX7_keep 24 = .ok (.goto (-22), 3) := by decide +kernel
theorem dX7_keep_27 : decode cX7_keep 27 = .ok (.aload_n 0, 1) := by decide +kernel
theorem dX7_keep_28 : decode cX7_keep 28 = .ok (.iconst 1, 1) := by decide +kernel
theorem dX7_keep_29 : decode cX7_keep 29 = .ok (.putfield 153, 3) := by decide +kernel
theorem dX7_keep_32 : decode cX7_keep 32 = .ok (.aload_n 0, 1) := by decide +kernel
theorem dX7_keep_33 : decode cX7_keep 33 = .ok (.getfield 7, 3) := by decide +kernel
theorem dX7_keep_36 : decode cX7_keep 36 = .ok (.sipush 1072, 3) := by decide +kernel
theorem dX7_keep_39 : decode cX7_keep 39 = .ok (.iaload, 1) := by decide +kernel
theorem dX7_keep_40 : decode cX7_keep 40 = .ok (.ireturn, 1) := by decide +kernel
theorem dX7_restore_0 : decode cX7_restore 0 = .ok (.aload_n 0, 1) := by decide +kernel
theorem dX7_restore_1 : decode cX7_restore 1 = .ok (.getfield 153, 3) := by decide +kernel
theorem dX7_restore_4 : decode cX7_restore 4 = .ok (.ifCond .ne 6, 3) := by decide +kernel
theorem dX7_restore_7 : decode cX7_restore 7 = .ok (.bipush (-5), 2) := by decide +kernel
theorem dX7_restore_9 : decode cX7_restore 9 = .ok (.ireturn, 1) := by decide +kernel
theorem dX7_restore_10 : decode cX7_restore 10 = .ok (.aload_n 0, 1) := by decide +kernel
theorem dX7_restore_11 : decode cX7_restore 11 = .ok (.invokevirtual 81, 3) := by decide +kernel
theorem dX7_restore_14 : decode cX7_restore 14 = .ok (.iconst 0, 1) := by decide +kernel
theorem dX7_restore_15 : decode cX7_restore 15 = .ok (.istore_n 1, 1) := by decide +kernel
theorem dX7_restore_16 : decode cX7_restore 16 = .ok (.iload_n 1, 1) := by decide +kernel
theorem dX7_restore_17 : decode cX7_restore 17 = .ok (.sipush 1110, 3) := by decide +kernel
theorem dX7_restore_20 : decode cX7_restore 20 = .ok (.if_icmp .ge 21, 3) := by decide +kernel
theorem dX7_restore_23 : decode cX7_restore 23 = .ok (.aload_n 0, 1) := by decide +kernel
theorem dX7_restore_24 : decode cX7_restore 24 = .ok (.getfield 7, 3) := by decide +kernel
theorem dX7_restore_27 : decode cX7_restore 27 = .ok (.iload_n 1, 1) := by decide +kernel
theorem dX7_restore_28 : decode cX7_restore 28 = .ok (.aload_n 0, 1) := by decide +kernel
theorem dX7_restore_29 : decode cX7_restore 29 = .ok (.getfield 16, 3) := by decide +kernel
theorem dX7_restore_32 : decode cX7_restore 32 = .ok (.iload_n 1, 1) := by decide +kernel
theorem dX7_restore_33 : decode cX7_restore 33 = .ok (.iaload, 1) := by decide +kernel
theorem dX7_restore_34 : decode cX7_restore 34 = .ok (.iastore, 1) := by decide +kernel
theorem dX7_restore_35 : decode cX7_restore 35 = .ok (.iinc 1 1, 3) := by decide +kernel
theorem dX7_restore_38 : decode cX7_restore 38 = .ok (.goto (-22), 3) := by decide +kernel
theorem dX7_restore_41 : decode cX7_restore 41 = .ok (.aload_n 0, 1) := by decide +kernel
theorem dX7_restore_42 : decode cX7_restore 42 = .ok (.getfield 7, 3) := by decide +kernel
theorem dX7_restore_45 : decode cX7_restore 45 = .ok (.sipush 1072, 3) := by decide +kernel
theorem dX7_restore_48 : decode cX7_restore 48 = .ok (.iaload, 1) := by decide +kernel
theorem dX7_restore_49 : decode cX7_restore 49 = .ok (.ireturn, 1) := by decide +kernel
theorem dX7_looks_0 : decode cX7_looks 0 = .ok (.iload_n 1, 1) := by decide +kernel
theorem dX7_looks_1 : decode cX7_looks 1 = .ok (.iconst 0, 1) := by decide +kernel
theorem dX7_looks_2 : decode cX7_looks 2 = .ok (.iconst 4, 1) := by decide +kernel
theorem dX7_looks_3 : decode cX7_looks 3 = .ok (.invokestatic 35, 3) := by decide +kernel
theorem dX7_looks_6 : decode cX7_looks 6 = .ok (.ifCond .ne 6, 3) := by decide +kernel
theorem dX7_looks_9 : decode cX7_looks 9 = .ok (.bipush (-5), 2) := by decide +kernel
theorem dX7_looks_11 : decode cX7_looks 11 = .ok (.ireturn, 1) := by decide +kernel
theorem dX7_looks_12 : decode cX7_looks 12 = .ok (.iload_n 1, 1) := by decide +kernel
theorem dX7_looks_13 : decode cX7_looks 13 = .ok (.iconst 4, 1) := by decide +kernel
theorem dX7_looks_14 : decode cX7_looks 14 = .ok (.if_icmp .ge 5, 3) := by decide +kernel
theorem dX7_looks_17 : decode cX7_looks 17 = .ok (.iload_n 1, 1) := by decide +kernel
theorem dX7_looks_18 : decode cX7_looks 18 = .ok (.ireturn, 1) := by decide +kernel
theorem dX7_looks_19 : decode cX7_looks 19 = .ok (.aload_n 0, 1) := by decide +kernel
theorem dX7_looks_20 : decode cX7_looks 20 = .ok (.iconst 4, 1) := by decide +kernel
theorem dX7_looks_21 : decode cX7_looks 21 = .ok (.bipush 8, 2) := by decide +kernel
theorem dX7_looks_23 : decode cX7_looks 23 = .ok (.invokevirtual 91, 3) := by decide +kernel
theorem dX7_looks_26 : decode cX7_looks 26 = .ok (.iconst 1, 1) := by decide +kernel
theorem dX7_looks_27 : decode cX7_looks 27 = .ok (.istore_n 2, 1) := by decide +kernel
theorem dX7_looks_28 : decode cX7_looks 28 = .ok (.iload_n 2, 1) := by decide +kernel
theorem dX7_looks_29 : decode cX7_looks 29 = .ok (.aload_n 0, 1) := by decide +kernel
theorem dX7_looks_30 : decode cX7_looks 30 = .ok (.getfield 7, 3) := by decide +kernel
theorem dX7_looks_33 : decode cX7_looks 33 = .ok (.sipush 1076, 3) := by decide +kernel
theorem dX7_looks_36 : decode cX7_looks 36 = .ok (.iaload, 1) := by decide +kernel
theorem dX7_looks_37 : decode cX7_looks 37 = .ok (.if_icmp .ge 19, 3) := by decide +kernel
theorem dX7_looks_40 : decode cX7_looks 40 = .ok (.aload_n 0, 1) := by decide +kernel
theorem dX7_looks_41 : decode cX7_looks 41 = .ok (.bipush 8, 2) := by decide +kernel
theorem dX7_looks_43 : decode cX7_looks 43 = .ok (.iconst 4, 1) := by decide +kernel
theorem dX7_looks_44 : decode cX7_looks 44 = .ok (.iload_n 2, 1) := by decide +kernel
theorem dX7_looks_45 : decode cX7_looks 45 = .ok (.iadd, 1) := by decide +kernel
theorem dX7_looks_46 : decode cX7_looks 46 = .ok (.invokevirtual 100, 3) := by decide +kernel
theorem dX7_looks_49 : decode cX7_looks 49 = .ok (.pop, 1) := by decide +kernel
theorem dX7_looks_50 : decode cX7_looks 50 = .ok (.iinc 2 1, 3) := by decide +kernel
theorem dX7_looks_53 : decode cX7_looks 53 = .ok (.goto (-25), 3) := by decide +kernel
theorem dX7_looks_56 : decode cX7_looks 56 = .ok (.bipush 8, 2) := by decide +kernel
theorem dX7_looks_58 : decode cX7_looks 58 = .ok (.ireturn, 1) := by decide +kernel
theorem dX7_greatestSlack_0 : decode cX7_greatestSlack 0 = .ok (.iconst 0, 1) := by decide +kernel
theorem dX7_greatestSlack_1 : decode cX7_greatestSlack 1 = .ok (.istore_n 2, 1) := by decide +kernel
theorem dX7_greatestSlack_2 : decode cX7_greatestSlack 2 = .ok (.iconst 0, 1) := by decide +kernel
theorem dX7_greatestSlack_3 : decode cX7_greatestSlack 3 = .ok (.istore_n 3, 1) := by decide +kernel
theorem dX7_greatestSlack_4 : decode cX7_greatestSlack 4 = .ok (.iload_n 3, 1) := by decide +kernel
theorem dX7_greatestSlack_5 : decode cX7_greatestSlack 5 = .ok (.bipush 26, 2) := by decide +kernel
theorem dX7_greatestSlack_7 : decode cX7_greatestSlack 7 = .ok (.if_icmp .ge 41, 3) := by decide +kernel
theorem dX7_greatestSlack_10 : decode cX7_greatestSlack 10 = .ok (.aload_n 0, 1) := by decide +kernel
theorem dX7_greatestSlack_11 : decode cX7_greatestSlack 11 = .ok (.iload_n 1, 1) := by decide +kernel
theorem dX7_greatestSlack_12 : decode cX7_greatestSlack 12 = .ok (.iload_n 3, 1) := by decide +kernel
theorem dX7_greatestSlack_13 : decode cX7_greatestSlack 13 = .ok (.invokevirtual 43, 3) := by decide +kernel
theorem dX7_greatestSlack_16 : decode cX7_greatestSlack 16 = .ok (.ifCond .eq 24, 3) := by decide +kernel
theorem dX7_greatestSlack_19 : decode cX7_greatestSlack 19 = .ok (.aload_n 0, 1) := by decide +kernel
theorem dX7_greatestSlack_20 : decode cX7_greatestSlack 20 = .ok (.iload_n 1, 1) := by decide +kernel
theorem dX7_greatestSlack_21 : decode cX7_greatestSlack 21 = .ok (.iload_n 3, 1) := by decide +kernel
theorem dX7_greatestSlack_22 : decode cX7_greatestSlack 22 = .ok (.iconst 2, 1) := by decide +kernel
theorem dX7_greatestSlack_23 : decode cX7_greatestSlack 23 = .ok (.invokevirtual 31, 3) := by decide +kernel
theorem dX7_greatestSlack_26 : decode cX7_greatestSlack 26 = .ok (.iload_n 2, 1) := by decide +kernel
theorem dX7_greatestSlack_27 : decode cX7_greatestSlack 27 = .ok (.if_icmp .le 13, 3) := by decide +kernel
theorem dX7_greatestSlack_30 : decode cX7_greatestSlack 30 = .ok (.aload_n 0, 1) := by decide +kernel
theorem dX7_greatestSlack_31 : decode cX7_greatestSlack 31 = .ok (.iload_n 1, 1) := by decide +kernel
theorem dX7_greatestSlack_32 : decode cX7_greatestSlack 32 = .ok (.iload_n 3, 1) := by decide +kernel
theorem dX7_greatestSlack_33 : decode cX7_greatestSlack 33 = .ok (.iconst 2, 1) := by decide +kernel
theorem dX7_greatestSlack_34 : decode cX7_greatestSlack 34 = .ok (.invokevirtual 31, 3) := by decide +kernel
theorem dX7_greatestSlack_37 : decode cX7_greatestSlack 37 = .ok (.goto 4, 3) := by decide +kernel
theorem dX7_greatestSlack_40 : decode cX7_greatestSlack 40 = .ok (.iload_n 2, 1) := by decide +kernel
theorem dX7_greatestSlack_41 : decode cX7_greatestSlack 41 = .ok (.istore_n 2, 1) := by decide +kernel
theorem dX7_greatestSlack_42 : decode cX7_greatestSlack 42 = .ok (.iinc 3 1, 3) := by decide +kernel
theorem dX7_greatestSlack_45 : decode cX7_greatestSlack 45 = .ok (.goto (-41), 3) := by decide +kernel
theorem dX7_greatestSlack_48 : decode cX7_greatestSlack 48 = .ok (.iload_n 2, 1) := by decide +kernel
theorem dX7_greatestSlack_49 : decode cX7_greatestSlack 49 = .ok (.ireturn, 1) := by decide +kernel
theorem dX7_letters_0 : decode cX7_letters 0 = .ok (.iconst 0, 1) := by decide +kernel
theorem dX7_letters_1 : decode cX7_letters 1 = .ok (.istore_n 3, 1) := by decide +kernel
theorem dX7_letters_2 : decode cX7_letters 2 = .ok (.iconst 0, 1) := by decide +kernel
theorem dX7_letters_3 : decode cX7_letters 3 = .ok (.istore 4, 2) := by decide +kernel
theorem dX7_letters_5 : decode cX7_letters 5 = .ok (.iload 4, 2) := by decide +kernel
theorem dX7_letters_7 : decode cX7_letters 7 = .ok (.bipush 26, 2) := by decide +kernel
theorem dX7_letters_9 : decode cX7_letters 9 = .ok (.if_icmp .ge 49, 3) := by decide +kernel
theorem dX7_letters_12 : decode cX7_letters 12 = .ok (.iload_n 3, 1) := by decide +kernel
theorem dX7_letters_13 : decode cX7_letters 13 = .ok (.iload_n 2, 1) := by decide +kernel
theorem dX7_letters_14 : decode cX7_letters 14 = .ok (.iconst 1, 1) := by decide +kernel
theorem dX7_letters_15 : decode cX7_letters 15 = .ok (.if_icmp .ne 16, 3) := by decide +kernel
theorem dX7_letters_18 : decode cX7_letters 18 = .ok (.aload_n 0, 1) := by decide +kernel
theorem dX7_letters_19 : decode cX7_letters 19 = .ok (.iload_n 1, 1) := by decide +kernel
theorem dX7_letters_20 : decode cX7_letters 20 = .ok (.iload 4, 2) := by decide +kernel
theorem dX7_letters_22 : decode cX7_letters 22 = .ok (.invokevirtual 43, 3) := by decide +kernel
theorem dX7_letters_25 : decode cX7_letters 25 = .ok (.ifCond .eq 24, 3) := by decide +kernel
theorem dX7_letters_28 : decode cX7_letters 28 = .ok (.goto 14, 3) := by decide +kernel
theorem dX7_letters_31 : decode cX7_letters 31 = .ok (.aload_n 0, 1) := by decide +kernel
theorem dX7_letters_32 : decode cX7_letters 32 = .ok (.iload_n 1, 1) := by decide +kernel
theorem dX7_letters_33 : decode cX7_letters 33 = .ok (.iload 4, 2) := by decide +kernel
theorem dX7_letters_35 : decode cX7_letters 35 = .ok (.iconst 4, 1) := by decide +kernel
theorem dX7_letters_36 : decode cX7_letters 36 = .ok (.invokevirtual 31, 3) := by decide +kernel
theorem dX7_letters_39 : decode cX7_letters 39 = .ok (.ifCond .le 10, 3) := by decide +kernel
theorem dX7_letters_42 : decode cX7_letters 42 = .ok (.iconst 1, 1) := by decide +kernel
theorem dX7_letters_43 : decode cX7_letters 43 = .ok (.iload 4, 2) := by decide +kernel
theorem dX7_letters_45 : decode cX7_letters 45 = .ok (.ishl, 1) := by decide +kernel
theorem dX7_letters_46 : decode cX7_letters 46 = .ok (.goto 4, 3) := by decide +kernel
theorem dX7_letters_49 : decode cX7_letters 49 = .ok (.iconst 0, 1) := by decide +kernel
theorem dX7_letters_50 : decode cX7_letters 50 = .ok (.ior, 1) := by decide +kernel
theorem dX7_letters_51 : decode cX7_letters 51 = .ok (.istore_n 3, 1) := by decide +kernel
theorem dX7_letters_52 : decode cX7_letters 52 = .ok (.iinc 4 1, 3) := by decide +kernel
theorem dX7_letters_55 : decode cX7_letters 55 = .ok (.goto (-50), 3) := by decide +kernel
theorem dX7_letters_58 : decode cX7_letters 58 = .ok (.iload_n 3, 1) := by decide +kernel
theorem dX7_letters_59 : decode cX7_letters 59 = .ok (.ireturn, 1) := by decide +kernel
theorem dX7_summary_0 : decode cX7_summary 0 = .ok (.aload_n 0, 1) := by decide +kernel
theorem dX7_summary_1 : decode cX7_summary 1 = .ok (.iload_n 1, 1) := by decide +kernel
theorem dX7_summary_2 : decode cX7_summary 2 = .ok (.invokevirtual 157, 3) := by decide +kernel
theorem dX7_summary_5 : decode cX7_summary 5 = .ok (.istore_n 3, 1) := by decide +kernel
theorem dX7_summary_6 : decode cX7_summary 6 = .ok (.iload_n 3, 1) := by decide +kernel
theorem dX7_summary_7 : decode cX7_summary 7 = .ok (.bipush (-5), 2) := by decide +kernel
theorem dX7_summary_9 : decode cX7_summary 9 = .ok (.if_icmp .ne 5, 3) := by decide +kernel
theorem dX7_summary_12 : decode cX7_summary 12 = .ok (.iconst (-1), 1) := by decide +kernel
theorem dX7_summary_13 : decode cX7_summary 13 = .ok (.ireturn, 1) := by decide +kernel
theorem dX7_summary_14 : decode cX7_summary 14 = .ok (.iload_n 2, 1) := by decide +kernel
theorem dX7_summary_15 : decode cX7_summary 15 = .ok (.tableswitch 88 0 6 #[41, 48, 54, 61, 68, 74, 81], 41) := by decide +kernel
theorem dX7_summary_56 : decode cX7_summary 56 = .ok (.aload_n 0, 1) := by decide +kernel
theorem dX7_summary_57 : decode cX7_summary 57 = .ok (.iload_n 3, 1) := by decide +kernel
theorem dX7_summary_58 : decode cX7_summary 58 = .ok (.iconst 0, 1) := by decide +kernel
theorem dX7_summary_59 : decode cX7_summary 59 = .ok (.invokevirtual 47, 3) := by decide +kernel
theorem dX7_summary_62 : decode cX7_summary 62 = .ok (.ireturn, 1) := by decide +kernel
theorem dX7_summary_63 : decode cX7_summary 63 = .ok (.aload_n 0, 1) := by decide +kernel
theorem dX7_summary_64 : decode cX7_summary 64 = .ok (.iload_n 3, 1) := by decide +kernel
theorem dX7_summary_65 : decode cX7_summary 65 = .ok (.invokevirtual 65, 3) := by decide +kernel
theorem dX7_summary_68 : decode cX7_summary 68 = .ok (.ireturn, 1) := by decide +kernel
theorem dX7_summary_69 : decode cX7_summary 69 = .ok (.aload_n 0, 1) := by decide +kernel
theorem dX7_summary_70 : decode cX7_summary 70 = .ok (.iload_n 3, 1) := by decide +kernel
theorem dX7_summary_71 : decode cX7_summary 71 = .ok (.iconst 1, 1) := by decide +kernel
theorem dX7_summary_72 : decode cX7_summary 72 = .ok (.invokevirtual 47, 3) := by decide +kernel
theorem dX7_summary_75 : decode cX7_summary 75 = .ok (.ireturn, 1) := by decide +kernel
theorem dX7_summary_76 : decode cX7_summary 76 = .ok (.aload_n 0, 1) := by decide +kernel
theorem dX7_summary_77 : decode cX7_summary 77 = .ok (.iload_n 3, 1) := by decide +kernel
theorem dX7_summary_78 : decode cX7_summary 78 = .ok (.iconst 2, 1) := by decide +kernel
theorem dX7_summary_79 : decode cX7_summary 79 = .ok (.invokevirtual 47, 3) := by decide +kernel
theorem dX7_summary_82 : decode cX7_summary 82 = .ok (.ireturn, 1) := by decide +kernel
theorem dX7_summary_83 : decode cX7_summary 83 = .ok (.aload_n 0, 1) := by decide +kernel
theorem dX7_summary_84 : decode cX7_summary 84 = .ok (.iload_n 3, 1) := by decide +kernel
theorem dX7_summary_85 : decode cX7_summary 85 = .ok (.invokevirtual 160, 3) := by decide +kernel
theorem dX7_summary_88 : decode cX7_summary 88 = .ok (.ireturn, 1) := by decide +kernel
theorem dX7_summary_89 : decode cX7_summary 89 = .ok (.aload_n 0, 1) := by decide +kernel
theorem dX7_summary_90 : decode cX7_summary 90 = .ok (.iload_n 3, 1) := by decide +kernel
theorem dX7_summary_91 : decode cX7_summary 91 = .ok (.iconst 0, 1) := by decide +kernel
theorem dX7_summary_92 : decode cX7_summary 92 = .ok (.invokevirtual 163, 3) := by decide +kernel
theorem dX7_summary_95 : decode cX7_summary 95 = .ok (.ireturn, 1) := by decide +kernel
theorem dX7_summary_96 : decode cX7_summary 96 = .ok (.aload_n 0, 1) := by decide +kernel
theorem dX7_summary_97 : decode cX7_summary 97 = .ok (.iload_n 3, 1) := by decide +kernel
theorem dX7_summary_98 : decode cX7_summary 98 = .ok (.iconst 1, 1) := by decide +kernel
theorem dX7_summary_99 : decode cX7_summary 99 = .ok (.invokevirtual 163, 3) := by decide +kernel
theorem dX7_summary_102 : decode cX7_summary 102 = .ok (.ireturn, 1) := by decide +kernel
theorem dX7_summary_103 : decode cX7_summary 103 = .ok (.bipush (-2), 2) := by decide +kernel
theorem dX7_summary_105 : decode cX7_summary 105 = .ok (.ireturn, 1) := by decide +kernel
theorem dX7_upper_0 : decode cX7_upper 0 = .ok (.aload_n 0, 1) := by decide +kernel
theorem dX7_upper_1 : decode cX7_upper 1 = .ok (.iload_n 1, 1) := by decide +kernel
theorem dX7_upper_2 : decode cX7_upper 2 = .ok (.iload_n 2, 1) := by decide +kernel
theorem dX7_upper_3 : decode cX7_upper 3 = .ok (.invokevirtual 43, 3) := by decide +kernel
theorem dX7_upper_6 : decode cX7_upper 6 = .ok (.ifCond .eq 13, 3) := by decide +kernel
theorem dX7_upper_9 : decode cX7_upper 9 = .ok (.aload_n 0, 1) := by decide +kernel
theorem dX7_upper_10 : decode cX7_upper 10 = .ok (.iload_n 1, 1) := by decide +kernel
theorem dX7_upper_11 : decode cX7_upper 11 = .ok (.iload_n 2, 1) := by decide +kernel
theorem dX7_upper_12 : decode cX7_upper 12 = .ok (.iconst 1, 1) := by decide +kernel
theorem dX7_upper_13 : decode cX7_upper 13 = .ok (.invokevirtual 31, 3) := by decide +kernel
theorem dX7_upper_16 : decode cX7_upper 16 = .ok (.goto 9, 3) := by decide +kernel
theorem dX7_upper_19 : decode cX7_upper 19 = .ok (.aload_n 0, 1) := by decide +kernel
theorem dX7_upper_20 : decode cX7_upper 20 = .ok (.iload_n 1, 1) := by decide +kernel
theorem dX7_upper_21 : decode cX7_upper 21 = .ok (.iconst 1, 1) := by decide +kernel
theorem dX7_upper_22 : decode cX7_upper 22 = .ok (.invokevirtual 47, 3) := by decide +kernel
theorem dX7_upper_25 : decode cX7_upper 25 = .ok (.ireturn, 1) := by decide +kernel
theorem dX7_lower_0 : decode cX7_lower 0 = .ok (.aload_n 0, 1) := by decide +kernel
theorem dX7_lower_1 : decode cX7_lower 1 = .ok (.iload_n 1, 1) := by decide +kernel
theorem dX7_lower_2 : decode cX7_lower 2 = .ok (.iload_n 2, 1) := by decide +kernel
theorem dX7_lower_3 : decode cX7_lower 3 = .ok (.invokevirtual 43, 3) := by decide +kernel
theorem dX7_lower_6 : decode cX7_lower 6 = .ok (.ifCond .eq 21, 3) := by decide +kernel
theorem dX7_lower_9 : decode cX7_lower 9 = .ok (.aload_n 0, 1) := by decide +kernel
theorem dX7_lower_10 : decode cX7_lower 10 = .ok (.iload_n 1, 1) := by decide +kernel
theorem dX7_lower_11 : decode cX7_lower 11 = .ok (.iload_n 2, 1) := by decide +kernel
theorem dX7_lower_12 : decode cX7_lower 12 = .ok (.iconst 1, 1) := by decide +kernel
theorem dX7_lower_13 : decode cX7_lower 13 = .ok (.invokevirtual 31, 3) := by decide +kernel
theorem dX7_lower_16 : decode cX7_lower 16 = .ok (.aload_n 0, 1) := by decide +kernel
theorem dX7_lower_17 : decode cX7_lower 17 = .ok (.iload_n 1, 1) := by decide +kernel
theorem dX7_lower_18 : decode cX7_lower 18 = .ok (.iload_n 2, 1) := by decide +kernel
theorem dX7_lower_19 : decode cX7_lower 19 = .ok (.iconst 2, 1) := by decide +kernel
theorem dX7_lower_20 : decode cX7_lower 20 = .ok (.invokevirtual 31, 3) := by decide +kernel
theorem dX7_lower_23 : decode cX7_lower 23 = .ok (.isub, 1) := by decide +kernel
theorem dX7_lower_24 : decode cX7_lower 24 = .ok (.goto 4, 3) := by decide +kernel
theorem dX7_lower_27 : decode cX7_lower 27 = .ok (.iconst 0, 1) := by decide +kernel
theorem dX7_lower_28 : decode cX7_lower 28 = .ok (.ireturn, 1) := by decide +kernel
theorem dX7_bound_0 : decode cX7_bound 0 = .ok (.aload_n 0, 1) := by decide +kernel
theorem dX7_bound_1 : decode cX7_bound 1 = .ok (.iload_n 1, 1) := by decide +kernel
theorem dX7_bound_2 : decode cX7_bound 2 = .ok (.invokevirtual 157, 3) := by decide +kernel
theorem dX7_bound_5 : decode cX7_bound 5 = .ok (.istore 4, 2) := by decide +kernel
theorem dX7_bound_7 : decode cX7_bound 7 = .ok (.iload 4, 2) := by decide +kernel
theorem dX7_bound_9 : decode cX7_bound 9 = .ok (.bipush (-5), 2) := by decide +kernel
theorem dX7_bound_11 : decode cX7_bound 11 = .ok (.if_icmp .eq 10, 3) := by decide +kernel
theorem dX7_bound_14 : decode cX7_bound 14 = .ok (.iload_n 2, 1) := by decide +kernel
theorem dX7_bound_15 : decode cX7_bound 15 = .ok (.invokestatic 76, 3) := by decide +kernel
theorem dX7_bound_18 : decode cX7_bound 18 = .ok (.ifCond .ne 5, 3) := by decide +kernel
theorem dX7_bound_21 : decode cX7_bound 21 = .ok (.iconst (-1), 1) := by decide +kernel
theorem dX7_bound_22 : decode cX7_bound 22 = .ok (.ireturn, 1) := by decide +kernel
theorem dX7_bound_23 : decode cX7_bound 23 = .ok (.iload_n 2, 1) := by decide +kernel
theorem dX7_bound_24 : decode cX7_bound 24 = .ok (.bipush 97, 2) := by decide +kernel
theorem dX7_bound_26 : decode cX7_bound 26 = .ok (.isub, 1) := by decide +kernel
theorem dX7_bound_27 : decode cX7_bound 27 = .ok (.istore 5, 2) := by decide +kernel
theorem dX7_bound_29 : decode cX7_bound 29 = .ok (.iload_n 3, 1) := by decide +kernel
theorem dX7_bound_30 : decode cX7_bound 30 = .ok (.tableswitch 114 0 4 #[34, 43, 52, 62, 88], 34) := by decide +kernel
theorem dX7_bound_64 : decode cX7_bound 64 = .ok (.aload_n 0, 1) := by decide +kernel
theorem dX7_bound_65 : decode cX7_bound 65 = .ok (.iload 4, 2) := by decide +kernel
theorem dX7_bound_67 : decode cX7_bound 67 = .ok (.iload 5, 2) := by decide +kernel
theorem dX7_bound_69 : decode cX7_bound 69 = .ok (.invokevirtual 166, 3) := by decide +kernel
theorem dX7_bound_72 : decode cX7_bound 72 = .ok (.ireturn, 1) := by decide +kernel
theorem dX7_bound_73 : decode cX7_bound 73 = .ok (.aload_n 0, 1) := by decide +kernel
theorem dX7_bound_74 : decode cX7_bound 74 = .ok (.iload 4, 2) := by decide +kernel
theorem dX7_bound_76 : decode cX7_bound 76 = .ok (.iload 5, 2) := by decide +kernel
theorem dX7_bound_78 : decode cX7_bound 78 = .ok (.invokevirtual 169, 3) := by decide +kernel
theorem dX7_bound_81 : decode cX7_bound 81 = .ok (.ireturn, 1) := by decide +kernel
theorem dX7_bound_82 : decode cX7_bound 82 = .ok (.aload_n 0, 1) := by decide +kernel
theorem dX7_bound_83 : decode cX7_bound 83 = .ok (.iload 4, 2) := by decide +kernel
theorem dX7_bound_85 : decode cX7_bound 85 = .ok (.iload 5, 2) := by decide +kernel
theorem dX7_bound_87 : decode cX7_bound 87 = .ok (.iconst 4, 1) := by decide +kernel
theorem dX7_bound_88 : decode cX7_bound 88 = .ok (.invokevirtual 31, 3) := by decide +kernel
theorem dX7_bound_91 : decode cX7_bound 91 = .ok (.ireturn, 1) := by decide +kernel
theorem dX7_bound_92 : decode cX7_bound 92 = .ok (.aload_n 0, 1) := by decide +kernel
theorem dX7_bound_93 : decode cX7_bound 93 = .ok (.iload 4, 2) := by decide +kernel
theorem dX7_bound_95 : decode cX7_bound 95 = .ok (.iload 5, 2) := by decide +kernel
theorem dX7_bound_97 : decode cX7_bound 97 = .ok (.invokevirtual 43, 3) := by decide +kernel
theorem dX7_bound_100 : decode cX7_bound 100 = .ok (.ifCond .eq 15, 3) := by decide +kernel
theorem dX7_bound_103 : decode cX7_bound 103 = .ok (.aload_n 0, 1) := by decide +kernel
theorem dX7_bound_104 : decode cX7_bound 104 = .ok (.iload 4, 2) := by decide +kernel
theorem dX7_bound_106 : decode cX7_bound 106 = .ok (.iload 5, 2) := by decide +kernel
theorem dX7_bound_108 : decode cX7_bound 108 = .ok (.iconst 2, 1) := by decide +kernel
theorem dX7_bound_109 : decode cX7_bound 109 = .ok (.invokevirtual 31, 3) := by decide +kernel
theorem dX7_bound_112 : decode cX7_bound 112 = .ok (.goto 5, 3) := by decide +kernel
theorem dX7_bound_115 : decode cX7_bound 115 = .ok (.bipush (-5), 2) := by decide +kernel
theorem dX7_bound_117 : decode cX7_bound 117 = .ok (.ireturn, 1) := by decide +kernel
theorem dX7_bound_118 : decode cX7_bound 118 = .ok (.aload_n 0, 1) := by decide +kernel
theorem dX7_bound_119 : decode cX7_bound 119 = .ok (.iload 4, 2) := by decide +kernel
theorem dX7_bound_121 : decode cX7_bound 121 = .ok (.iload 5, 2) := by decide +kernel
theorem dX7_bound_123 : decode cX7_bound 123 = .ok (.invokevirtual 43, 3) := by decide +kernel
theorem dX7_bound_126 : decode cX7_bound 126 = .ok (.ifCond .eq 15, 3) := by decide +kernel
theorem dX7_bound_129 : decode cX7_bound 129 = .ok (.aload_n 0, 1) := by decide +kernel
theorem dX7_bound_130 : decode cX7_bound 130 = .ok (.iload 4, 2) := by decide +kernel
theorem dX7_bound_132 : decode cX7_bound 132 = .ok (.iload 5, 2) := by decide +kernel
theorem dX7_bound_134 : decode cX7_bound 134 = .ok (.iconst 3, 1) := by decide +kernel
theorem dX7_bound_135 : decode cX7_bound 135 = .ok (.invokevirtual 31, 3) := by decide +kernel
theorem dX7_bound_138 : decode cX7_bound 138 = .ok (.goto 5, 3) := by decide +kernel
theorem dX7_bound_141 : decode cX7_bound 141 = .ok (.bipush (-5), 2) := by decide +kernel
theorem dX7_bound_143 : decode cX7_bound 143 = .ok (.ireturn, 1) := by decide +kernel
theorem dX7_bound_144 : decode cX7_bound 144 = .ok (.bipush (-2), 2) := by decide +kernel
theorem dX7_bound_146 : decode cX7_bound 146 = .ok (.ireturn, 1) := by decide +kernel
theorem dX7_top_0 : decode cX7_top 0 = .ok (.aload_n 0, 1) := by decide +kernel
theorem dX7_top_1 : decode cX7_top 1 = .ok (.iload_n 1, 1) := by decide +kernel
theorem dX7_top_2 : decode cX7_top 2 = .ok (.invokevirtual 157, 3) := by decide +kernel
theorem dX7_top_5 : decode cX7_top 5 = .ok (.istore 4, 2) := by decide +kernel
theorem dX7_top_7 : decode cX7_top 7 = .ok (.iload 4, 2) := by decide +kernel
theorem dX7_top_9 : decode cX7_top 9 = .ok (.bipush (-5), 2) := by decide +kernel
theorem dX7_top_11 : decode cX7_top 11 = .ok (.if_icmp .ne 5, 3) := by decide +kernel
theorem dX7_top_14 : decode cX7_top 14 = .ok (.iconst (-1), 1) := by decide +kernel
theorem dX7_top_15 : decode cX7_top 15 = .ok (.ireturn, 1) := by decide +kernel
theorem dX7_top_16 : decode cX7_top 16 = .ok (.iload_n 2, 1) := by decide +kernel
theorem dX7_top_17 : decode cX7_top 17 = .ok (.ifCond .lt 12, 3) := by decide +kernel
theorem dX7_top_20 : decode cX7_top 20 = .ok (.iload_n 3, 1) := by decide +kernel
theorem dX7_top_21 : decode cX7_top 21 = .ok (.iconst 0, 1) := by decide +kernel
theorem dX7_top_22 : decode cX7_top 22 = .ok (.iconst 1, 1) := by decide +kernel
theorem dX7_top_23 : decode cX7_top 23 = .ok (.invokestatic 35, 3) := by decide +kernel
theorem dX7_top_26 : decode cX7_top 26 = .ok (.ifCond .ne 6, 3) := by decide +kernel
theorem dX7_top_29 : decode cX7_top 29 = .ok (.bipush (-2), 2) := by decide +kernel
theorem dX7_top_31 : decode cX7_top 31 = .ok (.ireturn, 1) := by decide +kernel
theorem dX7_top_32 : decode cX7_top 32 = .ok (.iconst 0, 1) := by decide +kernel
theorem dX7_top_33 : decode cX7_top 33 = .ok (.istore 5, 2) := by decide +kernel
theorem dX7_top_35 : decode cX7_top 35 = .ok (.iload 5, 2) := by decide +kernel
theorem dX7_top_37 : decode cX7_top 37 = .ok (.bipush 26, 2) := by decide +kernel
theorem dX7_top_39 : decode cX7_top 39 = .ok (.if_icmp .ge 126, 3) := by decide +kernel
theorem dX7_top_42 : decode cX7_top 42 = .ok (.iconst 0, 1) := by decide +kernel
theorem dX7_top_43 : decode cX7_top 43 = .ok (.istore 6, 2) := by decide +kernel
theorem dX7_top_45 : decode cX7_top 45 = .ok (.iconst 0, 1) := by decide +kernel
theorem dX7_top_46 : decode cX7_top 46 = .ok (.istore 7, 2) := by decide +kernel
theorem dX7_top_48 : decode cX7_top 48 = .ok (.iload 7, 2) := by decide +kernel
theorem dX7_top_50 : decode cX7_top 50 = .ok (.bipush 26, 2) := by decide +kernel
theorem dX7_top_52 : decode cX7_top 52 = .ok (.if_icmp .ge 68, 3) := by decide +kernel
theorem dX7_top_55 : decode cX7_top 55 = .ok (.aload_n 0, 1) := by decide +kernel
theorem dX7_top_56 : decode cX7_top 56 = .ok (.iload 4, 2) := by decide +kernel
theorem dX7_top_58 : decode cX7_top 58 = .ok (.iload 7, 2) := by decide +kernel
theorem dX7_top_60 : decode cX7_top 60 = .ok (.iconst 1, 1) := by decide +kernel
theorem dX7_top_61 : decode cX7_top 61 = .ok (.invokevirtual 31, 3) := by decide +kernel
theorem dX7_top_64 : decode cX7_top 64 = .ok (.aload_n 0, 1) := by decide +kernel
theorem dX7_top_65 : decode cX7_top 65 = .ok (.iload 4, 2) := by decide +kernel
theorem dX7_top_67 : decode cX7_top 67 = .ok (.iload 5, 2) := by decide +kernel
theorem dX7_top_69 : decode cX7_top 69 = .ok (.iconst 1, 1) := by decide +kernel
theorem dX7_top_70 : decode cX7_top 70 = .ok (.invokevirtual 31, 3) := by decide +kernel
theorem dX7_top_73 : decode cX7_top 73 = .ok (.isub, 1) := by decide +kernel
theorem dX7_top_74 : decode cX7_top 74 = .ok (.istore 8, 2) := by decide +kernel
theorem dX7_top_76 : decode cX7_top 76 = .ok (.iload 6, 2) := by decide +kernel
theorem dX7_top_78 : decode cX7_top 78 = .ok (.aload_n 0, 1) := by decide +kernel
theorem dX7_top_79 : decode cX7_top 79 = .ok (.iload 4, 2) := by decide +kernel
theorem dX7_top_81 : decode cX7_top 81 = .ok (.iload 7, 2) := by decide +kernel
theorem dX7_top_83 : decode cX7_top 83 = .ok (.invokevirtual 43, 3) := by decide +kernel
theorem dX7_top_86 : decode cX7_top 86 = .ok (.ifCond .eq 24, 3) := by decide +kernel
theorem dX7_top_89 : decode cX7_top 89 = .ok (.iload 8, 2) := by decide +kernel
theorem dX7_top_91 : decode cX7_top 91 = .ok (.ifCond .gt 15, 3) := by decide +kernel
theorem dX7_top_94 : decode cX7_top 94 = .ok (.iload 8, 2) := by decide +kernel
theorem dX7_top_96 : decode cX7_top 96 = .ok (.ifCond .ne 14, 3) := by decide +kernel
theorem dX7_top_99 : decode cX7_top 99 = .ok (.iload 7, 2) := by decide +kernel
theorem dX7_top_101 : decode cX7_top 101 = .ok (.iload 5, 2) := by decide +kernel
theorem dX7_top_103 : decode cX7_top 103 = .ok (.if_icmp .ge 7, 3) := by decide +kernel
theorem dX7_top_106 : decode cX7_top 106 = .ok (.iconst 1, 1) := by decide +kernel
theorem dX7_top_107 : decode cX7_top 107 = .ok (.goto 4, 3) := by decide +kernel
theorem dX7_top_110 : decode cX7_top 110 = .ok (.iconst 0, 1) := by decide +kernel
theorem dX7_top_111 : decode cX7_top 111 = .ok (.iadd, 1) := by decide +kernel
theorem dX7_top_112 : decode cX7_top 112 = .ok (.istore 6, 2) := by decide +kernel
theorem dX7_top_114 : decode cX7_top 114 = .ok (.iinc 7 1, 3) := by decide +kernel
theorem dX7_top_117 : decode cX7_top 117 = .ok (.goto (-69), 3) := by decide +kernel
theorem dX7_top_120 : decode cX7_top 120 = .ok (.aload_n 0, 1) := by decide +kernel
theorem dX7_top_121 : decode cX7_top 121 = .ok (.iload 4, 2) := by decide +kernel
theorem dX7_top_123 : decode cX7_top 123 = .ok (.iload 5, 2) := by decide +kernel
theorem dX7_top_125 : decode cX7_top 125 = .ok (.invokevirtual 43, 3) := by decide +kernel
theorem dX7_top_128 : decode cX7_top 128 = .ok (.ifCond .eq 31, 3) := by decide +kernel
theorem dX7_top_131 : decode cX7_top 131 = .ok (.iload 6, 2) := by decide +kernel
theorem dX7_top_133 : decode cX7_top 133 = .ok (.iload_n 2, 1) := by decide +kernel
theorem dX7_top_134 : decode cX7_top 134 = .ok (.if_icmp .ne 25, 3) := by decide +kernel
theorem dX7_top_137 : decode cX7_top 137 = .ok (.iload_n 3, 1) := by decide +kernel
theorem dX7_top_138 : decode cX7_top 138 = .ok (.ifCond .ne 11, 3) := by decide +kernel
theorem dX7_top_141 : decode cX7_top 141 = .ok (.bipush 97, 2) := by decide +kernel
theorem dX7_top_143 : decode cX7_top 143 = .ok (.iload 5, 2) := by decide +kernel
theorem dX7_top_145 : decode cX7_top 145 = .ok (.iadd, 1) := by decide +kernel
theorem dX7_top_146 : decode cX7_top 146 = .ok (.goto 12, 3) := by decide +kernel
theorem dX7_top_149 : decode cX7_top 149 = .ok (.aload_n 0, 1) := by decide +kernel
theorem dX7_top_150 : decode cX7_top 150 = .ok (.iload 4, 2) := by decide +kernel
theorem dX7_top_152 : decode cX7_top 152 = .ok (.iload 5, 2) := by decide +kernel
theorem dX7_top_154 : decode cX7_top 154 = .ok (.iconst 1, 1) := by decide +kernel
theorem dX7_top_155 : decode cX7_top 155 = .ok (.invokevirtual 31, 3) := by decide +kernel
theorem dX7_top_158 : decode cX7_top 158 = .ok (.ireturn, 1) := by decide +kernel
theorem dX7_top_159 : decode cX7_top 159 = .ok (.iinc 5 1, 3) := by decide +kernel
theorem dX7_top_162 : decode cX7_top 162 = .ok (.goto (-127), 3) := by decide +kernel
theorem dX7_top_165 : decode cX7_top 165 = .ok (.bipush (-5), 2) := by decide +kernel
theorem dX7_top_167 : decode cX7_top 167 = .ok (.ireturn, 1) := by decide +kernel
theorem dX7_ahead_0 : decode cX7_ahead 0 = .ok (.iconst 0, 1) := by decide +kernel
theorem dX7_ahead_1 : decode cX7_ahead 1 = .ok (.istore 4, 2) := by decide +kernel
theorem dX7_ahead_3 : decode cX7_ahead 3 = .ok (.iconst 0, 1) := by decide +kernel
theorem dX7_ahead_4 : decode cX7_ahead 4 = .ok (.istore 5, 2) := by decide +kernel
theorem dX7_ahead_6 : decode cX7_ahead 6 = .ok (.iload 5, 2) := by decide +kernel
theorem dX7_ahead_8 : decode cX7_ahead 8 = .ok (.bipush 26, 2) := by decide +kernel
theorem dX7_ahead_10 : decode cX7_ahead 10 = .ok (.if_icmp .ge 81, 3) := by decide +kernel
theorem dX7_ahead_13 : decode cX7_ahead 13 = .ok (.iload_n 3, 1) := by decide +kernel
theorem dX7_ahead_14 : decode cX7_ahead 14 = .ok (.ifCond .eq 27, 3) := by decide +kernel
theorem dX7_ahead_17 : decode cX7_ahead 17 = .ok (.aload_n 0, 1) := by decide +kernel
theorem dX7_ahead_18 : decode cX7_ahead 18 = .ok (.iload_n 1, 1) := by decide +kernel
theorem dX7_ahead_19 : decode cX7_ahead 19 = .ok (.iload 5, 2) := by decide +kernel
theorem dX7_ahead_21 : decode cX7_ahead 21 = .ok (.invokevirtual 166, 3) := by decide +kernel
theorem dX7_ahead_24 : decode cX7_ahead 24 = .ok (.aload_n 0, 1) := by decide +kernel
theorem dX7_ahead_25 : decode cX7_ahead 25 = .ok (.iload_n 1, 1) := by decide +kernel
theorem dX7_ahead_26 : decode cX7_ahead 26 = .ok (.iload_n 2, 1) := by decide +kernel
theorem dX7_ahead_27 : decode cX7_ahead 27 = .ok (.invokevirtual 169, 3) := by decide +kernel
theorem dX7_ahead_30 : decode cX7_ahead 30 = .ok (.if_icmp .le 7, 3) := by decide +kernel
theorem dX7_ahead_33 : decode cX7_ahead 33 = .ok (.iconst 1, 1) := by decide +kernel
theorem dX7_ahead_34 : decode cX7_ahead 34 = .ok (.goto 28, 3) := by decide +kernel
theorem dX7_ahead_37 : decode cX7_ahead 37 = .ok (.iconst 0, 1) := by decide +kernel
theorem dX7_ahead_38 : decode cX7_ahead 38 = .ok (.goto 24, 3) := by decide +kernel
theorem dX7_ahead_41 : decode cX7_ahead 41 = .ok (.aload_n 0, 1) := by decide +kernel
theorem dX7_ahead_42 : decode cX7_ahead 42 = .ok (.iload_n 1, 1) := by decide +kernel
theorem dX7_ahead_43 : decode cX7_ahead 43 = .ok (.iload 5, 2) := by decide +kernel
theorem dX7_ahead_45 : decode cX7_ahead 45 = .ok (.invokevirtual 169, 3) := by decide +kernel
theorem dX7_ahead_48 : decode cX7_ahead 48 = .ok (.aload_n 0, 1) := by decide +kernel
theorem dX7_ahead_49 : decode cX7_ahead 49 = .ok (.iload_n 1, 1) := by decide +kernel
theorem dX7_ahead_50 : decode cX7_ahead 50 = .ok (.iload_n 2, 1) := by decide +kernel
theorem dX7_ahead_51 : decode cX7_ahead 51 = .ok (.invokevirtual 166, 3) := by decide +kernel
theorem dX7_ahead_54 : decode cX7_ahead 54 = .ok (.if_icmp .le 7, 3) := by decide +kernel
theorem dX7_ahead_57 : decode cX7_ahead 57 = .ok (.iconst 1, 1) := by decide +kernel
theorem dX7_ahead_58 : decode cX7_ahead 58 = .ok (.goto 4, 3) := by decide +kernel
theorem dX7_ahead_61 : decode cX7_ahead 61 = .ok (.iconst 0, 1) := by decide +kernel
theorem dX7_ahead_62 : decode cX7_ahead 62 = .ok (.istore 6, 2) := by decide +kernel
theorem dX7_ahead_64 : decode cX7_ahead 64 = .ok (.iload 4, 2) := by decide +kernel
theorem dX7_ahead_66 : decode cX7_ahead 66 = .ok (.iload 5, 2) := by decide +kernel
theorem dX7_ahead_68 : decode cX7_ahead 68 = .ok (.iload_n 2, 1) := by decide +kernel
theorem dX7_ahead_69 : decode cX7_ahead 69 = .ok (.if_icmp .eq 12, 3) := by decide +kernel
theorem dX7_ahead_72 : decode cX7_ahead 72 = .ok (.iload 6, 2) := by decide +kernel
theorem dX7_ahead_74 : decode cX7_ahead 74 = .ok (.ifCond .eq 7, 3) := by decide +kernel
theorem dX7_ahead_77 : decode cX7_ahead 77 = .ok (.iconst 1, 1) := by decide +kernel
theorem dX7_ahead_78 : decode cX7_ahead 78 = .ok (.goto 4, 3) := by decide +kernel
theorem dX7_ahead_81 : decode cX7_ahead 81 = .ok (.iconst 0, 1) := by decide +kernel
theorem dX7_ahead_82 : decode cX7_ahead 82 = .ok (.iadd, 1) := by decide +kernel
theorem dX7_ahead_83 : decode cX7_ahead 83 = .ok (.istore 4, 2) := by decide +kernel
theorem dX7_ahead_85 : decode cX7_ahead 85 = .ok (.iinc 5 1, 3) := by decide +kernel
theorem dX7_ahead_88 : decode cX7_ahead 88 = .ok (.goto (-82), 3) := by decide +kernel
theorem dX7_ahead_91 : decode cX7_ahead 91 = .ok (.iload 4, 2) := by decide +kernel
theorem dX7_ahead_93 : decode cX7_ahead 93 = .ok (.ireturn, 1) := by decide +kernel
theorem dX7_first_0 : decode cX7_first 0 = .ok (.aload_n 0, 1) := by decide +kernel
theorem dX7_first_1 : decode cX7_first 1 = .ok (.iload_n 1, 1) := by decide +kernel
theorem dX7_first_2 : decode cX7_first 2 = .ok (.invokevirtual 157, 3) := by decide +kernel
theorem dX7_first_5 : decode cX7_first 5 = .ok (.istore 4, 2) := by decide +kernel
theorem dX7_first_7 : decode cX7_first 7 = .ok (.iload 4, 2) := by decide +kernel
theorem dX7_first_9 : decode cX7_first 9 = .ok (.bipush (-5), 2) := by decide +kernel
theorem dX7_first_11 : decode cX7_first 11 = .ok (.if_icmp .ne 5, 3) := by decide +kernel
theorem dX7_first_14 : decode cX7_first 14 = .ok (.iconst (-1), 1) := by decide +kernel
theorem dX7_first_15 : decode cX7_first 15 = .ok (.ireturn, 1) := by decide +kernel
theorem dX7_first_16 : decode cX7_first 16 = .ok (.iload_n 2, 1) := by decide +kernel
theorem dX7_first_17 : decode cX7_first 17 = .ok (.iconst 1, 1) := by decide +kernel
theorem dX7_first_18 : decode cX7_first 18 = .ok (.bipush 25, 2) := by decide +kernel
theorem dX7_first_20 : decode cX7_first 20 = .ok (.invokestatic 35, 3) := by decide +kernel
theorem dX7_first_23 : decode cX7_first 23 = .ok (.ifCond .ne 6, 3) := by decide +kernel
theorem dX7_first_26 : decode cX7_first 26 = .ok (.bipush (-2), 2) := by decide +kernel
theorem dX7_first_28 : decode cX7_first 28 = .ok (.ireturn, 1) := by decide +kernel
theorem dX7_first_29 : decode cX7_first 29 = .ok (.iconst 0, 1) := by decide +kernel
theorem dX7_first_30 : decode cX7_first 30 = .ok (.istore 5, 2) := by decide +kernel
theorem dX7_first_32 : decode cX7_first 32 = .ok (.iconst 0, 1) := by decide +kernel
theorem dX7_first_33 : decode cX7_first 33 = .ok (.istore 6, 2) := by decide +kernel
theorem dX7_first_35 : decode cX7_first 35 = .ok (.iload 6, 2) := by decide +kernel
theorem dX7_first_37 : decode cX7_first 37 = .ok (.bipush 26, 2) := by decide +kernel
theorem dX7_first_39 : decode cX7_first 39 = .ok (.if_icmp .ge 35, 3) := by decide +kernel
theorem dX7_first_42 : decode cX7_first 42 = .ok (.iload 5, 2) := by decide +kernel
theorem dX7_first_44 : decode cX7_first 44 = .ok (.aload_n 0, 1) := by decide +kernel
theorem dX7_first_45 : decode cX7_first 45 = .ok (.iload 4, 2) := by decide +kernel
theorem dX7_first_47 : decode cX7_first 47 = .ok (.iload 6, 2) := by decide +kernel
theorem dX7_first_49 : decode cX7_first 49 = .ok (.iload_n 3, 1) := by decide +kernel
theorem dX7_first_50 : decode cX7_first 50 = .ok (.invokevirtual 172, 3) := by decide +kernel
theorem dX7_first_53 : decode cX7_first 53 = .ok (.iload_n 2, 1) := by decide +kernel
theorem dX7_first_54 : decode cX7_first 54 = .ok (.if_icmp .ge 10, 3) := by decide +kernel
theorem dX7_first_57 : decode cX7_first 57 = .ok (.iconst 1, 1) := by decide +kernel
theorem dX7_first_58 : decode cX7_first 58 = .ok (.iload 6, 2) := by decide +kernel
theorem dX7_first_60 : decode cX7_first 60 = .ok (.ishl, 1) := by decide +kernel
theorem dX7_first_61 : decode cX7_first 61 = .ok (.goto 4, 3) := by decide +kernel
theorem dX7_first_64 : decode cX7_first 64 = .ok (.iconst 0, 1) := by decide +kernel
theorem dX7_first_65 : decode cX7_first 65 = .ok (.ior, 1) := by decide +kernel
theorem dX7_first_66 : decode cX7_first 66 = .ok (.istore 5, 2) := by decide +kernel
theorem dX7_first_68 : decode cX7_first 68 = .ok (.iinc 6 1, 3) := by decide +kernel
theorem dX7_first_71 : decode cX7_first 71 = .ok (.goto (-36), 3) := by decide +kernel
theorem dX7_first_74 : decode cX7_first 74 = .ok (.iload 5, 2) := by decide +kernel
theorem dX7_first_76 : decode cX7_first 76 = .ok (.ireturn, 1) := by decide +kernel
theorem dX7_above_0 : decode cX7_above 0 = .ok (.aload_n 0, 1) := by decide +kernel
theorem dX7_above_1 : decode cX7_above 1 = .ok (.iload_n 1, 1) := by decide +kernel
theorem dX7_above_2 : decode cX7_above 2 = .ok (.invokevirtual 157, 3) := by decide +kernel
theorem dX7_above_5 : decode cX7_above 5 = .ok (.istore 4, 2) := by decide +kernel
theorem dX7_above_7 : decode cX7_above 7 = .ok (.iload 4, 2) := by decide +kernel
theorem dX7_above_9 : decode cX7_above 9 = .ok (.bipush (-5), 2) := by decide +kernel
theorem dX7_above_11 : decode cX7_above 11 = .ok (.if_icmp .ne 5, 3) := by decide +kernel
theorem dX7_above_14 : decode cX7_above 14 = .ok (.iconst (-1), 1) := by decide +kernel
theorem dX7_above_15 : decode cX7_above 15 = .ok (.ireturn, 1) := by decide +kernel
theorem dX7_above_16 : decode cX7_above 16 = .ok (.iload_n 2, 1) := by decide +kernel
theorem dX7_above_17 : decode cX7_above 17 = .ok (.iconst 1, 1) := by decide +kernel
theorem dX7_above_18 : decode cX7_above 18 = .ok (.bipush 99, 2) := by decide +kernel
theorem dX7_above_20 : decode cX7_above 20 = .ok (.invokestatic 35, 3) := by decide +kernel
theorem dX7_above_23 : decode cX7_above 23 = .ok (.ifCond .ne 6, 3) := by decide +kernel
theorem dX7_above_26 : decode cX7_above 26 = .ok (.bipush (-2), 2) := by decide +kernel
theorem dX7_above_28 : decode cX7_above 28 = .ok (.ireturn, 1) := by decide +kernel
theorem dX7_above_29 : decode cX7_above 29 = .ok (.iconst 0, 1) := by decide +kernel
theorem dX7_above_30 : decode cX7_above 30 = .ok (.istore 5, 2) := by decide +kernel
theorem dX7_above_32 : decode cX7_above 32 = .ok (.iconst 0, 1) := by decide +kernel
theorem dX7_above_33 : decode cX7_above 33 = .ok (.istore 6, 2) := by decide +kernel
theorem dX7_above_35 : decode cX7_above 35 = .ok (.iload 6, 2) := by decide +kernel
theorem dX7_above_37 : decode cX7_above 37 = .ok (.bipush 26, 2) := by decide +kernel
theorem dX7_above_39 : decode cX7_above 39 = .ok (.if_icmp .ge 64, 3) := by decide +kernel
theorem dX7_above_42 : decode cX7_above 42 = .ok (.iload_n 3, 1) := by decide +kernel
theorem dX7_above_43 : decode cX7_above 43 = .ok (.ifCond .eq 14, 3) := by decide +kernel
theorem dX7_above_46 : decode cX7_above 46 = .ok (.aload_n 0, 1) := by decide +kernel
theorem dX7_above_47 : decode cX7_above 47 = .ok (.iload 4, 2) := by decide +kernel
theorem dX7_above_49 : decode cX7_above 49 = .ok (.iload 6, 2) := by decide +kernel
theorem dX7_above_51 : decode cX7_above 51 = .ok (.invokevirtual 169, 3) := by decide +kernel
theorem dX7_above_54 : decode cX7_above 54 = .ok (.goto 11, 3) := by decide +kernel
theorem dX7_above_57 : decode cX7_above 57 = .ok (.aload_n 0, 1) := by decide +kernel
theorem dX7_above_58 : decode cX7_above 58 = .ok (.iload 4, 2) := by decide +kernel
theorem dX7_above_60 : decode cX7_above 60 = .ok (.iload 6, 2) := by decide +kernel
theorem dX7_above_62 : decode cX7_above 62 = .ok (.invokevirtual 166, 3) := by decide +kernel
theorem dX7_above_65 : decode cX7_above 65 = .ok (.istore 7, 2) := by decide +kernel
theorem dX7_above_67 : decode cX7_above 67 = .ok (.iload 5, 2) := by decide +kernel
theorem dX7_above_69 : decode cX7_above 69 = .ok (.iload 7, 2) := by decide +kernel
theorem dX7_above_71 : decode cX7_above 71 = .ok (.bipush 100, 2) := by decide +kernel
theorem dX7_above_73 : decode cX7_above 73 = .ok (.imul, 1) := by decide +kernel
theorem dX7_above_74 : decode cX7_above 74 = .ok (.iload_n 2, 1) := by decide +kernel
theorem dX7_above_75 : decode cX7_above 75 = .ok (.aload_n 0, 1) := by decide +kernel
theorem dX7_above_76 : decode cX7_above 76 = .ok (.iload 4, 2) := by decide +kernel
theorem dX7_above_78 : decode cX7_above 78 = .ok (.iconst 2, 1) := by decide +kernel
theorem dX7_above_79 : decode cX7_above 79 = .ok (.invokevirtual 47, 3) := by decide +kernel
theorem dX7_above_82 : decode cX7_above 82 = .ok (.imul, 1) := by decide +kernel
theorem dX7_above_83 : decode cX7_above 83 = .ok (.if_icmp .le 10, 3) := by decide +kernel
theorem dX7_above_86 : decode cX7_above 86 = .ok (.iconst 1, 1) := by decide +kernel
theorem dX7_above_87 : decode cX7_above 87 = .ok (.iload 6, 2) := by decide +kernel
theorem dX7_above_89 : decode cX7_above 89 = .ok (.ishl, 1) := by decide +kernel
theorem dX7_above_90 : decode cX7_above 90 = .ok (.goto 4, 3) := by decide +kernel
theorem dX7_above_93 : decode cX7_above 93 = .ok (.iconst 0, 1) := by decide +kernel
theorem dX7_above_94 : decode cX7_above 94 = .ok (.ior, 1) := by decide +kernel
theorem dX7_above_95 : decode cX7_above 95 = .ok (.istore 5, 2) := by decide +kernel
theorem dX7_above_97 : decode cX7_above 97 = .ok (.iinc 6 1, 3) := by decide +kernel
theorem dX7_above_100 : decode cX7_above 100 = .ok (.goto (-65), 3) := by decide +kernel
theorem dX7_above_103 : decode cX7_above 103 = .ok (.iload 5, 2) := by decide +kernel
theorem dX7_above_105 : decode cX7_above 105 = .ok (.ireturn, 1) := by decide +kernel
theorem dX7_rank_0 : decode cX7_rank 0 = .ok (.aload_n 0, 1) := by decide +kernel
theorem dX7_rank_1 : decode cX7_rank 1 = .ok (.iload_n 1, 1) := by decide +kernel
theorem dX7_rank_2 : decode cX7_rank 2 = .ok (.invokevirtual 157, 3) := by decide +kernel
theorem dX7_rank_5 : decode cX7_rank 5 = .ok (.istore 4, 2) := by decide +kernel
theorem dX7_rank_7 : decode cX7_rank 7 = .ok (.iload 4, 2) := by decide +kernel
theorem dX7_rank_9 : decode cX7_rank 9 = .ok (.bipush (-5), 2) := by decide +kernel
theorem dX7_rank_11 : decode cX7_rank 11 = .ok (.if_icmp .eq 10, 3) := by decide +kernel
theorem dX7_rank_14 : decode cX7_rank 14 = .ok (.iload_n 2, 1) := by decide +kernel
theorem dX7_rank_15 : decode cX7_rank 15 = .ok (.invokestatic 76, 3) := by decide +kernel
theorem dX7_rank_18 : decode cX7_rank 18 = .ok (.ifCond .ne 5, 3) := by decide +kernel
theorem dX7_rank_21 : decode cX7_rank 21 = .ok (.iconst (-1), 1) := by decide +kernel
theorem dX7_rank_22 : decode cX7_rank 22 = .ok (.ireturn, 1) := by decide +kernel
theorem dX7_rank_23 : decode cX7_rank 23 = .ok (.iconst 1, 1) := by decide +kernel
theorem dX7_rank_24 : decode cX7_rank 24 = .ok (.aload_n 0, 1) := by decide +kernel
theorem dX7_rank_25 : decode cX7_rank 25 = .ok (.iload 4, 2) := by decide +kernel
theorem dX7_rank_27 : decode cX7_rank 27 = .ok (.iload_n 2, 1) := by decide +kernel
theorem dX7_rank_28 : decode cX7_rank 28 = .ok (.bipush 97, 2) := by decide +kernel
theorem dX7_rank_30 : decode cX7_rank 30 = .ok (.isub, 1) := by decide +kernel
theorem dX7_rank_31 : decode cX7_rank 31 = .ok (.iload_n 3, 1) := by decide +kernel
theorem dX7_rank_32 : decode cX7_rank 32 = .ok (.invokevirtual 172, 3) := by decide +kernel
theorem dX7_rank_35 : decode cX7_rank 35 = .ok (.iadd, 1) := by decide +kernel
theorem dX7_rank_36 : decode cX7_rank 36 = .ok (.ireturn, 1) := by decide +kernel
theorem dX7_alike_0 : decode cX7_alike 0 = .ok (.aload_n 0, 1) := by decide +kernel
theorem dX7_alike_1 : decode cX7_alike 1 = .ok (.iload_n 1, 1) := by decide +kernel
theorem dX7_alike_2 : decode cX7_alike 2 = .ok (.invokevirtual 157, 3) := by decide +kernel
theorem dX7_alike_5 : decode cX7_alike 5 = .ok (.istore_n 3, 1) := by decide +kernel
theorem dX7_alike_6 : decode cX7_alike 6 = .ok (.aload_n 0, 1) := by decide +kernel
theorem dX7_alike_7 : decode cX7_alike 7 = .ok (.iload_n 2, 1) := by decide +kernel
theorem dX7_alike_8 : decode cX7_alike 8 = .ok (.invokevirtual 157, 3) := by decide +kernel
theorem dX7_alike_11 : decode cX7_alike 11 = .ok (.istore 4, 2) := by decide +kernel
theorem dX7_alike_13 : decode cX7_alike 13 = .ok (.iload_n 3, 1) := by decide +kernel
theorem dX7_alike_14 : decode cX7_alike 14 = .ok (.bipush (-5), 2) := by decide +kernel
theorem dX7_alike_16 : decode cX7_alike 16 = .ok (.if_icmp .eq 10, 3) := by decide +kernel
theorem dX7_alike_19 : decode cX7_alike 19 = .ok (.iload 4, 2) := by decide +kernel
theorem dX7_alike_21 : decode cX7_alike 21 = .ok (.bipush (-5), 2) := by decide +kernel
theorem dX7_alike_23 : decode cX7_alike 23 = .ok (.if_icmp .ne 5, 3) := by decide +kernel
theorem dX7_alike_26 : decode cX7_alike 26 = .ok (.iconst (-1), 1) := by decide +kernel
theorem dX7_alike_27 : decode cX7_alike 27 = .ok (.ireturn, 1) := by decide +kernel
theorem dX7_alike_28 : decode cX7_alike 28 = .ok (.iconst 0, 1) := by decide +kernel
theorem dX7_alike_29 : decode cX7_alike 29 = .ok (.istore 5, 2) := by decide +kernel
theorem dX7_alike_31 : decode cX7_alike 31 = .ok (.iconst 0, 1) := by decide +kernel
theorem dX7_alike_32 : decode cX7_alike 32 = .ok (.istore 6, 2) := by decide +kernel
theorem dX7_alike_34 : decode cX7_alike 34 = .ok (.iload 6, 2) := by decide +kernel
theorem dX7_alike_36 : decode cX7_alike 36 = .ok (.bipush 26, 2) := by decide +kernel
theorem dX7_alike_38 : decode cX7_alike 38 = .ok (.if_icmp .ge 55, 3) := by decide +kernel
theorem dX7_alike_41 : decode cX7_alike 41 = .ok (.iload 5, 2) := by decide +kernel
theorem dX7_alike_43 : decode cX7_alike 43 = .ok (.aload_n 0, 1) := by decide +kernel
theorem dX7_alike_44 : decode cX7_alike 44 = .ok (.iload_n 3, 1) := by decide +kernel
theorem dX7_alike_45 : decode cX7_alike 45 = .ok (.iload 6, 2) := by decide +kernel
theorem dX7_alike_47 : decode cX7_alike 47 = .ok (.invokevirtual 169, 3) := by decide +kernel
theorem dX7_alike_50 : decode cX7_alike 50 = .ok (.aload_n 0, 1) := by decide +kernel
theorem dX7_alike_51 : decode cX7_alike 51 = .ok (.iload 4, 2) := by decide +kernel
theorem dX7_alike_53 : decode cX7_alike 53 = .ok (.iload 6, 2) := by decide +kernel
theorem dX7_alike_55 : decode cX7_alike 55 = .ok (.invokevirtual 166, 3) := by decide +kernel
theorem dX7_alike_58 : decode cX7_alike 58 = .ok (.if_icmp .gt 25, 3) := by decide +kernel
theorem dX7_alike_61 : decode cX7_alike 61 = .ok (.aload_n 0, 1) := by decide +kernel
theorem dX7_alike_62 : decode cX7_alike 62 = .ok (.iload 4, 2) := by decide +kernel
theorem dX7_alike_64 : decode cX7_alike 64 = .ok (.iload 6, 2) := by decide +kernel
theorem dX7_alike_66 : decode cX7_alike 66 = .ok (.invokevirtual 169, 3) := by decide +kernel
theorem dX7_alike_69 : decode cX7_alike 69 = .ok (.aload_n 0, 1) := by decide +kernel
theorem dX7_alike_70 : decode cX7_alike 70 = .ok (.iload_n 3, 1) := by decide +kernel
theorem dX7_alike_71 : decode cX7_alike 71 = .ok (.iload 6, 2) := by decide +kernel
theorem dX7_alike_73 : decode cX7_alike 73 = .ok (.invokevirtual 166, 3) := by decide +kernel
theorem dX7_alike_76 : decode cX7_alike 76 = .ok (.if_icmp .gt 7, 3) := by decide +kernel
theorem dX7_alike_79 : decode cX7_alike 79 = .ok (.iconst 1, 1) := by decide +kernel
theorem dX7_alike_80 : decode cX7_alike 80 = .ok (.goto 4, 3) := by decide +kernel
theorem dX7_alike_83 : decode cX7_alike 83 = .ok (.iconst 0, 1) := by decide +kernel
theorem dX7_alike_84 : decode cX7_alike 84 = .ok (.iadd, 1) := by decide +kernel
theorem dX7_alike_85 : decode cX7_alike 85 = .ok (.istore 5, 2) := by decide +kernel
theorem dX7_alike_87 : decode cX7_alike 87 = .ok (.iinc 6 1, 3) := by decide +kernel
theorem dX7_alike_90 : decode cX7_alike 90 = .ok (.goto (-56), 3) := by decide +kernel
theorem dX7_alike_93 : decode cX7_alike 93 = .ok (.iload 5, 2) := by decide +kernel
theorem dX7_alike_95 : decode cX7_alike 95 = .ok (.ireturn, 1) := by decide +kernel
theorem dX7_wouldEvict_0 : decode cX7_wouldEvict 0 = .ok (.iload_n 1, 1) := by decide +kernel
theorem dX7_wouldEvict_1 : decode cX7_wouldEvict 1 = .ok (.invokestatic 72, 3) := by decide +kernel
theorem dX7_wouldEvict_4 : decode cX7_wouldEvict 4 = .ok (.ifCond .eq 10, 3) := by decide +kernel
theorem dX7_wouldEvict_7 : decode cX7_wouldEvict 7 = .ok (.iload_n 2, 1) := by decide +kernel
theorem dX7_wouldEvict_8 : decode cX7_wouldEvict 8 = .ok (.invokestatic 76, 3) := by decide +kernel
theorem dX7_wouldEvict_11 : decode cX7_wouldEvict 11 = .ok (.ifCond .ne 5, 3) := by decide +kernel
theorem dX7_wouldEvict_14 : decode cX7_wouldEvict 14 = .ok (.iconst (-1), 1) := by decide +kernel
theorem dX7_wouldEvict_15 : decode cX7_wouldEvict 15 = .ok (.ireturn, 1) := by decide +kernel
theorem dX7_wouldEvict_16 : decode cX7_wouldEvict 16 = .ok (.aload_n 0, 1) := by decide +kernel
theorem dX7_wouldEvict_17 : decode cX7_wouldEvict 17 = .ok (.iload_n 1, 1) := by decide +kernel
theorem dX7_wouldEvict_18 : decode cX7_wouldEvict 18 = .ok (.iload_n 2, 1) := by decide +kernel
theorem dX7_wouldEvict_19 : decode cX7_wouldEvict 19 = .ok (.bipush 97, 2) := by decide +kernel
theorem dX7_wouldEvict_21 : decode cX7_wouldEvict 21 = .ok (.isub, 1) := by decide +kernel
theorem dX7_wouldEvict_22 : decode cX7_wouldEvict 22 = .ok (.invokevirtual 43, 3) := by decide +kernel
theorem dX7_wouldEvict_25 : decode cX7_wouldEvict 25 = .ok (.ifCond .ne 21, 3) := by decide +kernel
theorem dX7_wouldEvict_28 : decode cX7_wouldEvict 28 = .ok (.aload_n 0, 1) := by decide +kernel
theorem dX7_wouldEvict_29 : decode cX7_wouldEvict 29 = .ok (.iload_n 1, 1) := by decide +kernel
theorem dX7_wouldEvict_30 : decode cX7_wouldEvict 30 = .ok (.invokevirtual 65, 3) := by decide +kernel
theorem dX7_wouldEvict_33 : decode cX7_wouldEvict 33 = .ok (.aload_n 0, 1) := by decide +kernel
theorem dX7_wouldEvict_34 : decode cX7_wouldEvict 34 = .ok (.iload_n 1, 1) := by decide +kernel
theorem dX7_wouldEvict_35 : decode cX7_wouldEvict 35 = .ok (.iconst 0, 1) := by decide +kernel
theorem dX7_wouldEvict_36 : decode cX7_wouldEvict 36 = .ok (.invokevirtual 47, 3) := by decide +kernel
theorem dX7_wouldEvict_39 : decode cX7_wouldEvict 39 = .ok (.if_icmp .ne 7, 3) := by decide +kernel
theorem dX7_wouldEvict_42 : decode cX7_wouldEvict 42 = .ok (.iconst 1, 1) := by decide +kernel
theorem dX7_wouldEvict_43 : decode cX7_wouldEvict 43 = .ok (.goto 4, 3) := by decide +kernel
theorem dX7_wouldEvict_46 : decode cX7_wouldEvict 46 = .ok (.iconst 0, 1) := by decide +kernel
theorem dX7_wouldEvict_47 : decode cX7_wouldEvict 47 = .ok (.istore_n 3, 1) := by decide +kernel
theorem dX7_wouldEvict_48 : decode cX7_wouldEvict 48 = .ok (.iload_n 3, 1) := by decide +kernel
theorem dX7_wouldEvict_49 : decode cX7_wouldEvict 49 = .ok (.ifCond .eq 14, 3) := by decide +kernel
theorem dX7_wouldEvict_52 : decode cX7_wouldEvict 52 = .ok (.bipush 97, 2) := by decide +kernel
theorem dX7_wouldEvict_54 : decode cX7_wouldEvict 54 = .ok (.aload_n 0, 1) := by decide +kernel
theorem dX7_wouldEvict_55 : decode cX7_wouldEvict 55 = .ok (.iload_n 1, 1) := by decide +kernel
theorem dX7_wouldEvict_56 : decode cX7_wouldEvict 56 = .ok (.invokevirtual 55, 3) := by decide +kernel
theorem dX7_wouldEvict_59 : decode cX7_wouldEvict 59 = .ok (.iadd, 1) := by decide +kernel
theorem dX7_wouldEvict_60 : decode cX7_wouldEvict 60 = .ok (.goto 5, 3) := by decide +kernel
theorem dX7_wouldEvict_63 : decode cX7_wouldEvict 63 = .ok (.bipush (-5), 2) := by decide +kernel
theorem dX7_wouldEvict_65 : decode cX7_wouldEvict 65 = .ok (.ireturn, 1) := by decide +kernel
theorem dX7_block_0 : decode cX7_block 0 = .ok (.iload_n 1, 1) := by decide +kernel
theorem dX7_block_1 : decode cX7_block 1 = .ok (.iconst 0, 1) := by decide +kernel
theorem dX7_block_2 : decode cX7_block 2 = .ok (.aload_n 0, 1) := by decide +kernel
theorem dX7_block_3 : decode cX7_block 3 = .ok (.getfield 7, 3) := by decide +kernel
theorem dX7_block_6 : decode cX7_block 6 = .ok (.sipush 1076, 3) := by decide +kernel
theorem dX7_block_9 : decode cX7_block 9 = .ok (.iaload, 1) := by decide +kernel
theorem dX7_block_10 : decode cX7_block 10 = .ok (.iconst 1, 1) := by decide +kernel
theorem dX7_block_11 : decode cX7_block 11 = .ok (.isub, 1) := by decide +kernel
theorem dX7_block_12 : decode cX7_block 12 = .ok (.invokestatic 35, 3) := by decide +kernel
theorem dX7_block_15 : decode cX7_block 15 = .ok (.ifCond .ne 5, 3) := by decide +kernel
theorem dX7_block_18 : decode cX7_block 18 = .ok (.iconst (-1), 1) := by decide +kernel
theorem dX7_block_19 : decode cX7_block 19 = .ok (.ireturn, 1) := by decide +kernel
theorem dX7_block_20 : decode cX7_block 20 = .ok (.iconst 4, 1) := by decide +kernel
theorem dX7_block_21 : decode cX7_block 21 = .ok (.iload_n 1, 1) := by decide +kernel
theorem dX7_block_22 : decode cX7_block 22 = .ok (.iadd, 1) := by decide +kernel
theorem dX7_block_23 : decode cX7_block 23 = .ok (.istore_n 3, 1) := by decide +kernel
theorem dX7_block_24 : decode cX7_block 24 = .ok (.iload_n 2, 1) := by decide +kernel
theorem dX7_block_25 : decode cX7_block 25 = .ok (.tableswitch 58 0 3 #[31, 38, 45, 51], 31) := by decide +kernel
theorem dX7_block_56 : decode cX7_block 56 = .ok (.aload_n 0, 1) := by decide +kernel
theorem dX7_block_57 : decode cX7_block 57 = .ok (.iload_n 3, 1) := by decide +kernel
theorem dX7_block_58 : decode cX7_block 58 = .ok (.iconst 3, 1) := by decide +kernel
theorem dX7_block_59 : decode cX7_block 59 = .ok (.invokevirtual 47, 3) := by decide +kernel
theorem dX7_block_62 : decode cX7_block 62 = .ok (.ireturn, 1) := by decide +kernel
theorem dX7_block_63 : decode cX7_block 63 = .ok (.aload_n 0, 1) := by decide +kernel
theorem dX7_block_64 : decode cX7_block 64 = .ok (.iload_n 3, 1) := by decide +kernel
theorem dX7_block_65 : decode cX7_block 65 = .ok (.iconst 2, 1) := by decide +kernel
theorem dX7_block_66 : decode cX7_block 66 = .ok (.invokevirtual 47, 3) := by decide +kernel
theorem dX7_block_69 : decode cX7_block 69 = .ok (.ireturn, 1) := by decide +kernel
theorem dX7_block_70 : decode cX7_block 70 = .ok (.aload_n 0, 1) := by decide +kernel
theorem dX7_block_71 : decode cX7_block 71 = .ok (.iload_n 3, 1) := by decide +kernel
theorem dX7_block_72 : decode cX7_block 72 = .ok (.invokevirtual 65, 3) := by decide +kernel
theorem dX7_block_75 : decode cX7_block 75 = .ok (.ireturn, 1) := by decide +kernel
theorem dX7_block_76 : decode cX7_block 76 = .ok (.aload_n 0, 1) := by decide +kernel
theorem dX7_block_77 : decode cX7_block 77 = .ok (.iload_n 3, 1) := by decide +kernel
theorem dX7_block_78 : decode cX7_block 78 = .ok (.iconst 1, 1) := by decide +kernel
theorem dX7_block_79 : decode cX7_block 79 = .ok (.invokevirtual 47, 3) := by decide +kernel
theorem dX7_block_82 : decode cX7_block 82 = .ok (.ireturn, 1) := by decide +kernel
theorem dX7_block_83 : decode cX7_block 83 = .ok (.bipush (-2), 2) := by decide +kernel
theorem dX7_block_85 : decode cX7_block 85 = .ok (.ireturn, 1) := by decide +kernel
theorem dX7_event_0 : decode cX7_event 0 = .ok (.iload_n 1, 1) := by decide +kernel
theorem dX7_event_1 : decode cX7_event 1 = .ok (.ifCond .lt 12, 3) := by decide +kernel
theorem dX7_event_4 : decode cX7_event 4 = .ok (.iload_n 2, 1) := by decide +kernel
theorem dX7_event_5 : decode cX7_event 5 = .ok (.iconst 0, 1) := by decide +kernel
theorem dX7_event_6 : decode cX7_event 6 = .ok (.iconst 3, 1) := by decide +kernel
theorem dX7_event_7 : decode cX7_event 7 = .ok (.invokestatic 35, 3) := by decide +kernel
theorem dX7_event_10 : decode cX7_event 10 = .ok (.ifCond .ne 6, 3) := by decide +kernel
theorem dX7_event_13 : decode cX7_event 13 = .ok (.bipush (-2), 2) := by decide +kernel
theorem dX7_event_15 : decode cX7_event 15 = .ok (.ireturn, 1) := by decide +kernel
theorem dX7_event_16 : decode cX7_event 16 = .ok (.iload_n 1, 1) := by decide +kernel
theorem dX7_event_17 : decode cX7_event 17 = .ok (.aload_n 0, 1) := by decide +kernel
theorem dX7_event_18 : decode cX7_event 18 = .ok (.getfield 7, 3) := by decide +kernel
theorem dX7_event_21 : decode cX7_event 21 = .ok (.sipush 1077, 3) := by decide +kernel
theorem dX7_event_24 : decode cX7_event 24 = .ok (.iaload, 1) := by decide +kernel
theorem dX7_event_25 : decode cX7_event 25 = .ok (.if_icmp .ge 31, 3) := by decide +kernel
theorem dX7_event_28 : decode cX7_event 28 = .ok (.aload_n 0, 1) := by decide +kernel
theorem dX7_event_29 : decode cX7_event 29 = .ok (.getfield 7, 3) := by decide +kernel
theorem dX7_event_32 : decode cX7_event 32 = .ok (.sipush 1078, 3) := by decide +kernel
theorem dX7_event_35 : decode cX7_event 35 = .ok (.iconst 4, 1) := by decide +kernel
theorem dX7_event_36 : decode cX7_event 36 = .ok (.aload_n 0, 1) := by decide +kernel
theorem dX7_event_37 : decode cX7_event 37 = .ok (.getfield 7, 3) := by decide +kernel
theorem dX7_event_40 : decode cX7_event 40 = .ok (.sipush 1077, 3) := by decide +kernel
theorem dX7_event_43 : decode cX7_event 43 = .ok (.iaload, 1) := by decide +kernel
theorem dX7_event_44 : decode cX7_event 44 = .ok (.iconst 1, 1) := by decide +kernel
theorem dX7_event_45 : decode cX7_event 45 = .ok (.isub, 1) := by decide +kernel
theorem dX7_event_46 : decode cX7_event 46 = .ok (.iload_n 1, 1) := by decide +kernel
theorem dX7_event_47 : decode cX7_event 47 = .ok (.isub, 1) := by decide +kernel
theorem dX7_event_48 : decode cX7_event 48 = .ok (.imul, 1) := by decide +kernel
theorem dX7_event_49 : decode cX7_event 49 = .ok (.iadd, 1) := by decide +kernel
theorem dX7_event_50 : decode cX7_event 50 = .ok (.iload_n 2, 1) := by decide +kernel
theorem dX7_event_51 : decode cX7_event 51 = .ok (.iadd, 1) := by decide +kernel
theorem dX7_event_52 : decode cX7_event 52 = .ok (.iaload, 1) := by decide +kernel
theorem dX7_event_53 : decode cX7_event 53 = .ok (.goto 5, 3) := by decide +kernel
theorem dX7_event_56 : decode cX7_event 56 = .ok (.bipush (-5), 2) := by decide +kernel
theorem dX7_event_58 : decode cX7_event 58 = .ok (.ireturn, 1) := by decide +kernel
theorem dX7_count_0 : decode cX7_count 0 = .ok (.iload_n 1, 1) := by decide +kernel
theorem dX7_count_1 : decode cX7_count 1 = .ok (.tableswitch 78 0 7 #[47, 47, 47, 47, 47, 58, 68, 73], 47) := by decide +kernel
theorem dX7_count_48 : decode cX7_count 48 = .ok (.aload_n 0, 1) := by decide +kernel
theorem dX7_count_49 : decode cX7_count 49 = .ok (.getfield 7, 3) := by decide +kernel
theorem dX7_count_52 : decode cX7_count 52 = .ok (.sipush 1072, 3) := by decide +kernel
theorem dX7_count_55 : decode cX7_count 55 = .ok (.iload_n 1, 1) := by decide +kernel
theorem dX7_count_56 : decode cX7_count 56 = .ok (.iadd, 1) := by decide +kernel
theorem dX7_count_57 : decode cX7_count 57 = .ok (.iaload, 1) := by decide +kernel
theorem dX7_count_58 : decode cX7_count 58 = .ok (.ireturn, 1) := by decide +kernel
theorem dX7_count_59 : decode cX7_count 59 = .ok (.aload_n 0, 1) := by decide +kernel
theorem dX7_count_60 : decode cX7_count 60 = .ok (.aload_n 0, 1) := by decide +kernel
theorem dX7_count_61 : decode cX7_count 61 = .ok (.invokevirtual 87, 3) := by decide +kernel
theorem dX7_count_64 : decode cX7_count 64 = .ok (.iconst 3, 1) := by decide +kernel
theorem dX7_count_65 : decode cX7_count 65 = .ok (.invokevirtual 47, 3) := by decide +kernel
theorem dX7_count_68 : decode cX7_count 68 = .ok (.ireturn, 1) := by decide +kernel
theorem dX7_count_69 : decode cX7_count 69 = .ok (.aload_n 0, 1) := by decide +kernel
theorem dX7_count_70 : decode cX7_count 70 = .ok (.getfield 39, 3) := by decide +kernel
theorem dX7_count_73 : decode cX7_count 73 = .ok (.ireturn, 1) := by decide +kernel
theorem dX7_count_74 : decode cX7_count 74 = .ok (.aload_n 0, 1) := by decide +kernel
theorem dX7_count_75 : decode cX7_count 75 = .ok (.getfield 103, 3) := by decide +kernel
theorem dX7_count_78 : decode cX7_count 78 = .ok (.ireturn, 1) := by decide +kernel
theorem dX7_count_79 : decode cX7_count 79 = .ok (.bipush (-2), 2) := by decide +kernel
theorem dX7_count_81 : decode cX7_count 81 = .ok (.ireturn, 1) := by decide +kernel
theorem dJ6_bitCount_0f7a4_0 : decode cJ6_bitCount_0f7a4 0 = .ok (.iload_n 0, 1) := by decide +kernel
theorem dJ6_bitCount_0f7a4_1 : decode cJ6_bitCount_0f7a4 1 = .ok (.iload_n 0, 1) := by decide +kernel
theorem dJ6_bitCount_0f7a4_2 : decode cJ6_bitCount_0f7a4 2 = .ok (.iconst 1, 1) := by decide +kernel
theorem dJ6_bitCount_0f7a4_3 : decode cJ6_bitCount_0f7a4 3 = .ok (.iushr, 1) := by decide +kernel
theorem dJ6_bitCount_0f7a4_4 : decode cJ6_bitCount_0f7a4 4 = .ok (.ldc_w 265, 3) := by decide +kernel
theorem dJ6_bitCount_0f7a4_7 : decode cJ6_bitCount_0f7a4 7 = .ok (.iand, 1) := by decide +kernel
theorem dJ6_bitCount_0f7a4_8 : decode cJ6_bitCount_0f7a4 8 = .ok (.isub, 1) := by decide +kernel
theorem dJ6_bitCount_0f7a4_9 : decode cJ6_bitCount_0f7a4 9 = .ok (.istore_n 0, 1) := by decide +kernel
theorem dJ6_bitCount_0f7a4_10 : decode cJ6_bitCount_0f7a4 10 = .ok (.iload_n 0, 1) := by decide +kernel
theorem dJ6_bitCount_0f7a4_11 : decode cJ6_bitCount_0f7a4 11 = .ok (.ldc_w 266, 3) := by decide +kernel
theorem dJ6_bitCount_0f7a4_14 : decode cJ6_bitCount_0f7a4 14 = .ok (.iand, 1) := by decide +kernel
theorem dJ6_bitCount_0f7a4_15 : decode cJ6_bitCount_0f7a4 15 = .ok (.iload_n 0, 1) := by decide +kernel
theorem dJ6_bitCount_0f7a4_16 : decode cJ6_bitCount_0f7a4 16 = .ok (.iconst 2, 1) := by decide +kernel
theorem dJ6_bitCount_0f7a4_17 : decode cJ6_bitCount_0f7a4 17 = .ok (.iushr, 1) := by decide +kernel
theorem dJ6_bitCount_0f7a4_18 : decode cJ6_bitCount_0f7a4 18 = .ok (.ldc_w 266, 3) := by decide +kernel
theorem dJ6_bitCount_0f7a4_21 : decode cJ6_bitCount_0f7a4 21 = .ok (.iand, 1) := by decide +kernel
theorem dJ6_bitCount_0f7a4_22 : decode cJ6_bitCount_0f7a4 22 = .ok (.iadd, 1) := by decide +kernel
theorem dJ6_bitCount_0f7a4_23 : decode cJ6_bitCount_0f7a4 23 = .ok (.istore_n 0, 1) := by decide +kernel
theorem dJ6_bitCount_0f7a4_24 : decode cJ6_bitCount_0f7a4 24 = .ok (.iload_n 0, 1) := by decide +kernel
theorem dJ6_bitCount_0f7a4_25 : decode cJ6_bitCount_0f7a4 25 = .ok (.iload_n 0, 1) := by decide +kernel
theorem dJ6_bitCount_0f7a4_26 : decode cJ6_bitCount_0f7a4 26 = .ok (.iconst 4, 1) := by decide +kernel
theorem dJ6_bitCount_0f7a4_27 : decode cJ6_bitCount_0f7a4 27 = .ok (.iushr, 1) := by decide +kernel
theorem dJ6_bitCount_0f7a4_28 : decode cJ6_bitCount_0f7a4 28 = .ok (.iadd, 1) := by decide +kernel
theorem dJ6_bitCount_0f7a4_29 : decode cJ6_bitCount_0f7a4 29 = .ok (.ldc_w 267, 3) := by decide +kernel
theorem dJ6_bitCount_0f7a4_32 : decode cJ6_bitCount_0f7a4 32 = .ok (.iand, 1) := by decide +kernel
theorem dJ6_bitCount_0f7a4_33 : decode cJ6_bitCount_0f7a4 33 = .ok (.istore_n 0, 1) := by decide +kernel
theorem dJ6_bitCount_0f7a4_34 : decode cJ6_bitCount_0f7a4 34 = .ok (.iload_n 0, 1) := by decide +kernel
theorem dJ6_bitCount_0f7a4_35 : decode cJ6_bitCount_0f7a4 35 = .ok (.iload_n 0, 1) := by decide +kernel
theorem dJ6_bitCount_0f7a4_36 : decode cJ6_bitCount_0f7a4 36 = .ok (.bipush 8, 2) := by decide +kernel
theorem dJ6_bitCount_0f7a4_38 : decode cJ6_bitCount_0f7a4 38 = .ok (.iushr, 1) := by decide +kernel
theorem dJ6_bitCount_0f7a4_39 : decode cJ6_bitCount_0f7a4 39 = .ok (.iadd, 1) := by decide +kernel
theorem dJ6_bitCount_0f7a4_40 : decode cJ6_bitCount_0f7a4 40 = .ok (.istore_n 0, 1) := by decide +kernel
theorem dJ6_bitCount_0f7a4_41 : decode cJ6_bitCount_0f7a4 41 = .ok (.iload_n 0, 1) := by decide +kernel
theorem dJ6_bitCount_0f7a4_42 : decode cJ6_bitCount_0f7a4 42 = .ok (.iload_n 0, 1) := by decide +kernel
theorem dJ6_bitCount_0f7a4_43 : decode cJ6_bitCount_0f7a4 43 = .ok (.bipush 16, 2) := by decide +kernel
theorem dJ6_bitCount_0f7a4_45 : decode cJ6_bitCount_0f7a4 45 = .ok (.iushr, 1) := by decide +kernel
theorem dJ6_bitCount_0f7a4_46 : decode cJ6_bitCount_0f7a4 46 = .ok (.iadd, 1) := by decide +kernel
theorem dJ6_bitCount_0f7a4_47 : decode cJ6_bitCount_0f7a4 47 = .ok (.istore_n 0, 1) := by decide +kernel
theorem dJ6_bitCount_0f7a4_48 : decode cJ6_bitCount_0f7a4 48 = .ok (.iload_n 0, 1) := by decide +kernel
theorem dJ6_bitCount_0f7a4_49 : decode cJ6_bitCount_0f7a4 49 = .ok (.bipush 63, 2) := by decide +kernel
theorem dJ6_bitCount_0f7a4_51 : decode cJ6_bitCount_0f7a4 51 = .ok (.iand, 1) := by decide +kernel
theorem dJ6_bitCount_0f7a4_52 : decode cJ6_bitCount_0f7a4 52 = .ok (.ireturn, 1) := by decide +kernel
theorem dJ9_max_7cf53_0 : decode cJ9_max_7cf53 0 = .ok (.iload_n 0, 1) := by decide +kernel
theorem dJ9_max_7cf53_1 : decode cJ9_max_7cf53 1 = .ok (.iload_n 1, 1) := by decide +kernel
theorem dJ9_max_7cf53_2 : decode cJ9_max_7cf53 2 = .ok (.if_icmp .lt 7, 3) := by decide +kernel
theorem dJ9_max_7cf53_5 : decode cJ9_max_7cf53 5 = .ok (.iload_n 0, 1) := by decide +kernel
theorem dJ9_max_7cf53_6 : decode cJ9_max_7cf53 6 = .ok (.goto 4, 3) := by decide +kernel
theorem dJ9_max_7cf53_9 : decode cJ9_max_7cf53 9 = .ok (.iload_n 1, 1) := by decide +kernel
theorem dJ9_max_7cf53_10 : decode cJ9_max_7cf53 10 = .ok (.ireturn, 1) := by decide +kernel
theorem dJ9_min_7cf53_0 : decode cJ9_min_7cf53 0 = .ok (.iload_n 0, 1) := by decide +kernel
theorem dJ9_min_7cf53_1 : decode cJ9_min_7cf53 1 = .ok (.iload_n 1, 1) := by decide +kernel
theorem dJ9_min_7cf53_2 : decode cJ9_min_7cf53 2 = .ok (.if_icmp .gt 7, 3) := by decide +kernel
theorem dJ9_min_7cf53_5 : decode cJ9_min_7cf53 5 = .ok (.iload_n 0, 1) := by decide +kernel
theorem dJ9_min_7cf53_6 : decode cJ9_min_7cf53 6 = .ok (.goto 4, 3) := by decide +kernel
theorem dJ9_min_7cf53_9 : decode cJ9_min_7cf53 9 = .ok (.iload_n 1, 1) := by decide +kernel
theorem dJ9_min_7cf53_10 : decode cJ9_min_7cf53 10 = .ok (.ireturn, 1) := by decide +kernel
theorem dJ0_length_8abf5_0 : decode cJ0_length_8abf5 0 = .ok (.aload_n 0, 1) := by decide +kernel
theorem dJ0_length_8abf5_1 : decode cJ0_length_8abf5 1 = .ok (.getfield 9, 3) := by decide +kernel
theorem dJ0_length_8abf5_4 : decode cJ0_length_8abf5 4 = .ok (.arraylength, 1) := by decide +kernel
theorem dJ0_length_8abf5_5 : decode cJ0_length_8abf5 5 = .ok (.aload_n 0, 1) := by decide +kernel
theorem dJ0_length_8abf5_6 : decode cJ0_length_8abf5 6 = .ok (.invokevirtual 335, 3) := by decide +kernel
theorem dJ0_length_8abf5_9 : decode cJ0_length_8abf5 9 = .ok (.ishr, 1) := by decide +kernel
theorem dJ0_length_8abf5_10 : decode cJ0_length_8abf5 10 = .ok (.ireturn, 1) := by decide +kernel
theorem dJ0_charAt_5068e_0 : decode cJ0_charAt_5068e 0 = .ok (.aload_n 0, 1) := by decide +kernel
theorem dJ0_charAt_5068e_1 : decode cJ0_charAt_5068e 1 = .ok (.invokevirtual 492, 3) := by decide +kernel
theorem dJ0_charAt_5068e_4 : decode cJ0_charAt_5068e 4 = .ok (.ifCond .eq 12, 3) := by decide +kernel
theorem dJ0_charAt_5068e_7 : decode cJ0_charAt_5068e 7 = .ok (.aload_n 0, 1) := by decide +kernel
theorem dJ0_charAt_5068e_8 : decode cJ0_charAt_5068e 8 = .ok (.getfield 9, 3) := by decide +kernel
theorem dJ0_charAt_5068e_11 : decode cJ0_charAt_5068e 11 = .ok (.iload_n 1, 1) := by decide +kernel
theorem dJ0_charAt_5068e_12 : decode cJ0_charAt_5068e 12 = .ok (.invokestatic 495, 3) := by decide +kernel
theorem dJ0_charAt_5068e_15 : decode cJ0_charAt_5068e 15 = .ok (.ireturn, 1) := by decide +kernel
theorem dJ0_charAt_5068e_16 : decode cJ0_charAt_5068e 16 = .ok (.aload_n 0, 1) := by decide +kernel
theorem dJ0_charAt_5068e_17 : decode cJ0_charAt_5068e 17 = .ok (.getfield 9, 3) := by decide +kernel
theorem dJ0_charAt_5068e_20 : decode cJ0_charAt_5068e 20 = .ok (.iload_n 1, 1) := by decide +kernel
theorem dJ0_charAt_5068e_21 : decode cJ0_charAt_5068e 21 = .ok (.invokestatic 498, 3) := by decide +kernel
theorem dJ0_charAt_5068e_24 : decode cJ0_charAt_5068e 24 = .ok (.ireturn, 1) := by decide +kernel
theorem dJ0_coder_7d493_0 : decode cJ0_coder_7d493 0 = .ok (.getstatic 38, 3) := by decide +kernel
theorem dJ0_coder_7d493_3 : decode cJ0_coder_7d493 3 = .ok (.ifCond .eq 10, 3) := by decide +kernel
theorem dJ0_coder_7d493_6 : decode cJ0_coder_7d493 6 = .ok (.aload_n 0, 1) := by decide +kernel
theorem dJ0_coder_7d493_7 : decode cJ0_coder_7d493 7 = .ok (.getfield 15, 3) := by decide +kernel
theorem dJ0_coder_7d493_10 : decode cJ0_coder_7d493 10 = .ok (.goto 4, 3) := by decide +kernel
theorem dJ0_coder_7d493_13 : decode cJ0_coder_7d493 13 = .ok (.iconst 1, 1) := by decide +kernel
theorem dJ0_coder_7d493_14 : decode cJ0_coder_7d493 14 = .ok (.ireturn, 1) := by decide +kernel
theorem dJ0_isLatin1_aae02_0 : decode cJ0_isLatin1_aae02 0 = .ok (.getstatic 38, 3) := by decide +kernel
theorem dJ0_isLatin1_aae02_3 : decode cJ0_isLatin1_aae02 3 = .ok (.ifCond .eq 14, 3) := by decide +kernel
theorem dJ0_isLatin1_aae02_6 : decode cJ0_isLatin1_aae02 6 = .ok (.aload_n 0, 1) := by decide +kernel
theorem dJ0_isLatin1_aae02_7 : decode cJ0_isLatin1_aae02 7 = .ok (.getfield 15, 3) := by decide +kernel
theorem dJ0_isLatin1_aae02_10 : decode cJ0_isLatin1_aae02 10 = .ok (.ifCond .ne 7, 3) := by decide +kernel
theorem dJ0_isLatin1_aae02_13 : decode cJ0_isLatin1_aae02 13 = .ok (.iconst 1, 1) := by decide +kernel
theorem dJ0_isLatin1_aae02_14 : decode cJ0_isLatin1_aae02 14 = .ok (.goto 4, 3) := by decide +kernel
theorem dJ0_isLatin1_aae02_17 : decode cJ0_isLatin1_aae02 17 = .ok (.iconst 0, 1) := by decide +kernel
theorem dJ0_isLatin1_aae02_18 : decode cJ0_isLatin1_aae02 18 = .ok (.ireturn, 1) := by decide +kernel
theorem dJ0_checkIndex_df160_0 : decode cJ0_checkIndex_df160 0 = .ok (.iload_n 0, 1) := by decide +kernel
theorem dJ0_checkIndex_df160_1 : decode cJ0_checkIndex_df160 1 = .ok (.iload_n 1, 1) := by decide +kernel
theorem dJ0_checkIndex_df160_2 : decode cJ0_checkIndex_df160 2 = .ok (.getstatic 1053, 3) := by decide +kernel
theorem dJ0_checkIndex_df160_5 : decode cJ0_checkIndex_df160 5 = .ok (.invokestatic 1059, 3) := by decide +kernel
theorem dJ0_checkIndex_df160_8 : decode cJ0_checkIndex_df160 8 = .ok (.pop, 1) := by decide +kernel
theorem dJ0_checkIndex_df160_9 : decode cJ0_checkIndex_df160 9 = .ok (.return_, 1) := by decide +kernel
theorem dJ1_charAt_3b067_0 : decode cJ1_charAt_3b067 0 = .ok (.iload_n 1, 1) := by decide +kernel
theorem dJ1_charAt_3b067_1 : decode cJ1_charAt_3b067 1 = .ok (.aload_n 0, 1) := by decide +kernel
theorem dJ1_charAt_3b067_2 : decode cJ1_charAt_3b067 2 = .ok (.arraylength, 1) := by decide +kernel
theorem dJ1_charAt_3b067_3 : decode cJ1_charAt_3b067 3 = .ok (.invokestatic 9, 3) := by decide +kernel
theorem dJ1_charAt_3b067_6 : decode cJ1_charAt_3b067 6 = .ok (.aload_n 0, 1) := by decide +kernel
theorem dJ1_charAt_3b067_7 : decode cJ1_charAt_3b067 7 = .ok (.iload_n 1, 1) := by decide +kernel
theorem dJ1_charAt_3b067_8 : decode cJ1_charAt_3b067 8 = .ok (.baload, 1) := by decide +kernel
theorem dJ1_charAt_3b067_9 : decode cJ1_charAt_3b067 9 = .ok (.sipush 255, 3) := by decide +kernel
theorem dJ1_charAt_3b067_12 : decode cJ1_charAt_3b067 12 = .ok (.iand, 1) := by decide +kernel
theorem dJ1_charAt_3b067_13 : decode cJ1_charAt_3b067 13 = .ok (.i2c, 1) := by decide +kernel
theorem dJ1_charAt_3b067_14 : decode cJ1_charAt_3b067 14 = .ok (.ireturn, 1) := by decide +kernel
theorem dJ2_getChar_3b067_0 : decode cJ2_getChar_3b067 0 = .ok (.getstatic 44, 3) := by decide +kernel
theorem dJ2_getChar_3b067_3 : decode cJ2_getChar_3b067 3 = .ok (.ifCond .ne 25, 3) := by decide +kernel
theorem dJ2_getChar_3b067_6 : decode cJ2_getChar_3b067 6 = .ok (.iload_n 1, 1) := by decide +kernel
theorem dJ2_getChar_3b067_7 : decode cJ2_getChar_3b067 7 = .ok (.ifCond .lt 11, 3) := by decide +kernel
theorem dJ2_getChar_3b067_10 : decode cJ2_getChar_3b067 10 = .ok (.iload_n 1, 1) := by decide +kernel
theorem dJ2_getChar_3b067_11 : decode cJ2_getChar_3b067 11 = .ok (.aload_n 0, 1) := by decide +kernel
theorem dJ2_getChar_3b067_12 : decode cJ2_getChar_3b067 12 = .ok (.invokestatic 48, 3) := by decide +kernel
theorem dJ2_getChar_3b067_15 : decode cJ2_getChar_3b067 15 = .ok (.if_icmp .lt 13, 3) := by decide +kernel
theorem dJ2_getChar_3b067_18 : decode cJ2_getChar_3b067 18 = .ok (.new 52, 3) := by decide +kernel
theorem dJ2_getChar_3b067_21 : decode cJ2_getChar_3b067 21 = .ok (.dup, 1) := by decide +kernel
theorem dJ2_getChar_3b067_22 : decode cJ2_getChar_3b067 22 = .ok (.ldc 54, 2) := by decide +kernel
theorem dJ2_getChar_3b067_24 : decode cJ2_getChar_3b067 24 = .ok (.invokespecial 56, 3) := by decide +kernel
theorem dJ2_getChar_3b067_27 : decode cJ2_getChar_3b067 27 = .ok (.athrow, 1) := by decide +kernel
theorem dJ2_getChar_3b067_28 : decode cJ2_getChar_3b067 28 = .ok (.iload_n 1, 1) := by decide +kernel
theorem dJ2_getChar_3b067_29 : decode cJ2_getChar_3b067 29 = .ok (.iconst 1, 1) := by decide +kernel
theorem dJ2_getChar_3b067_30 : decode cJ2_getChar_3b067 30 = .ok (.ishl, 1) := by decide +kernel
theorem dJ2_getChar_3b067_31 : decode cJ2_getChar_3b067 31 = .ok (.istore_n 1, 1) := by decide +kernel
theorem dJ2_getChar_3b067_32 : decode cJ2_getChar_3b067 32 = .ok (.aload_n 0, 1) := by decide +kernel
theorem dJ2_getChar_3b067_33 : decode cJ2_getChar_3b067 33 = .ok (.iload_n 1, 1) := by decide +kernel
theorem dJ2_getChar_3b067_34 : decode cJ2_getChar_3b067 34 = .ok (.iinc 1 1, 3) := by decide +kernel
theorem dJ2_getChar_3b067_37 : decode cJ2_getChar_3b067 37 = .ok (.baload, 1) := by decide +kernel
theorem dJ2_getChar_3b067_38 : decode cJ2_getChar_3b067 38 = .ok (.sipush 255, 3) := by decide +kernel
theorem dJ2_getChar_3b067_41 : decode cJ2_getChar_3b067 41 = .ok (.iand, 1) := by decide +kernel
theorem dJ2_getChar_3b067_42 : decode cJ2_getChar_3b067 42 = .ok (.getstatic 59, 3) := by decide +kernel
theorem dJ2_getChar_3b067_45 : decode cJ2_getChar_3b067 45 = .ok (.ishl, 1) := by decide +kernel
theorem dJ2_getChar_3b067_46 : decode cJ2_getChar_3b067 46 = .ok (.aload_n 0, 1) := by decide +kernel
theorem dJ2_getChar_3b067_47 : decode cJ2_getChar_3b067 47 = .ok (.iload_n 1, 1) := by decide +kernel
theorem dJ2_getChar_3b067_48 : decode cJ2_getChar_3b067 48 = .ok (.baload, 1) := by decide +kernel
theorem dJ2_getChar_3b067_49 : decode cJ2_getChar_3b067 49 = .ok (.sipush 255, 3) := by decide +kernel
theorem dJ2_getChar_3b067_52 : decode cJ2_getChar_3b067 52 = .ok (.iand, 1) := by decide +kernel
theorem dJ2_getChar_3b067_53 : decode cJ2_getChar_3b067 53 = .ok (.getstatic 63, 3) := by decide +kernel
theorem dJ2_getChar_3b067_56 : decode cJ2_getChar_3b067 56 = .ok (.ishl, 1) := by decide +kernel
theorem dJ2_getChar_3b067_57 : decode cJ2_getChar_3b067 57 = .ok (.ior, 1) := by decide +kernel
theorem dJ2_getChar_3b067_58 : decode cJ2_getChar_3b067 58 = .ok (.i2c, 1) := by decide +kernel
theorem dJ2_getChar_3b067_59 : decode cJ2_getChar_3b067 59 = .ok (.ireturn, 1) := by decide +kernel
theorem dJ2_length_9d52b_0 : decode cJ2_length_9d52b 0 = .ok (.aload_n 0, 1) := by decide +kernel
theorem dJ2_length_9d52b_1 : decode cJ2_length_9d52b 1 = .ok (.arraylength, 1) := by decide +kernel
theorem dJ2_length_9d52b_2 : decode cJ2_length_9d52b 2 = .ok (.iconst 1, 1) := by decide +kernel
theorem dJ2_length_9d52b_3 : decode cJ2_length_9d52b 3 = .ok (.ishr, 1) := by decide +kernel
theorem dJ2_length_9d52b_4 : decode cJ2_length_9d52b 4 = .ok (.ireturn, 1) := by decide +kernel
theorem dJ2_charAt_3b067_0 : decode cJ2_charAt_3b067 0 = .ok (.iload_n 1, 1) := by decide +kernel
theorem dJ2_charAt_3b067_1 : decode cJ2_charAt_3b067 1 = .ok (.aload_n 0, 1) := by decide +kernel
theorem dJ2_charAt_3b067_2 : decode cJ2_charAt_3b067 2 = .ok (.invokestatic 67, 3) := by decide +kernel
theorem dJ2_charAt_3b067_5 : decode cJ2_charAt_3b067 5 = .ok (.aload_n 0, 1) := by decide +kernel
theorem dJ2_charAt_3b067_6 : decode cJ2_charAt_3b067 6 = .ok (.iload_n 1, 1) := by decide +kernel
theorem dJ2_charAt_3b067_7 : decode cJ2_charAt_3b067 7 = .ok (.invokestatic 71, 3) := by decide +kernel
theorem dJ2_charAt_3b067_10 : decode cJ2_charAt_3b067 10 = .ok (.ireturn, 1) := by decide +kernel
theorem dJ2_checkIndex_2214a_0 : decode cJ2_checkIndex_2214a 0 = .ok (.iload_n 0, 1) := by decide +kernel
theorem dJ2_checkIndex_2214a_1 : decode cJ2_checkIndex_2214a 1 = .ok (.aload_n 1, 1) := by decide +kernel
theorem dJ2_checkIndex_2214a_2 : decode cJ2_checkIndex_2214a 2 = .ok (.invokestatic 48, 3) := by decide +kernel
theorem dJ2_checkIndex_2214a_5 : decode cJ2_checkIndex_2214a 5 = .ok (.invokestatic 414, 3) := by decide +kernel
theorem dJ2_checkIndex_2214a_8 : decode cJ2_checkIndex_2214a 8 = .ok (.return_, 1) := by decide +kernel
theorem dJ3_checkIndex_8e157_0 : decode cJ3_checkIndex_8e157 0 = .ok (.iload_n 0, 1) := by decide +kernel
theorem dJ3_checkIndex_8e157_1 : decode cJ3_checkIndex_8e157 1 = .ok (.ifCond .lt 8, 3) := by decide +kernel
theorem dJ3_checkIndex_8e157_4 : decode cJ3_checkIndex_8e157 4 = .ok (.iload_n 0, 1) := by decide +kernel
theorem dJ3_checkIndex_8e157_5 : decode cJ3_checkIndex_8e157 5 = .ok (.iload_n 1, 1) := by decide +kernel
theorem dJ3_checkIndex_8e157_6 : decode cJ3_checkIndex_8e157 6 = .ok (.if_icmp .lt 10, 3) := by decide +kernel
theorem dJ3_checkIndex_8e157_9 : decode cJ3_checkIndex_8e157 9 = .ok (.aload_n 2, 1) := by decide +kernel
theorem dJ3_checkIndex_8e157_10 : decode cJ3_checkIndex_8e157 10 = .ok (.iload_n 0, 1) := by decide +kernel
theorem dJ3_checkIndex_8e157_11 : decode cJ3_checkIndex_8e157 11 = .ok (.iload_n 1, 1) := by decide +kernel
theorem dJ3_checkIndex_8e157_12 : decode cJ3_checkIndex_8e157 12 = .ok (.invokestatic 95, 3) := by decide +kernel
theorem dJ3_checkIndex_8e157_15 : decode cJ3_checkIndex_8e157 15 = .ok (.athrow, 1) := by decide +kernel
theorem dJ3_checkIndex_8e157_16 : decode cJ3_checkIndex_8e157 16 = .ok (.iload_n 0, 1) := by decide +kernel
theorem dJ3_checkIndex_8e157_17 : decode cJ3_checkIndex_8e157 17 = .ok (.ireturn, 1) := by decide +kernel
theorem dL_law_0 : decode cL_law 0 = .ok (.new 7, 3) := by decide +kernel
theorem dL_law_3 : decode cL_law 3 = .ok (.dup, 1) := by decide +kernel
theorem dL_law_4 : decode cL_law 4 = .ok (.invokespecial 9, 3) := by decide +kernel
theorem dL_law_7 : decode cL_law 7 = .ok (.astore_n 1, 1) := by decide +kernel
theorem dL_law_8 : decode cL_law 8 = .ok (.new 10, 3) := by decide +kernel
theorem dL_law_11 : decode cL_law 11 = .ok (.dup, 1) := by decide +kernel
theorem dL_law_12 : decode cL_law 12 = .ok (.invokespecial 12, 3) := by decide +kernel
theorem dL_law_15 : decode cL_law 15 = .ok (.astore_n 2, 1) := by decide +kernel
theorem dL_law_16 : decode cL_law 16 = .ok (.iconst 0, 1) := by decide +kernel
theorem dL_law_17 : decode cL_law 17 = .ok (.istore_n 3, 1) := by decide +kernel
theorem dL_law_18 : decode cL_law 18 = .ok (.iload_n 3, 1) := by decide +kernel
theorem dL_law_19 : decode cL_law 19 = .ok (.aload_n 0, 1) := by decide +kernel
theorem dL_law_20 : decode cL_law 20 = .ok (.arraylength, 1) := by decide +kernel
theorem dL_law_21 : decode cL_law 21 = .ok (.iconst 4, 1) := by decide +kernel
theorem dL_law_22 : decode cL_law 22 = .ok (.isub, 1) := by decide +kernel
theorem dL_law_23 : decode cL_law 23 = .ok (.if_icmp .gt 916, 3) := by decide +kernel
theorem dL_law_26 : decode cL_law 26 = .ok (.aload_n 0, 1) := by decide +kernel
theorem dL_law_27 : decode cL_law 27 = .ok (.iload_n 3, 1) := by decide +kernel
theorem dL_law_28 : decode cL_law 28 = .ok (.iaload, 1) := by decide +kernel
theorem dL_law_29 : decode cL_law 29 = .ok (.bipush 31, 2) := by decide +kernel
theorem dL_law_31 : decode cL_law 31 = .ok (.iand, 1) := by decide +kernel
theorem dL_law_32 : decode cL_law 32 = .ok (.tableswitch 901 0 24 #[116, 161, 184, 219, 232, 265, 298, 331, 354, 379, 392, 405, 418, 431, 444, 477, 522, 565, 624, 683, 744, 777, 812, 845, 878], 116) := by decide +kernel
theorem dL_law_148 : decode cL_law 148 = .ok (.aload_n 1, 1) := by decide +kernel
theorem dL_law_149 : decode cL_law 149 = .ok (.aload_n 0, 1) := by decide +kernel
theorem dL_law_150 : decode cL_law 150 = .ok (.iload_n 3, 1) := by decide +kernel
theorem dL_law_151 : decode cL_law 151 = .ok (.iconst 1, 1) := by decide +kernel
theorem dL_law_152 : decode cL_law 152 = .ok (.iadd, 1) := by decide +kernel
theorem dL_law_153 : decode cL_law 153 = .ok (.iaload, 1) := by decide +kernel
theorem dL_law_154 : decode cL_law 154 = .ok (.aload_n 0, 1) := by decide +kernel
theorem dL_law_155 : decode cL_law 155 = .ok (.iload_n 3, 1) := by decide +kernel
theorem dL_law_156 : decode cL_law 156 = .ok (.iconst 2, 1) := by decide +kernel
theorem dL_law_157 : decode cL_law 157 = .ok (.iadd, 1) := by decide +kernel
theorem dL_law_158 : decode cL_law 158 = .ok (.iaload, 1) := by decide +kernel
theorem dL_law_159 : decode cL_law 159 = .ok (.i2c, 1) := by decide +kernel
theorem dL_law_160 : decode cL_law 160 = .ok (.aload_n 0, 1) := by decide +kernel
theorem dL_law_161 : decode cL_law 161 = .ok (.iload_n 3, 1) := by decide +kernel
theorem dL_law_162 : decode cL_law 162 = .ok (.iconst 3, 1) := by decide +kernel
theorem dL_law_163 : decode cL_law 163 = .ok (.iadd, 1) := by decide +kernel
theorem dL_law_164 : decode cL_law 164 = .ok (.iaload, 1) := by decide +kernel
theorem dL_law_165 : decode cL_law 165 = .ok (.invokevirtual 13, 3) := by decide +kernel
theorem dL_law_168 : decode cL_law 168 = .ok (.aload_n 2, 1) := by decide +kernel
theorem dL_law_169 : decode cL_law 169 = .ok (.aload_n 0, 1) := by decide +kernel
theorem dL_law_170 : decode cL_law 170 = .ok (.iload_n 3, 1) := by decide +kernel
theorem dL_law_171 : decode cL_law 171 = .ok (.iconst 1, 1) := by decide +kernel
theorem dL_law_172 : decode cL_law 172 = .ok (.iadd, 1) := by decide +kernel
theorem dL_law_173 : decode cL_law 173 = .ok (.iaload, 1) := by decide +kernel
theorem dL_law_174 : decode cL_law 174 = .ok (.aload_n 0, 1) := by decide +kernel
theorem dL_law_175 : decode cL_law 175 = .ok (.iload_n 3, 1) := by decide +kernel
theorem dL_law_176 : decode cL_law 176 = .ok (.iconst 2, 1) := by decide +kernel
theorem dL_law_177 : decode cL_law 177 = .ok (.iadd, 1) := by decide +kernel
theorem dL_law_178 : decode cL_law 178 = .ok (.iaload, 1) := by decide +kernel
theorem dL_law_179 : decode cL_law 179 = .ok (.i2c, 1) := by decide +kernel
theorem dL_law_180 : decode cL_law 180 = .ok (.aload_n 0, 1) := by decide +kernel
theorem dL_law_181 : decode cL_law 181 = .ok (.iload_n 3, 1) := by decide +kernel
theorem dL_law_182 : decode cL_law 182 = .ok (.iconst 3, 1) := by decide +kernel
theorem dL_law_183 : decode cL_law 183 = .ok (.iadd, 1) := by decide +kernel
theorem dL_law_184 : decode cL_law 184 = .ok (.iaload, 1) := by decide +kernel
theorem dL_law_185 : decode cL_law 185 = .ok (.invokevirtual 17, 3) := by decide +kernel
theorem dL_law_188 : decode cL_law 188 = .ok (.if_icmp .eq 745, 3) := by decide +kernel
theorem dL_law_191 : decode cL_law 191 = .ok (.iconst 0, 1) := by decide +kernel
theorem dL_law_192 : decode cL_law 192 = .ok (.ireturn, 1) := by decide +kernel
theorem dL_law_193 : decode cL_law 193 = .ok (.aload_n 1, 1) := by decide +kernel
theorem dL_law_194 : decode cL_law 194 = .ok (.aload_n 0, 1) := by decide +kernel
theorem dL_law_195 : decode cL_law 195 = .ok (.iload_n 3, 1) := by decide +kernel
theorem dL_law_196 : decode cL_law 196 = .ok (.iconst 1, 1) := by decide +kernel
theorem dL_law_197 : decode cL_law 197 = .ok (.iadd, 1) := by decide +kernel
theorem dL_law_198 : decode cL_law 198 = .ok (.iaload, 1) := by decide +kernel
theorem dL_law_199 : decode cL_law 199 = .ok (.invokevirtual 18, 3) := by decide +kernel
theorem dL_law_202 : decode cL_law 202 = .ok (.aload_n 2, 1) := by decide +kernel
theorem dL_law_203 : decode cL_law 203 = .ok (.aload_n 0, 1) := by decide +kernel
theorem dL_law_204 : decode cL_law 204 = .ok (.iload_n 3, 1) := by decide +kernel
theorem dL_law_205 : decode cL_law 205 = .ok (.iconst 1, 1) := by decide +kernel
theorem dL_law_206 : decode cL_law 206 = .ok (.iadd, 1) := by decide +kernel
theorem dL_law_207 : decode cL_law 207 = .ok (.iaload, 1) := by decide +kernel
theorem dL_law_208 : decode cL_law 208 = .ok (.invokevirtual 22, 3) := by decide +kernel
theorem dL_law_211 : decode cL_law 211 = .ok (.if_icmp .eq 722, 3) := by decide +kernel
theorem dL_law_214 : decode cL_law 214 = .ok (.iconst 0, 1) := by decide +kernel
theorem dL_law_215 : decode cL_law 215 = .ok (.ireturn, 1) := by decide +kernel
theorem dL_law_216 : decode cL_law 216 = .ok (.aload_n 1, 1) := by decide +kernel
theorem dL_law_217 : decode cL_law 217 = .ok (.aload_n 0, 1) := by decide +kernel
theorem dL_law_218 : decode cL_law 218 = .ok (.iload_n 3, 1) := by decide +kernel
theorem dL_law_219 : decode cL_law 219 = .ok (.iconst 1, 1) := by decide +kernel
theorem dL_law_220 : decode cL_law 220 = .ok (.iadd, 1) := by decide +kernel
theorem dL_law_221 : decode cL_law 221 = .ok (.iaload, 1) := by decide +kernel
theorem dL_law_222 : decode cL_law 222 = .ok (.i2c, 1) := by decide +kernel
theorem dL_law_223 : decode cL_law 223 = .ok (.aload_n 0, 1) := by decide +kernel
theorem dL_law_224 : decode cL_law 224 = .ok (.iload_n 3, 1) := by decide +kernel
theorem dL_law_225 : decode cL_law 225 = .ok (.iconst 2, 1) := by decide +kernel
theorem dL_law_226 : decode cL_law 226 = .ok (.iadd, 1) := by decide +kernel
theorem dL_law_227 : decode cL_law 227 = .ok (.iaload, 1) := by decide +kernel
theorem dL_law_228 : decode cL_law 228 = .ok (.invokevirtual 23, 3) := by decide +kernel
theorem dL_law_231 : decode cL_law 231 = .ok (.aload_n 2, 1) := by decide +kernel
theorem dL_law_232 : decode cL_law 232 = .ok (.aload_n 0, 1) := by decide +kernel
theorem dL_law_233 : decode cL_law 233 = .ok (.iload_n 3, 1) := by decide +kernel
theorem dL_law_234 : decode cL_law 234 = .ok (.iconst 1, 1) := by decide +kernel
theorem dL_law_235 : decode cL_law 235 = .ok (.iadd, 1) := by decide +kernel
theorem dL_law_236 : decode cL_law 236 = .ok (.iaload, 1) := by decide +kernel
theorem dL_law_237 : decode cL_law 237 = .ok (.i2c, 1) := by decide +kernel
theorem dL_law_238 : decode cL_law 238 = .ok (.aload_n 0, 1) := by decide +kernel
theorem dL_law_239 : decode cL_law 239 = .ok (.iload_n 3, 1) := by decide +kernel
theorem dL_law_240 : decode cL_law 240 = .ok (.iconst 2, 1) := by decide +kernel
theorem dL_law_241 : decode cL_law 241 = .ok (.iadd, 1) := by decide +kernel
theorem dL_law_242 : decode cL_law 242 = .ok (.iaload, 1) := by decide +kernel
theorem dL_law_243 : decode cL_law 243 = .ok (.invokevirtual 27, 3) := by decide +kernel
theorem dL_law_246 : decode cL_law 246 = .ok (.if_icmp .eq 687, 3) := by decide +kernel
theorem dL_law_249 : decode cL_law 249 = .ok (.iconst 0, 1) := by decide +kernel
theorem dL_law_250 : decode cL_law 250 = .ok (.ireturn, 1) := by decide +kernel
theorem dL_law_251 : decode cL_law 251 = .ok (.aload_n 1, 1) := by decide +kernel
theorem dL_law_252 : decode cL_law 252 = .ok (.invokevirtual 28, 3) := by decide +kernel
theorem dL_law_255 : decode cL_law 255 = .ok (.aload_n 2, 1) := by decide +kernel
theorem dL_law_256 : decode cL_law 256 = .ok (.invokevirtual 32, 3) := by decide +kernel
theorem dL_law_259 : decode cL_law 259 = .ok (.if_icmp .eq 674, 3) := by decide +kernel
theorem dL_law_262 : decode cL_law 262 = .ok (.iconst 0, 1) := by decide +kernel
theorem dL_law_263 : decode cL_law 263 = .ok (.ireturn, 1) := by decide +kernel
theorem dL_law_264 : decode cL_law 264 = .ok (.aload_n 1, 1) := by decide +kernel
theorem dL_law_265 : decode cL_law 265 = .ok (.aload_n 0, 1) := by decide +kernel
theorem dL_law_266 : decode cL_law 266 = .ok (.iload_n 3, 1) := by decide +kernel
theorem dL_law_267 : decode cL_law 267 = .ok (.iconst 1, 1) := by decide +kernel
theorem dL_law_268 : decode cL_law 268 = .ok (.iadd, 1) := by decide +kernel
theorem dL_law_269 : decode cL_law 269 = .ok (.iaload, 1) := by decide +kernel
theorem dL_law_270 : decode cL_law 270 = .ok (.aload_n 0, 1) := by decide +kernel
theorem dL_law_271 : decode cL_law 271 = .ok (.iload_n 3, 1) := by decide +kernel
theorem dL_law_272 : decode cL_law 272 = .ok (.iconst 2, 1) := by decide +kernel
theorem dL_law_273 : decode cL_law 273 = .ok (.iadd, 1) := by decide +kernel
theorem dL_law_274 : decode cL_law 274 = .ok (.iaload, 1) := by decide +kernel
theorem dL_law_275 : decode cL_law 275 = .ok (.invokevirtual 33, 3) := by decide +kernel
theorem dL_law_278 : decode cL_law 278 = .ok (.aload_n 2, 1) := by decide +kernel
theorem dL_law_279 : decode cL_law 279 = .ok (.aload_n 0, 1) := by decide +kernel
theorem dL_law_280 : decode cL_law 280 = .ok (.iload_n 3, 1) := by decide +kernel
theorem dL_law_281 : decode cL_law 281 = .ok (.iconst 1, 1) := by decide +kernel
theorem dL_law_282 : decode cL_law 282 = .ok (.iadd, 1) := by decide +kernel
theorem dL_law_283 : decode cL_law 283 = .ok (.iaload, 1) := by decide +kernel
theorem dL_law_284 : decode cL_law 284 = .ok (.aload_n 0, 1) := by decide +kernel
theorem dL_law_285 : decode cL_law 285 = .ok (.iload_n 3, 1) := by decide +kernel
theorem dL_law_286 : decode cL_law 286 = .ok (.iconst 2, 1) := by decide +kernel
theorem dL_law_287 : decode cL_law 287 = .ok (.iadd, 1) := by decide +kernel
theorem dL_law_288 : decode cL_law 288 = .ok (.iaload, 1) := by decide +kernel
theorem dL_law_289 : decode cL_law 289 = .ok (.invokevirtual 37, 3) := by decide +kernel
theorem dL_law_292 : decode cL_law 292 = .ok (.if_icmp .eq 641, 3) := by decide +kernel
theorem dL_law_295 : decode cL_law 295 = .ok (.iconst 0, 1) := by decide +kernel
theorem dL_law_296 : decode cL_law 296 = .ok (.ireturn, 1) := by decide +kernel
theorem dL_law_297 : decode cL_law 297 = .ok (.aload_n 1, 1) := by decide +kernel
theorem dL_law_298 : decode cL_law 298 = .ok (.aload_n 0, 1) := by decide +kernel
theorem dL_law_299 : decode cL_law 299 = .ok (.iload_n 3, 1) := by decide +kernel
theorem dL_law_300 : decode cL_law 300 = .ok (.iconst 1, 1) := by decide +kernel
theorem dL_law_301 : decode cL_law 301 = .ok (.iadd, 1) := by decide +kernel
theorem dL_law_302 : decode cL_law 302 = .ok (.iaload, 1) := by decide +kernel
theorem dL_law_303 : decode cL_law 303 = .ok (.aload_n 0, 1) := by decide +kernel
theorem dL_law_304 : decode cL_law 304 = .ok (.iload_n 3, 1) := by decide +kernel
theorem dL_law_305 : decode cL_law 305 = .ok (.iconst 2, 1) := by decide +kernel
theorem dL_law_306 : decode cL_law 306 = .ok (.iadd, 1) := by decide +kernel
theorem dL_law_307 : decode cL_law 307 = .ok (.iaload, 1) := by decide +kernel
theorem dL_law_308 : decode cL_law 308 = .ok (.invokevirtual 38, 3) := by decide +kernel
theorem dL_law_311 : decode cL_law 311 = .ok (.aload_n 2, 1) := by decide +kernel
theorem dL_law_312 : decode cL_law 312 = .ok (.aload_n 0, 1) := by decide +kernel
theorem dL_law_313 : decode cL_law 313 = .ok (.iload_n 3, 1) := by decide +kernel
theorem dL_law_314 : decode cL_law 314 = .ok (.iconst 1, 1) := by decide +kernel
theorem dL_law_315 : decode cL_law 315 = .ok (.iadd, 1) := by decide +kernel
theorem dL_law_316 : decode cL_law 316 = .ok (.iaload, 1) := by decide +kernel
theorem dL_law_317 : decode cL_law 317 = .ok (.aload_n 0, 1) := by decide +kernel
theorem dL_law_318 : decode cL_law 318 = .ok (.iload_n 3, 1) := by decide +kernel
theorem dL_law_319 : decode cL_law 319 = .ok (.iconst 2, 1) := by decide +kernel
theorem dL_law_320 : decode cL_law 320 = .ok (.iadd, 1) := by decide +kernel
theorem dL_law_321 : decode cL_law 321 = .ok (.iaload, 1) := by decide +kernel
theorem dL_law_322 : decode cL_law 322 = .ok (.invokevirtual 41, 3) := by decide +kernel
theorem dL_law_325 : decode cL_law 325 = .ok (.if_icmp .eq 608, 3) := by decide +kernel
theorem dL_law_328 : decode cL_law 328 = .ok (.iconst 0, 1) := by decide +kernel
theorem dL_law_329 : decode cL_law 329 = .ok (.ireturn, 1) := by decide +kernel
theorem dL_law_330 : decode cL_law 330 = .ok (.aload_n 1, 1) := by decide +kernel
theorem dL_law_331 : decode cL_law 331 = .ok (.aload_n 0, 1) := by decide +kernel
theorem dL_law_332 : decode cL_law 332 = .ok (.iload_n 3, 1) := by decide +kernel
theorem dL_law_333 : decode cL_law 333 = .ok (.iconst 1, 1) := by decide +kernel
theorem dL_law_334 : decode cL_law 334 = .ok (.iadd, 1) := by decide +kernel
theorem dL_law_335 : decode cL_law 335 = .ok (.iaload, 1) := by decide +kernel
theorem dL_law_336 : decode cL_law 336 = .ok (.aload_n 0, 1) := by decide +kernel
theorem dL_law_337 : decode cL_law 337 = .ok (.iload_n 3, 1) := by decide +kernel
theorem dL_law_338 : decode cL_law 338 = .ok (.iconst 2, 1) := by decide +kernel
theorem dL_law_339 : decode cL_law 339 = .ok (.iadd, 1) := by decide +kernel
theorem dL_law_340 : decode cL_law 340 = .ok (.iaload, 1) := by decide +kernel
theorem dL_law_341 : decode cL_law 341 = .ok (.invokevirtual 42, 3) := by decide +kernel
theorem dL_law_344 : decode cL_law 344 = .ok (.aload_n 2, 1) := by decide +kernel
theorem dL_law_345 : decode cL_law 345 = .ok (.aload_n 0, 1) := by decide +kernel
theorem dL_law_346 : decode cL_law 346 = .ok (.iload_n 3, 1) := by decide +kernel
theorem dL_law_347 : decode cL_law 347 = .ok (.iconst 1, 1) := by decide +kernel
theorem dL_law_348 : decode cL_law 348 = .ok (.iadd, 1) := by decide +kernel
theorem dL_law_349 : decode cL_law 349 = .ok (.iaload, 1) := by decide +kernel
theorem dL_law_350 : decode cL_law 350 = .ok (.aload_n 0, 1) := by decide +kernel
theorem dL_law_351 : decode cL_law 351 = .ok (.iload_n 3, 1) := by decide +kernel
theorem dL_law_352 : decode cL_law 352 = .ok (.iconst 2, 1) := by decide +kernel
theorem dL_law_353 : decode cL_law 353 = .ok (.iadd, 1) := by decide +kernel
theorem dL_law_354 : decode cL_law 354 = .ok (.iaload, 1) := by decide +kernel
theorem dL_law_355 : decode cL_law 355 = .ok (.invokevirtual 45, 3) := by decide +kernel
theorem dL_law_358 : decode cL_law 358 = .ok (.if_icmp .eq 575, 3) := by decide +kernel
theorem dL_law_361 : decode cL_law 361 = .ok (.iconst 0, 1) := by decide +kernel
theorem dL_law_362 : decode cL_law 362 = .ok (.ireturn, 1) := by decide +kernel
theorem dL_law_363 : decode cL_law 363 = .ok (.aload_n 1, 1) := by decide +kernel
theorem dL_law_364 : decode cL_law 364 = .ok (.aload_n 0, 1) := by decide +kernel
theorem dL_law_365 : decode cL_law 365 = .ok (.iload_n 3, 1) := by decide +kernel
theorem dL_law_366 : decode cL_law 366 = .ok (.iconst 1, 1) := by decide +kernel
theorem dL_law_367 : decode cL_law 367 = .ok (.iadd, 1) := by decide +kernel
theorem dL_law_368 : decode cL_law 368 = .ok (.iaload, 1) := by decide +kernel
theorem dL_law_369 : decode cL_law 369 = .ok (.invokevirtual 46, 3) := by decide +kernel
theorem dL_law_372 : decode cL_law 372 = .ok (.aload_n 2, 1) := by decide +kernel
theorem dL_law_373 : decode cL_law 373 = .ok (.aload_n 0, 1) := by decide +kernel
theorem dL_law_374 : decode cL_law 374 = .ok (.iload_n 3, 1) := by decide +kernel
theorem dL_law_375 : decode cL_law 375 = .ok (.iconst 1, 1) := by decide +kernel
theorem dL_law_376 : decode cL_law 376 = .ok (.iadd, 1) := by decide +kernel
theorem dL_law_377 : decode cL_law 377 = .ok (.iaload, 1) := by decide +kernel
theorem dL_law_378 : decode cL_law 378 = .ok (.invokevirtual 49, 3) := by decide +kernel
theorem dL_law_381 : decode cL_law 381 = .ok (.if_icmp .eq 552, 3) := by decide +kernel
theorem dL_law_384 : decode cL_law 384 = .ok (.iconst 0, 1) := by decide +kernel
theorem dL_law_385 : decode cL_law 385 = .ok (.ireturn, 1) := by decide +kernel
theorem dL_law_386 : decode cL_law 386 = .ok (.aload_n 1, 1) := by decide +kernel
theorem dL_law_387 : decode cL_law 387 = .ok (.aload_n 0, 1) := by decide +kernel
theorem dL_law_388 : decode cL_law 388 = .ok (.iload_n 3, 1) := by decide +kernel
theorem dL_law_389 : decode cL_law 389 = .ok (.iconst 1, 1) := by decide +kernel
theorem dL_law_390 : decode cL_law 390 = .ok (.iadd, 1) := by decide +kernel
theorem dL_law_391 : decode cL_law 391 = .ok (.iaload, 1) := by decide +kernel
theorem dL_law_392 : decode cL_law 392 = .ok (.i2c, 1) := by decide +kernel
theorem dL_law_393 : decode cL_law 393 = .ok (.invokevirtual 50, 3) := by decide +kernel
theorem dL_law_396 : decode cL_law 396 = .ok (.aload_n 2, 1) := by decide +kernel
theorem dL_law_397 : decode cL_law 397 = .ok (.aload_n 0, 1) := by decide +kernel
theorem dL_law_398 : decode cL_law 398 = .ok (.iload_n 3, 1) := by decide +kernel
theorem dL_law_399 : decode cL_law 399 = .ok (.iconst 1, 1) := by decide +kernel
theorem dL_law_400 : decode cL_law 400 = .ok (.iadd, 1) := by decide +kernel
theorem dL_law_401 : decode cL_law 401 = .ok (.iaload, 1) := by decide +kernel
theorem dL_law_402 : decode cL_law 402 = .ok (.i2c, 1) := by decide +kernel
theorem dL_law_403 : decode cL_law 403 = .ok (.invokevirtual 54, 3) := by decide +kernel
theorem dL_law_406 : decode cL_law 406 = .ok (.if_icmp .eq 527, 3) := by decide +kernel
theorem dL_law_409 : decode cL_law 409 = .ok (.iconst 0, 1) := by decide +kernel
theorem dL_law_410 : decode cL_law 410 = .ok (.ireturn, 1) := by decide +kernel
theorem dL_law_411 : decode cL_law 411 = .ok (.aload_n 1, 1) := by decide +kernel
theorem dL_law_412 : decode cL_law 412 = .ok (.invokevirtual 55, 3) := by decide +kernel
theorem dL_law_415 : decode cL_law 415 = .ok (.aload_n 2, 1) := by decide +kernel
theorem dL_law_416 : decode cL_law 416 = .ok (.invokevirtual 58, 3) := by decide +kernel
theorem dL_law_419 : decode cL_law 419 = .ok (.if_icmp .eq 514, 3) := by decide +kernel
theorem dL_law_422 : decode cL_law 422 = .ok (.iconst 0, 1) := by decide +kernel
theorem dL_law_423 : decode cL_law 423 = .ok (.ireturn, 1) := by decide +kernel
theorem dL_law_424 : decode cL_law 424 = .ok (.aload_n 1, 1) := by decide +kernel
theorem dL_law_425 : decode cL_law 425 = .ok (.invokevirtual 59, 3) := by decide +kernel
theorem dL_law_428 : decode cL_law 428 = .ok (.aload_n 2, 1) := by decide +kernel
theorem dL_law_429 : decode cL_law 429 = .ok (.invokevirtual 62, 3) := by decide +kernel
theorem dL_law_432 : decode cL_law 432 = .ok (.if_icmp .eq 501, 3) := by decide +kernel
theorem dL_law_435 : decode cL_law 435 = .ok (.iconst 0, 1) := by decide +kernel
theorem dL_law_436 : decode cL_law 436 = .ok (.ireturn, 1) := by decide +kernel
theorem dL_law_437 : decode cL_law 437 = .ok (.aload_n 1, 1) := by decide +kernel
theorem dL_law_438 : decode cL_law 438 = .ok (.invokevirtual 63, 3) := by decide +kernel
theorem dL_law_441 : decode cL_law 441 = .ok (.aload_n 2, 1) := by decide +kernel
theorem dL_law_442 : decode cL_law 442 = .ok (.invokevirtual 66, 3) := by decide +kernel
theorem dL_law_445 : decode cL_law 445 = .ok (.if_icmp .eq 488, 3) := by decide +kernel
theorem dL_law_448 : decode cL_law 448 = .ok (.iconst 0, 1) := by decide +kernel
theorem dL_law_449 : decode cL_law 449 = .ok (.ireturn, 1) := by decide +kernel
theorem dL_law_450 : decode cL_law 450 = .ok (.aload_n 1, 1) := by decide +kernel
theorem dL_law_451 : decode cL_law 451 = .ok (.invokevirtual 67, 3) := by decide +kernel
theorem dL_law_454 : decode cL_law 454 = .ok (.aload_n 2, 1) := by decide +kernel
theorem dL_law_455 : decode cL_law 455 = .ok (.invokevirtual 70, 3) := by decide +kernel
theorem dL_law_458 : decode cL_law 458 = .ok (.if_icmp .eq 475, 3) := by decide +kernel
theorem dL_law_461 : decode cL_law 461 = .ok (.iconst 0, 1) := by decide +kernel
theorem dL_law_462 : decode cL_law 462 = .ok (.ireturn, 1) := by decide +kernel
theorem dL_law_463 : decode cL_law 463 = .ok (.aload_n 1, 1) := by decide +kernel
theorem dL_law_464 : decode cL_law 464 = .ok (.invokevirtual 71, 3) := by decide +kernel
theorem dL_law_467 : decode cL_law 467 = .ok (.aload_n 2, 1) := by decide +kernel
theorem dL_law_468 : decode cL_law 468 = .ok (.invokevirtual 74, 3) := by decide +kernel
theorem dL_law_471 : decode cL_law 471 = .ok (.if_icmp .eq 462, 3) := by decide +kernel
theorem dL_law_474 : decode cL_law 474 = .ok (.iconst 0, 1) := by decide +kernel
theorem dL_law_475 : decode cL_law 475 = .ok (.ireturn, 1) := by decide +kernel
theorem dL_law_476 : decode cL_law 476 = .ok (.aload_n 1, 1) := by decide +kernel
theorem dL_law_477 : decode cL_law 477 = .ok (.aload_n 0, 1) := by decide +kernel
theorem dL_law_478 : decode cL_law 478 = .ok (.iload_n 3, 1) := by decide +kernel
theorem dL_law_479 : decode cL_law 479 = .ok (.iconst 1, 1) := by decide +kernel
theorem dL_law_480 : decode cL_law 480 = .ok (.iadd, 1) := by decide +kernel
theorem dL_law_481 : decode cL_law 481 = .ok (.iaload, 1) := by decide +kernel
theorem dL_law_482 : decode cL_law 482 = .ok (.aload_n 0, 1) := by decide +kernel
theorem dL_law_483 : decode cL_law 483 = .ok (.iload_n 3, 1) := by decide +kernel
theorem dL_law_484 : decode cL_law 484 = .ok (.iconst 2, 1) := by decide +kernel
theorem dL_law_485 : decode cL_law 485 = .ok (.iadd, 1) := by decide +kernel
theorem dL_law_486 : decode cL_law 486 = .ok (.iaload, 1) := by decide +kernel
theorem dL_law_487 : decode cL_law 487 = .ok (.invokevirtual 75, 3) := by decide +kernel
theorem dL_law_490 : decode cL_law 490 = .ok (.aload_n 2, 1) := by decide +kernel
theorem dL_law_491 : decode cL_law 491 = .ok (.aload_n 0, 1) := by decide +kernel
theorem dL_law_492 : decode cL_law 492 = .ok (.iload_n 3, 1) := by decide +kernel
theorem dL_law_493 : decode cL_law 493 = .ok (.iconst 1, 1) := by decide +kernel
theorem dL_law_494 : decode cL_law 494 = .ok (.iadd, 1) := by decide +kernel
theorem dL_law_495 : decode cL_law 495 = .ok (.iaload, 1) := by decide +kernel
theorem dL_law_496 : decode cL_law 496 = .ok (.aload_n 0, 1) := by decide +kernel
theorem dL_law_497 : decode cL_law 497 = .ok (.iload_n 3, 1) := by decide +kernel
theorem dL_law_498 : decode cL_law 498 = .ok (.iconst 2, 1) := by decide +kernel
theorem dL_law_499 : decode cL_law 499 = .ok (.iadd, 1) := by decide +kernel
theorem dL_law_500 : decode cL_law 500 = .ok (.iaload, 1) := by decide +kernel
theorem dL_law_501 : decode cL_law 501 = .ok (.invokevirtual 78, 3) := by decide +kernel
theorem dL_law_504 : decode cL_law 504 = .ok (.if_icmp .eq 429, 3) := by decide +kernel
theorem dL_law_507 : decode cL_law 507 = .ok (.iconst 0, 1) := by decide +kernel
theorem dL_law_508 : decode cL_law 508 = .ok (.ireturn, 1) := by decide +kernel
theorem dL_law_509 : decode cL_law 509 = .ok (.aload_n 1, 1) := by decide +kernel
theorem dL_law_510 : decode cL_law 510 = .ok (.aload_n 0, 1) := by decide +kernel
theorem dL_law_511 : decode cL_law 511 = .ok (.iload_n 3, 1) := by decide +kernel
theorem dL_law_512 : decode cL_law 512 = .ok (.iconst 1, 1) := by decide +kernel
theorem dL_law_513 : decode cL_law 513 = .ok (.iadd, 1) := by decide +kernel
theorem dL_law_514 : decode cL_law 514 = .ok (.iaload, 1) := by decide +kernel
theorem dL_law_515 : decode cL_law 515 = .ok (.aload_n 0, 1) := by decide +kernel
theorem dL_law_516 : decode cL_law 516 = .ok (.iload_n 3, 1) := by decide +kernel
theorem dL_law_517 : decode cL_law 517 = .ok (.iconst 2, 1) := by decide +kernel
theorem dL_law_518 : decode cL_law 518 = .ok (.iadd, 1) := by decide +kernel
theorem dL_law_519 : decode cL_law 519 = .ok (.iaload, 1) := by decide +kernel
theorem dL_law_520 : decode cL_law 520 = .ok (.i2c, 1) := by decide +kernel
theorem dL_law_521 : decode cL_law 521 = .ok (.aload_n 0, 1) := by decide +kernel
theorem dL_law_522 : decode cL_law 522 = .ok (.iload_n 3, 1) := by decide +kernel
theorem dL_law_523 : decode cL_law 523 = .ok (.iconst 3, 1) := by decide +kernel
theorem dL_law_524 : decode cL_law 524 = .ok (.iadd, 1) := by decide +kernel
theorem dL_law_525 : decode cL_law 525 = .ok (.iaload, 1) := by decide +kernel
theorem dL_law_526 : decode cL_law 526 = .ok (.invokevirtual 79, 3) := by decide +kernel
theorem dL_law_529 : decode cL_law 529 = .ok (.aload_n 2, 1) := by decide +kernel
theorem dL_law_530 : decode cL_law 530 = .ok (.aload_n 0, 1) := by decide +kernel
theorem dL_law_531 : decode cL_law 531 = .ok (.iload_n 3, 1) := by decide +kernel
theorem dL_law_532 : decode cL_law 532 = .ok (.iconst 1, 1) := by decide +kernel
theorem dL_law_533 : decode cL_law 533 = .ok (.iadd, 1) := by decide +kernel
theorem dL_law_534 : decode cL_law 534 = .ok (.iaload, 1) := by decide +kernel
theorem dL_law_535 : decode cL_law 535 = .ok (.aload_n 0, 1) := by decide +kernel
theorem dL_law_536 : decode cL_law 536 = .ok (.iload_n 3, 1) := by decide +kernel
theorem dL_law_537 : decode cL_law 537 = .ok (.iconst 2, 1) := by decide +kernel
theorem dL_law_538 : decode cL_law 538 = .ok (.iadd, 1) := by decide +kernel
theorem dL_law_539 : decode cL_law 539 = .ok (.iaload, 1) := by decide +kernel
theorem dL_law_540 : decode cL_law 540 = .ok (.i2c, 1) := by decide +kernel
theorem dL_law_541 : decode cL_law 541 = .ok (.aload_n 0, 1) := by decide +kernel
theorem dL_law_542 : decode cL_law 542 = .ok (.iload_n 3, 1) := by decide +kernel
theorem dL_law_543 : decode cL_law 543 = .ok (.iconst 3, 1) := by decide +kernel
theorem dL_law_544 : decode cL_law 544 = .ok (.iadd, 1) := by decide +kernel
theorem dL_law_545 : decode cL_law 545 = .ok (.iaload, 1) := by decide +kernel
theorem dL_law_546 : decode cL_law 546 = .ok (.invokevirtual 82, 3) := by decide +kernel
theorem dL_law_549 : decode cL_law 549 = .ok (.if_icmp .eq 384, 3) := by decide +kernel
theorem dL_law_552 : decode cL_law 552 = .ok (.iconst 0, 1) := by decide +kernel
theorem dL_law_553 : decode cL_law 553 = .ok (.ireturn, 1) := by decide +kernel
theorem dL_law_554 : decode cL_law 554 = .ok (.aload_n 1, 1) := by decide +kernel
theorem dL_law_555 : decode cL_law 555 = .ok (.aload_n 0, 1) := by decide +kernel
theorem dL_law_556 : decode cL_law 556 = .ok (.iload_n 3, 1) := by decide +kernel
theorem dL_law_557 : decode cL_law 557 = .ok (.iconst 1, 1) := by decide +kernel
theorem dL_law_558 : decode cL_law 558 = .ok (.iadd, 1) := by decide +kernel
theorem dL_law_559 : decode cL_law 559 = .ok (.iaload, 1) := by decide +kernel
theorem dL_law_560 : decode cL_law 560 = .ok (.aload_n 0, 1) := by decide +kernel
theorem dL_law_561 : decode cL_law 561 = .ok (.iload_n 3, 1) := by decide +kernel
theorem dL_law_562 : decode cL_law 562 = .ok (.iconst 2, 1) := by decide +kernel
theorem dL_law_563 : decode cL_law 563 = .ok (.iadd, 1) := by decide +kernel
theorem dL_law_564 : decode cL_law 564 = .ok (.iaload, 1) := by decide +kernel
theorem dL_law_565 : decode cL_law 565 = .ok (.aload_n 0, 1) := by decide +kernel
theorem dL_law_566 : decode cL_law 566 = .ok (.iload_n 3, 1) := by decide +kernel
theorem dL_law_567 : decode cL_law 567 = .ok (.iconst 3, 1) := by decide +kernel
theorem dL_law_568 : decode cL_law 568 = .ok (.iadd, 1) := by decide +kernel
theorem dL_law_569 : decode cL_law 569 = .ok (.iaload, 1) := by decide +kernel
theorem dL_law_570 : decode cL_law 570 = .ok (.invokevirtual 83, 3) := by decide +kernel
theorem dL_law_573 : decode cL_law 573 = .ok (.aload_n 2, 1) := by decide +kernel
theorem dL_law_574 : decode cL_law 574 = .ok (.aload_n 0, 1) := by decide +kernel
theorem dL_law_575 : decode cL_law 575 = .ok (.iload_n 3, 1) := by decide +kernel
theorem dL_law_576 : decode cL_law 576 = .ok (.iconst 1, 1) := by decide +kernel
theorem dL_law_577 : decode cL_law 577 = .ok (.iadd, 1) := by decide +kernel
theorem dL_law_578 : decode cL_law 578 = .ok (.iaload, 1) := by decide +kernel
theorem dL_law_579 : decode cL_law 579 = .ok (.aload_n 0, 1) := by decide +kernel
theorem dL_law_580 : decode cL_law 580 = .ok (.iload_n 3, 1) := by decide +kernel
theorem dL_law_581 : decode cL_law 581 = .ok (.iconst 2, 1) := by decide +kernel
theorem dL_law_582 : decode cL_law 582 = .ok (.iadd, 1) := by decide +kernel
theorem dL_law_583 : decode cL_law 583 = .ok (.iaload, 1) := by decide +kernel
theorem dL_law_584 : decode cL_law 584 = .ok (.aload_n 0, 1) := by decide +kernel
theorem dL_law_585 : decode cL_law 585 = .ok (.iload_n 3, 1) := by decide +kernel
theorem dL_law_586 : decode cL_law 586 = .ok (.iconst 3, 1) := by decide +kernel
theorem dL_law_587 : decode cL_law 587 = .ok (.iadd, 1) := by decide +kernel
theorem dL_law_588 : decode cL_law 588 = .ok (.iaload, 1) := by decide +kernel
theorem dL_law_589 : decode cL_law 589 = .ok (.invokevirtual 87, 3) := by decide +kernel
theorem dL_law_592 : decode cL_law 592 = .ok (.if_icmp .eq 341, 3) := by decide +kernel
theorem dL_law_595 : decode cL_law 595 = .ok (.iconst 0, 1) := by decide +kernel
theorem dL_law_596 : decode cL_law 596 = .ok (.ireturn, 1) := by decide +kernel
theorem dL_law_597 : decode cL_law 597 = .ok (.aload_n 1, 1) := by decide +kernel
theorem dL_law_598 : decode cL_law 598 = .ok (.aload_n 0, 1) := by decide +kernel
theorem dL_law_599 : decode cL_law 599 = .ok (.iload_n 3, 1) := by decide +kernel
theorem dL_law_600 : decode cL_law 600 = .ok (.iconst 1, 1) := by decide +kernel
theorem dL_law_601 : decode cL_law 601 = .ok (.iadd, 1) := by decide +kernel
theorem dL_law_602 : decode cL_law 602 = .ok (.iaload, 1) := by decide +kernel
theorem dL_law_603 : decode cL_law 603 = .ok (.aload_n 0, 1) := by decide +kernel
theorem dL_law_604 : decode cL_law 604 = .ok (.iload_n 3, 1) := by decide +kernel
theorem dL_law_605 : decode cL_law 605 = .ok (.iconst 2, 1) := by decide +kernel
theorem dL_law_606 : decode cL_law 606 = .ok (.iadd, 1) := by decide +kernel
theorem dL_law_607 : decode cL_law 607 = .ok (.iaload, 1) := by decide +kernel
theorem dL_law_608 : decode cL_law 608 = .ok (.aload_n 0, 1) := by decide +kernel
theorem dL_law_609 : decode cL_law 609 = .ok (.iload_n 3, 1) := by decide +kernel
theorem dL_law_610 : decode cL_law 610 = .ok (.iconst 3, 1) := by decide +kernel
theorem dL_law_611 : decode cL_law 611 = .ok (.iadd, 1) := by decide +kernel
theorem dL_law_612 : decode cL_law 612 = .ok (.iaload, 1) := by decide +kernel
theorem dL_law_613 : decode cL_law 613 = .ok (.ifCond .eq 7, 3) := by decide +kernel
theorem dL_law_616 : decode cL_law 616 = .ok (.iconst 1, 1) := by decide +kernel
theorem dL_law_617 : decode cL_law 617 = .ok (.goto 4, 3) := by decide +kernel
theorem dL_law_620 : decode cL_law 620 = .ok (.iconst 0, 1) := by decide +kernel
theorem dL_law_621 : decode cL_law 621 = .ok (.invokevirtual 88, 3) := by decide +kernel
theorem dL_law_624 : decode cL_law 624 = .ok (.aload_n 2, 1) := by decide +kernel
theorem dL_law_625 : decode cL_law 625 = .ok (.aload_n 0, 1) := by decide +kernel
theorem dL_law_626 : decode cL_law 626 = .ok (.iload_n 3, 1) := by decide +kernel
theorem dL_law_627 : decode cL_law 627 = .ok (.iconst 1, 1) := by decide +kernel
theorem dL_law_628 : decode cL_law 628 = .ok (.iadd, 1) := by decide +kernel
theorem dL_law_629 : decode cL_law 629 = .ok (.iaload, 1) := by decide +kernel
theorem dL_law_630 : decode cL_law 630 = .ok (.aload_n 0, 1) := by decide +kernel
theorem dL_law_631 : decode cL_law 631 = .ok (.iload_n 3, 1) := by decide +kernel
theorem dL_law_632 : decode cL_law 632 = .ok (.iconst 2, 1) := by decide +kernel
theorem dL_law_633 : decode cL_law 633 = .ok (.iadd, 1) := by decide +kernel
theorem dL_law_634 : decode cL_law 634 = .ok (.iaload, 1) := by decide +kernel
theorem dL_law_635 : decode cL_law 635 = .ok (.aload_n 0, 1) := by decide +kernel
theorem dL_law_636 : decode cL_law 636 = .ok (.iload_n 3, 1) := by decide +kernel
theorem dL_law_637 : decode cL_law 637 = .ok (.iconst 3, 1) := by decide +kernel
theorem dL_law_638 : decode cL_law 638 = .ok (.iadd, 1) := by decide +kernel
theorem dL_law_639 : decode cL_law 639 = .ok (.iaload, 1) := by decide +kernel
theorem dL_law_640 : decode cL_law 640 = .ok (.ifCond .eq 7, 3) := by decide +kernel
theorem dL_law_643 : decode cL_law 643 = .ok (.iconst 1, 1) := by decide +kernel
theorem dL_law_644 : decode cL_law 644 = .ok (.goto 4, 3) := by decide +kernel
theorem dL_law_647 : decode cL_law 647 = .ok (.iconst 0, 1) := by decide +kernel
theorem dL_law_648 : decode cL_law 648 = .ok (.invokevirtual 92, 3) := by decide +kernel
theorem dL_law_651 : decode cL_law 651 = .ok (.if_icmp .eq 282, 3) := by decide +kernel
theorem dL_law_654 : decode cL_law 654 = .ok (.iconst 0, 1) := by decide +kernel
theorem dL_law_655 : decode cL_law 655 = .ok (.ireturn, 1) := by decide +kernel
theorem dL_law_656 : decode cL_law 656 = .ok (.aload_n 1, 1) := by decide +kernel
theorem dL_law_657 : decode cL_law 657 = .ok (.aload_n 0, 1) := by decide +kernel
theorem dL_law_658 : decode cL_law 658 = .ok (.iload_n 3, 1) := by decide +kernel
theorem dL_law_659 : decode cL_law 659 = .ok (.iconst 1, 1) := by decide +kernel
theorem dL_law_660 : decode cL_law 660 = .ok (.iadd, 1) := by decide +kernel
theorem dL_law_661 : decode cL_law 661 = .ok (.iaload, 1) := by decide +kernel
theorem dL_law_662 : decode cL_law 662 = .ok (.aload_n 0, 1) := by decide +kernel
theorem dL_law_663 : decode cL_law 663 = .ok (.iload_n 3, 1) := by decide +kernel
theorem dL_law_664 : decode cL_law 664 = .ok (.iconst 2, 1) := by decide +kernel
theorem dL_law_665 : decode cL_law 665 = .ok (.iadd, 1) := by decide +kernel
theorem dL_law_666 : decode cL_law 666 = .ok (.iaload, 1) := by decide +kernel
theorem dL_law_667 : decode cL_law 667 = .ok (.aload_n 0, 1) := by decide +kernel
theorem dL_law_668 : decode cL_law 668 = .ok (.iload_n 3, 1) := by decide +kernel
theorem dL_law_669 : decode cL_law 669 = .ok (.iconst 3, 1) := by decide +kernel
theorem dL_law_670 : decode cL_law 670 = .ok (.iadd, 1) := by decide +kernel
theorem dL_law_671 : decode cL_law 671 = .ok (.iaload, 1) := by decide +kernel
theorem dL_law_672 : decode cL_law 672 = .ok (.ifCond .eq 7, 3) := by decide +kernel
theorem dL_law_675 : decode cL_law 675 = .ok (.iconst 1, 1) := by decide +kernel
theorem dL_law_676 : decode cL_law 676 = .ok (.goto 4, 3) := by decide +kernel
theorem dL_law_679 : decode cL_law 679 = .ok (.iconst 0, 1) := by decide +kernel
theorem dL_law_680 : decode cL_law 680 = .ok (.invokevirtual 93, 3) := by decide +kernel
theorem dL_law_683 : decode cL_law 683 = .ok (.aload_n 2, 1) := by decide +kernel
theorem dL_law_684 : decode cL_law 684 = .ok (.aload_n 0, 1) := by decide +kernel
theorem dL_law_685 : decode cL_law 685 = .ok (.iload_n 3, 1) := by decide +kernel
theorem dL_law_686 : decode cL_law 686 = .ok (.iconst 1, 1) := by decide +kernel
theorem dL_law_687 : decode cL_law 687 = .ok (.iadd, 1) := by decide +kernel
theorem dL_law_688 : decode cL_law 688 = .ok (.iaload, 1) := by decide +kernel
theorem dL_law_689 : decode cL_law 689 = .ok (.aload_n 0, 1) := by decide +kernel
theorem dL_law_690 : decode cL_law 690 = .ok (.iload_n 3, 1) := by decide +kernel
theorem dL_law_691 : decode cL_law 691 = .ok (.iconst 2, 1) := by decide +kernel
theorem dL_law_692 : decode cL_law 692 = .ok (.iadd, 1) := by decide +kernel
theorem dL_law_693 : decode cL_law 693 = .ok (.iaload, 1) := by decide +kernel
theorem dL_law_694 : decode cL_law 694 = .ok (.aload_n 0, 1) := by decide +kernel
theorem dL_law_695 : decode cL_law 695 = .ok (.iload_n 3, 1) := by decide +kernel
theorem dL_law_696 : decode cL_law 696 = .ok (.iconst 3, 1) := by decide +kernel
theorem dL_law_697 : decode cL_law 697 = .ok (.iadd, 1) := by decide +kernel
theorem dL_law_698 : decode cL_law 698 = .ok (.iaload, 1) := by decide +kernel
theorem dL_law_699 : decode cL_law 699 = .ok (.ifCond .eq 7, 3) := by decide +kernel
theorem dL_law_702 : decode cL_law 702 = .ok (.iconst 1, 1) := by decide +kernel
theorem dL_law_703 : decode cL_law 703 = .ok (.goto 4, 3) := by decide +kernel
theorem dL_law_706 : decode cL_law 706 = .ok (.iconst 0, 1) := by decide +kernel
theorem dL_law_707 : decode cL_law 707 = .ok (.invokevirtual 96, 3) := by decide +kernel
theorem dL_law_710 : decode cL_law 710 = .ok (.if_icmp .eq 223, 3) := by decide +kernel
theorem dL_law_713 : decode cL_law 713 = .ok (.iconst 0, 1) := by decide +kernel
theorem dL_law_714 : decode cL_law 714 = .ok (.ireturn, 1) := by decide +kernel
theorem dL_law_715 : decode cL_law 715 = .ok (.aload_n 1, 1) := by decide +kernel
theorem dL_law_716 : decode cL_law 716 = .ok (.aload_n 0, 1) := by decide +kernel
theorem dL_law_717 : decode cL_law 717 = .ok (.iload_n 3, 1) := by decide +kernel
theorem dL_law_718 : decode cL_law 718 = .ok (.iconst 1, 1) := by decide +kernel
theorem dL_law_719 : decode cL_law 719 = .ok (.iadd, 1) := by decide +kernel
theorem dL_law_720 : decode cL_law 720 = .ok (.iaload, 1) := by decide +kernel
theorem dL_law_721 : decode cL_law 721 = .ok (.aload_n 0, 1) := by decide +kernel
theorem dL_law_722 : decode cL_law 722 = .ok (.iload_n 3, 1) := by decide +kernel
theorem dL_law_723 : decode cL_law 723 = .ok (.iconst 2, 1) := by decide +kernel
theorem dL_law_724 : decode cL_law 724 = .ok (.iadd, 1) := by decide +kernel
theorem dL_law_725 : decode cL_law 725 = .ok (.iaload, 1) := by decide +kernel
theorem dL_law_726 : decode cL_law 726 = .ok (.i2c, 1) := by decide +kernel
theorem dL_law_727 : decode cL_law 727 = .ok (.aload_n 0, 1) := by decide +kernel
theorem dL_law_728 : decode cL_law 728 = .ok (.iload_n 3, 1) := by decide +kernel
theorem dL_law_729 : decode cL_law 729 = .ok (.iconst 3, 1) := by decide +kernel
theorem dL_law_730 : decode cL_law 730 = .ok (.iadd, 1) := by decide +kernel
theorem dL_law_731 : decode cL_law 731 = .ok (.iaload, 1) := by decide +kernel
theorem dL_law_732 : decode cL_law 732 = .ok (.ifCond .eq 7, 3) := by decide +kernel
theorem dL_law_735 : decode cL_law 735 = .ok (.iconst 1, 1) := by decide +kernel
theorem dL_law_736 : decode cL_law 736 = .ok (.goto 4, 3) := by decide +kernel
theorem dL_law_739 : decode cL_law 739 = .ok (.iconst 0, 1) := by decide +kernel
theorem dL_law_740 : decode cL_law 740 = .ok (.invokevirtual 97, 3) := by decide +kernel
theorem dL_law_743 : decode cL_law 743 = .ok (.aload_n 2, 1) := by decide +kernel
theorem dL_law_744 : decode cL_law 744 = .ok (.aload_n 0, 1) := by decide +kernel
theorem dL_law_745 : decode cL_law 745 = .ok (.iload_n 3, 1) := by decide +kernel
theorem dL_law_746 : decode cL_law 746 = .ok (.iconst 1, 1) := by decide +kernel
theorem dL_law_747 : decode cL_law 747 = .ok (.iadd, 1) := by decide +kernel
theorem dL_law_748 : decode cL_law 748 = .ok (.iaload, 1) := by decide +kernel
theorem dL_law_749 : decode cL_law 749 = .ok (.aload_n 0, 1) := by decide +kernel
theorem dL_law_750 : decode cL_law 750 = .ok (.iload_n 3, 1) := by decide +kernel
theorem dL_law_751 : decode cL_law 751 = .ok (.iconst 2, 1) := by decide +kernel
theorem dL_law_752 : decode cL_law 752 = .ok (.iadd, 1) := by decide +kernel
theorem dL_law_753 : decode cL_law 753 = .ok (.iaload, 1) := by decide +kernel
theorem dL_law_754 : decode cL_law 754 = .ok (.i2c, 1) := by decide +kernel
theorem dL_law_755 : decode cL_law 755 = .ok (.aload_n 0, 1) := by decide +kernel
theorem dL_law_756 : decode cL_law 756 = .ok (.iload_n 3, 1) := by decide +kernel
theorem dL_law_757 : decode cL_law 757 = .ok (.iconst 3, 1) := by decide +kernel
theorem dL_law_758 : decode cL_law 758 = .ok (.iadd, 1) := by decide +kernel
theorem dL_law_759 : decode cL_law 759 = .ok (.iaload, 1) := by decide +kernel
theorem dL_law_760 : decode cL_law 760 = .ok (.ifCond .eq 7, 3) := by decide +kernel
theorem dL_law_763 : decode cL_law 763 = .ok (.iconst 1, 1) := by decide +kernel
theorem dL_law_764 : decode cL_law 764 = .ok (.goto 4, 3) := by decide +kernel
theorem dL_law_767 : decode cL_law 767 = .ok (.iconst 0, 1) := by decide +kernel
theorem dL_law_768 : decode cL_law 768 = .ok (.invokevirtual 101, 3) := by decide +kernel
theorem dL_law_771 : decode cL_law 771 = .ok (.if_icmp .eq 162, 3) := by decide +kernel
theorem dL_law_774 : decode cL_law 774 = .ok (.iconst 0, 1) := by decide +kernel
theorem dL_law_775 : decode cL_law 775 = .ok (.ireturn, 1) := by decide +kernel
theorem dL_law_776 : decode cL_law 776 = .ok (.aload_n 1, 1) := by decide +kernel
theorem dL_law_777 : decode cL_law 777 = .ok (.aload_n 0, 1) := by decide +kernel
theorem dL_law_778 : decode cL_law 778 = .ok (.iload_n 3, 1) := by decide +kernel
theorem dL_law_779 : decode cL_law 779 = .ok (.iconst 1, 1) := by decide +kernel
theorem dL_law_780 : decode cL_law 780 = .ok (.iadd, 1) := by decide +kernel
theorem dL_law_781 : decode cL_law 781 = .ok (.iaload, 1) := by decide +kernel
theorem dL_law_782 : decode cL_law 782 = .ok (.aload_n 0, 1) := by decide +kernel
theorem dL_law_783 : decode cL_law 783 = .ok (.iload_n 3, 1) := by decide +kernel
theorem dL_law_784 : decode cL_law 784 = .ok (.iconst 2, 1) := by decide +kernel
theorem dL_law_785 : decode cL_law 785 = .ok (.iadd, 1) := by decide +kernel
theorem dL_law_786 : decode cL_law 786 = .ok (.iaload, 1) := by decide +kernel
theorem dL_law_787 : decode cL_law 787 = .ok (.invokevirtual 102, 3) := by decide +kernel
theorem dL_law_790 : decode cL_law 790 = .ok (.aload_n 2, 1) := by decide +kernel
theorem dL_law_791 : decode cL_law 791 = .ok (.aload_n 0, 1) := by decide +kernel
theorem dL_law_792 : decode cL_law 792 = .ok (.iload_n 3, 1) := by decide +kernel
theorem dL_law_793 : decode cL_law 793 = .ok (.iconst 1, 1) := by decide +kernel
theorem dL_law_794 : decode cL_law 794 = .ok (.iadd, 1) := by decide +kernel
theorem dL_law_795 : decode cL_law 795 = .ok (.iaload, 1) := by decide +kernel
theorem dL_law_796 : decode cL_law 796 = .ok (.aload_n 0, 1) := by decide +kernel
theorem dL_law_797 : decode cL_law 797 = .ok (.iload_n 3, 1) := by decide +kernel
theorem dL_law_798 : decode cL_law 798 = .ok (.iconst 2, 1) := by decide +kernel
theorem dL_law_799 : decode cL_law 799 = .ok (.iadd, 1) := by decide +kernel
theorem dL_law_800 : decode cL_law 800 = .ok (.iaload, 1) := by decide +kernel
theorem dL_law_801 : decode cL_law 801 = .ok (.invokevirtual 105, 3) := by decide +kernel
theorem dL_law_804 : decode cL_law 804 = .ok (.if_icmp .eq 129, 3) := by decide +kernel
theorem dL_law_807 : decode cL_law 807 = .ok (.iconst 0, 1) := by decide +kernel
theorem dL_law_808 : decode cL_law 808 = .ok (.ireturn, 1) := by decide +kernel
theorem dL_law_809 : decode cL_law 809 = .ok (.aload_n 1, 1) := by decide +kernel
theorem dL_law_810 : decode cL_law 810 = .ok (.aload_n 0, 1) := by decide +kernel
theorem dL_law_811 : decode cL_law 811 = .ok (.iload_n 3, 1) := by decide +kernel
theorem dL_law_812 : decode cL_law 812 = .ok (.iconst 1, 1) := by decide +kernel
theorem dL_law_813 : decode cL_law 813 = .ok (.iadd, 1) := by decide +kernel
theorem dL_law_814 : decode cL_law 814 = .ok (.iaload, 1) := by decide +kernel
theorem dL_law_815 : decode cL_law 815 = .ok (.aload_n 0, 1) := by decide +kernel
theorem dL_law_816 : decode cL_law 816 = .ok (.iload_n 3, 1) := by decide +kernel
theorem dL_law_817 : decode cL_law 817 = .ok (.iconst 2, 1) := by decide +kernel
theorem dL_law_818 : decode cL_law 818 = .ok (.iadd, 1) := by decide +kernel
theorem dL_law_819 : decode cL_law 819 = .ok (.iaload, 1) := by decide +kernel
theorem dL_law_820 : decode cL_law 820 = .ok (.i2c, 1) := by decide +kernel
theorem dL_law_821 : decode cL_law 821 = .ok (.invokevirtual 106, 3) := by decide +kernel
theorem dL_law_824 : decode cL_law 824 = .ok (.aload_n 2, 1) := by decide +kernel
theorem dL_law_825 : decode cL_law 825 = .ok (.aload_n 0, 1) := by decide +kernel
theorem dL_law_826 : decode cL_law 826 = .ok (.iload_n 3, 1) := by decide +kernel
theorem dL_law_827 : decode cL_law 827 = .ok (.iconst 1, 1) := by decide +kernel
theorem dL_law_828 : decode cL_law 828 = .ok (.iadd, 1) := by decide +kernel
theorem dL_law_829 : decode cL_law 829 = .ok (.iaload, 1) := by decide +kernel
theorem dL_law_830 : decode cL_law 830 = .ok (.aload_n 0, 1) := by decide +kernel
theorem dL_law_831 : decode cL_law 831 = .ok (.iload_n 3, 1) := by decide +kernel
theorem dL_law_832 : decode cL_law 832 = .ok (.iconst 2, 1) := by decide +kernel
theorem dL_law_833 : decode cL_law 833 = .ok (.iadd, 1) := by decide +kernel
theorem dL_law_834 : decode cL_law 834 = .ok (.iaload, 1) := by decide +kernel
theorem dL_law_835 : decode cL_law 835 = .ok (.i2c, 1) := by decide +kernel
theorem dL_law_836 : decode cL_law 836 = .ok (.invokevirtual 110, 3) := by decide +kernel
theorem dL_law_839 : decode cL_law 839 = .ok (.if_icmp .eq 94, 3) := by decide +kernel
theorem dL_law_842 : decode cL_law 842 = .ok (.iconst 0, 1) := by decide +kernel
theorem dL_law_843 : decode cL_law 843 = .ok (.ireturn, 1) := by decide +kernel
theorem dL_law_844 : decode cL_law 844 = .ok (.aload_n 1, 1) := by decide +kernel
theorem dL_law_845 : decode cL_law 845 = .ok (.aload_n 0, 1) := by decide +kernel
theorem dL_law_846 : decode cL_law 846 = .ok (.iload_n 3, 1) := by decide +kernel
theorem dL_law_847 : decode cL_law 847 = .ok (.iconst 1, 1) := by decide +kernel
theorem dL_law_848 : decode cL_law 848 = .ok (.iadd, 1) := by decide +kernel
theorem dL_law_849 : decode cL_law 849 = .ok (.iaload, 1) := by decide +kernel
theorem dL_law_850 : decode cL_law 850 = .ok (.aload_n 0, 1) := by decide +kernel
theorem dL_law_851 : decode cL_law 851 = .ok (.iload_n 3, 1) := by decide +kernel
theorem dL_law_852 : decode cL_law 852 = .ok (.iconst 2, 1) := by decide +kernel
theorem dL_law_853 : decode cL_law 853 = .ok (.iadd, 1) := by decide +kernel
theorem dL_law_854 : decode cL_law 854 = .ok (.iaload, 1) := by decide +kernel
theorem dL_law_855 : decode cL_law 855 = .ok (.invokevirtual 111, 3) := by decide +kernel
theorem dL_law_858 : decode cL_law 858 = .ok (.aload_n 2, 1) := by decide +kernel
theorem dL_law_859 : decode cL_law 859 = .ok (.aload_n 0, 1) := by decide +kernel
theorem dL_law_860 : decode cL_law 860 = .ok (.iload_n 3, 1) := by decide +kernel
theorem dL_law_861 : decode cL_law 861 = .ok (.iconst 1, 1) := by decide +kernel
theorem dL_law_862 : decode cL_law 862 = .ok (.iadd, 1) := by decide +kernel
theorem dL_law_863 : decode cL_law 863 = .ok (.iaload, 1) := by decide +kernel
theorem dL_law_864 : decode cL_law 864 = .ok (.aload_n 0, 1) := by decide +kernel
theorem dL_law_865 : decode cL_law 865 = .ok (.iload_n 3, 1) := by decide +kernel
theorem dL_law_866 : decode cL_law 866 = .ok (.iconst 2, 1) := by decide +kernel
theorem dL_law_867 : decode cL_law 867 = .ok (.iadd, 1) := by decide +kernel
theorem dL_law_868 : decode cL_law 868 = .ok (.iaload, 1) := by decide +kernel
theorem dL_law_869 : decode cL_law 869 = .ok (.invokevirtual 114, 3) := by decide +kernel
theorem dL_law_872 : decode cL_law 872 = .ok (.if_icmp .eq 61, 3) := by decide +kernel
theorem dL_law_875 : decode cL_law 875 = .ok (.iconst 0, 1) := by decide +kernel
theorem dL_law_876 : decode cL_law 876 = .ok (.ireturn, 1) := by decide +kernel
theorem dL_law_877 : decode cL_law 877 = .ok (.aload_n 1, 1) := by decide +kernel
theorem dL_law_878 : decode cL_law 878 = .ok (.aload_n 0, 1) := by decide +kernel
theorem dL_law_879 : decode cL_law 879 = .ok (.iload_n 3, 1) := by decide +kernel
theorem dL_law_880 : decode cL_law 880 = .ok (.iconst 1, 1) := by decide +kernel
theorem dL_law_881 : decode cL_law 881 = .ok (.iadd, 1) := by decide +kernel
theorem dL_law_882 : decode cL_law 882 = .ok (.iaload, 1) := by decide +kernel
theorem dL_law_883 : decode cL_law 883 = .ok (.aload_n 0, 1) := by decide +kernel
theorem dL_law_884 : decode cL_law 884 = .ok (.iload_n 3, 1) := by decide +kernel
theorem dL_law_885 : decode cL_law 885 = .ok (.iconst 2, 1) := by decide +kernel
theorem dL_law_886 : decode cL_law 886 = .ok (.iadd, 1) := by decide +kernel
theorem dL_law_887 : decode cL_law 887 = .ok (.iaload, 1) := by decide +kernel
theorem dL_law_888 : decode cL_law 888 = .ok (.invokevirtual 115, 3) := by decide +kernel
theorem dL_law_891 : decode cL_law 891 = .ok (.aload_n 2, 1) := by decide +kernel
theorem dL_law_892 : decode cL_law 892 = .ok (.aload_n 0, 1) := by decide +kernel
theorem dL_law_893 : decode cL_law 893 = .ok (.iload_n 3, 1) := by decide +kernel
theorem dL_law_894 : decode cL_law 894 = .ok (.iconst 1, 1) := by decide +kernel
theorem dL_law_895 : decode cL_law 895 = .ok (.iadd, 1) := by decide +kernel
theorem dL_law_896 : decode cL_law 896 = .ok (.iaload, 1) := by decide +kernel
theorem dL_law_897 : decode cL_law 897 = .ok (.aload_n 0, 1) := by decide +kernel
theorem dL_law_898 : decode cL_law 898 = .ok (.iload_n 3, 1) := by decide +kernel
theorem dL_law_899 : decode cL_law 899 = .ok (.iconst 2, 1) := by decide +kernel
theorem dL_law_900 : decode cL_law 900 = .ok (.iadd, 1) := by decide +kernel
theorem dL_law_901 : decode cL_law 901 = .ok (.iaload, 1) := by decide +kernel
theorem dL_law_902 : decode cL_law 902 = .ok (.invokevirtual 118, 3) := by decide +kernel
theorem dL_law_905 : decode cL_law 905 = .ok (.if_icmp .eq 28, 3) := by decide +kernel
theorem dL_law_908 : decode cL_law 908 = .ok (.iconst 0, 1) := by decide +kernel
theorem dL_law_909 : decode cL_law 909 = .ok (.ireturn, 1) := by decide +kernel
theorem dL_law_910 : decode cL_law 910 = .ok (.aload_n 1, 1) := by decide +kernel
theorem dL_law_911 : decode cL_law 911 = .ok (.aload_n 0, 1) := by decide +kernel
theorem dL_law_912 : decode cL_law 912 = .ok (.iload_n 3, 1) := by decide +kernel
theorem dL_law_913 : decode cL_law 913 = .ok (.iconst 1, 1) := by decide +kernel
theorem dL_law_914 : decode cL_law 914 = .ok (.iadd, 1) := by decide +kernel
theorem dL_law_915 : decode cL_law 915 = .ok (.iaload, 1) := by decide +kernel
theorem dL_law_916 : decode cL_law 916 = .ok (.invokevirtual 119, 3) := by decide +kernel
theorem dL_law_919 : decode cL_law 919 = .ok (.aload_n 2, 1) := by decide +kernel
theorem dL_law_920 : decode cL_law 920 = .ok (.aload_n 0, 1) := by decide +kernel
theorem dL_law_921 : decode cL_law 921 = .ok (.iload_n 3, 1) := by decide +kernel
theorem dL_law_922 : decode cL_law 922 = .ok (.iconst 1, 1) := by decide +kernel
theorem dL_law_923 : decode cL_law 923 = .ok (.iadd, 1) := by decide +kernel
theorem dL_law_924 : decode cL_law 924 = .ok (.iaload, 1) := by decide +kernel
theorem dL_law_925 : decode cL_law 925 = .ok (.invokevirtual 122, 3) := by decide +kernel
theorem dL_law_928 : decode cL_law 928 = .ok (.if_icmp .eq 5, 3) := by decide +kernel
theorem dL_law_931 : decode cL_law 931 = .ok (.iconst 0, 1) := by decide +kernel
theorem dL_law_932 : decode cL_law 932 = .ok (.ireturn, 1) := by decide +kernel
theorem dL_law_933 : decode cL_law 933 = .ok (.iinc 3 4, 3) := by decide +kernel
theorem dL_law_936 : decode cL_law 936 = .ok (.goto (-918), 3) := by decide +kernel
theorem dL_law_939 : decode cL_law 939 = .ok (.iconst 1, 1) := by decide +kernel
theorem dL_law_940 : decode cL_law 940 = .ok (.ireturn, 1) := by decide +kernel
end
section
/-! The memory: the objects and arrays of both systems at fixed places 0..310; what changes is their ints. -/
abbrev Mem : Type := Nat → Nat → Int32
abbrev Ly : Type := (Nat → ClassId) × (Nat → Nat → Nat) × (Nat → ClassId) × (Nat → Nat) × (Nat → Nat) × (Nat → Nat)
def lC (L : Ly) : Nat → ClassId := L.1
def lI (L : Ly) : Nat → Nat → Nat := L.2.1
def lA (L : Ly) : Nat → ClassId := L.2.2.1
def lad (L : Ly) : Nat → Nat := L.2.2.2.1
def lK (L : Ly) : Nat → Nat := L.2.2.2.2.1
def lV (L : Ly) : Nat → Nat := L.2.2.2.2.2
abbrev dd (L : Ly) : va_G := (lC L, lI L)
def tysL (L : Ly) : List (ClassId × FieldType) := [(lA L 0, .int), (lA L 1, .char), (lA L 2, .object "FloorTops$State"), (lA L 3, .object "FloorTops$Summary")]
def kS (r : Nat) : Nat := if r = 0 then 2 else if r = 1 then 11 else if r = 23 then 11 else if r = 22 then 5 else if r = 44 then 1 else if 44 < r then 21 else if r < 22 then (if r % 5 = 2 then 3 else 20) else if r % 5 = 4 then 3 else 20
def kd (k : Nat) : Nat := if k < 294 then kS (k % 49) else if k = 294 then 3 else if k < 299 then 20 else if k = 299 then 6 else if k = 300 then 0 else if k = 301 then 10 else if k = 302 then 4 else if k = 303 then 23 else if k < 306 then 22 else if k = 306 then 7 else if k = 307 then 24 else if k = 308 then 25 else if k = 309 then 26 else if k = 310 then 23 else 99
def lay (L : Ly) (c : Nat) (k : Nat) (f : Nat → Int32) : va_E := match c with
  | 0 => .inr (0, [.ref (lad L 301), .int (f 1), .int (f 2)])
  | 1 => .inr (1, [.ref (lad L (k + 1)), .ref (lad L (k + 2)), .ref (lad L (k + 3)), .ref (lad L (k + 4)), .int (f 4), .int (f 5)])
  | 2 => .inr (2, [.ref (lad L (k + 1)), .ref (lad L (k + 22)), .ref (lad L (k + 44)), .int (f 3), .int (f 4), .int (f 5)])
  | 3 => .inr (3, [.int (f 0), .int (f 1), .int (f 2), .int (f 3), .ref (lad L (k + 1)), .ref (lad L (k + 2)), .ref (lad L (k + 3)), .ref (lad L (k + 4))])
  | 4 => .inr (4, [.ref (lad L 303), .int (f 1), .ref (lad L 304), .ref (lad L 305), .int (f 4), .int (f 5), .int (f 6), .int (f 7), .int (f 8)])
  | 5 => .inr (5, [.ref (lad L (k + 1)), .int (f 1), .int (f 2), .int (f 3), .int (f 4)])
  | 6 => .inr (6, [.ref (lad L 0), .ref (lad L 300), .ref (lad L 245), .int (f 3), .ref (lad L 302), .ref (lad L 294)])
  | 7 => .inr (7, [.ref (lad L 307), .ref (lad L 308), .int (f 2), .ref (lad L 309), .int (f 4), .int (f 5), .ref (lad L 310), .int (f 7), .int (f 8), .int (f 9), .int (f 10)])
  | 10 => .inl (lA L 2, 4, .inr (.inr (.inr (.inr (fun i => some (lad L (49 + 49 * i)))))))
  | 11 => .inl (lA L 3, 4, .inr (.inr (.inr (.inr (fun i => some (lad L (k + 1 + 5 * i)))))))
  | 20 => .inl (lA L 0, 26, .inl f)
  | 21 => .inl (lA L 0, 8, .inl f)
  | 22 => .inl (lA L 0, 60, .inl f)
  | 23 => .inl (lA L 1, 60, .inl f)
  | 24 => .inl (lA L 0, 1244, .inl f)
  | 25 => .inl (lA L 0, 4440, .inl f)
  | 26 => .inl (lA L 0, 1110, .inl f)
  | _ => .inl (lA L 0, 0, .inl f)
def wd (L : Ly) (σ : Mem) : va_W := (List.range 311).map (fun k => (lad L k, lay L (kd k) k (σ k)))
def ms (σ : Mem) (k : Nat) (f : Nat → Int32) : Mem := fun q => if q = k then f else σ q
def mu (σ : Mem) (k j : Nat) (v : Int32) : Mem := ms σ k (upd (σ k) j v)
theorem kd_lt {k c : Nat} (h : kd k = c) (hc : c < 99) : k < 311 := by
  refine Nat.lt_of_not_le fun q => ?_
  have : kd k = 99 := by unfold kd; repeat (first | rw [if_neg (by omega)] | rfl)
  omega
theorem wd_len (L : Ly) (σ : Mem) : (wd L σ).length = 311 := by simp [wd]
theorem wd_at {L : Ly} {σ : Mem} {k c : Nat} (h : kd k = c) (hc : c < 99) : (wd L σ)[k]? = some (lad L k, lay L c k (σ k)) := by
  have hk := kd_lt h hc
  subst h
  simp [wd, hk]
theorem wd_inv {L : Ly} {σ : Mem} {k : Nat} {q : Nat × va_E} (h : (wd L σ)[k]? = some q) : k < 311 ∧ q = (lad L k, lay L (kd k) k (σ k)) := by
  have hk : k < 311 := by rw [← wd_len L σ]; exact (List.getElem?_eq_some_iff.mp h).1
  refine ⟨hk, ?_⟩
  have : (wd L σ)[k]? = some (lad L k, lay L (kd k) k (σ k)) := by simp [wd, hk]
  rw [this] at h
  exact (Option.some.inj h).symm
theorem wd_set {L : Ly} {σ : Mem} {k c : Nat} (h : kd k = c) (hc : c < 99) (f : Nat → Int32) : (wd L σ).set k (lad L k, lay L c k f) = wd L (ms σ k f) := by
  have hk := kd_lt h hc
  subst h
  apply List.ext_getElem?
  intro i
  rw [List.getElem?_set]
  by_cases hi : k = i
  · subst hi
    rw [if_pos rfl, if_pos (by rw [wd_len]; exact hk)]
    simp [wd, hk, ms]
  · rw [if_neg hi]
    by_cases h2 : i < 311
    · have hi' : ¬ i = k := fun e => hi e.symm
      simp [wd, h2, ms, hi']
    · simp [wd, h2]
/-- the addresses are apart -/
def ap (L : Ly) : Prop := ∀ i j : Nat, i < 311 → j < 311 → lad L i = lad L j → i = j
def mA (L : Ly) (sz : Nat) : Nat → Prop := fun q => (∃ k, k < 311 ∧ q = lad L k) ∨ sz ≤ q
theorem wd_D {L : Ly} {A : Nat → Prop} (h : ap L) (hA : ∀ k, k < 311 → A (lad L k)) (σ : Mem) : va_D A (wd L σ) := by
  refine ⟨fun i j p q hi hj e => ?_, fun k q hk => ?_⟩
  · obtain ⟨hi1, rfl⟩ := wd_inv hi
    obtain ⟨hj1, rfl⟩ := wd_inv hj
    exact h i j hi1 hj1 e
  · obtain ⟨hk1, rfl⟩ := wd_inv hk
    exact hA k hk1
/-! the String constants -/
def tS : List (Nat × String) := [(70, "merge"), (76, "copy"), (78, "size"), (80, "clear")]
def lS : List Nat := [5, 4, 4, 5]
def bS : List (List Int32) := [[109, 101, 114, 103, 101], [99, 111, 112, 121], [115, 105, 122, 101], [99, 108, 101, 97, 114]]
/-- what nobody writes: the nest's words, the String constants, two statics of the JDK -/
def mX (L : Ly) (A : Nat → Prop) (U : State) (H : Heap) : Prop :=
  va_Nw (.methodLinkNest RX2 71 yX6_codeOf RX6) U ∧ va_Nw (.methodLinkNest RX4 45 yX6_letterIndex RX6) U ∧ vk_S 4 lS bS (lK L) (lV L) A U H ∧
  (vk_R RX4 70 "merge" (lK L 0) U ∧ vk_R RX4 76 "copy" (lK L 1) U ∧ vk_R RX4 78 "size" (lK L 2) U ∧ vk_R RX4 80 "clear" (lK L 3) U) ∧
  va_Z "java/lang/String" "COMPACT_STRINGS" "Z" (.int 1) A U H ∧ va_Zq "jdk/internal/util/Preconditions" "SIOOBE_FORMATTER" "Ljava/util/function/BiFunction;" A U H
theorem mX.kept {L : Ly} {A : Nat → Prop} {U : State} {H H1 : Heap} (h : mX L A U H) (hq : ∀ a : Nat, a < H.size → ¬ A a → H1[a]? = H[a]?) : mX L A U H1 := by
  obtain ⟨h1, h2, h3, h4, h5, h6⟩ := h
  exact ⟨h1, h2, h3.kept hq, h4, h5.kept hq, h6.elim (fun z => Or.inl (z.kept hq)) (fun ⟨t, z⟩ => Or.inr ⟨t, z.kept hq⟩)⟩
theorem mX.narrow {L : Ly} {A B : Nat → Prop} {U : State} {H : Heap} (h : mX L A U H) (hAB : ∀ q, B q → A q) : mX L B U H := by
  obtain ⟨h1, h2, h3, h4, h5, h6⟩ := h
  exact ⟨h1, h2, h3.narrow hAB, h4, h5.narrow hAB, h6.elim (fun z => Or.inl (z.narrow hAB)) (fun ⟨t, z⟩ => Or.inr ⟨t, z.narrow hAB⟩)⟩
theorem mX.warm {L : Ly} {A : Nat → Prop} {s U : State} {H : Heap} (hW : s.WarmedH U.vm) (h : mX L A s H) : mX L A U H := by
  obtain ⟨h1, h2, h3, ⟨a1, a2, a3, a4⟩, h5, h6⟩ := h
  exact ⟨h1.warmM hW, h2.warmM hW, h3.moved hW.alike, ⟨a1.warm hW, a2.warm hW, a3.warm hW, a4.warm hW⟩, h5.moved hW.alike, h6.elim (fun z => Or.inl (z.moved hW.alike)) (fun ⟨t, z⟩ => Or.inr ⟨t, z.moved hW.alike⟩)⟩
theorem mX.same {L : Ly} {A : Nat → Prop} {u U : State} {H : Heap} (hv : U.vm = u.vm) (h : mX L A u H) : mX L A U H := by
  obtain ⟨h1, h2, h3, ⟨a1, a2, a3, a4⟩, h5, h6⟩ := h
  have hal : u.vm.Alike U.vm := by rw [hv]; exact Vm.Alike.refl _
  exact ⟨h1.same rfl hv.symm, h2.same rfl hv.symm, h3.moved hal, ⟨a1.same hv, a2.same hv, a3.same hv, a4.same hv⟩, h5.moved hal, h6.elim (fun z => Or.inl (z.moved hal)) (fun ⟨t, z⟩ => Or.inr ⟨t, z.moved hal⟩)⟩
/-- a method's start and end -/
def mB (L : Ly) (sz : Nat) (σ : Mem) (U : State) : Prop := U.heap.size = sz ∧ va_P (dd L) vwCl (wd L σ) U.heap ∧ va_K (dd L) vwCl (tysL L) U ∧ ap L ∧ mX L (mA L sz) U U.heap
def mE (L : Ly) (σ : Mem) (t : State) : Prop := va_P (dd L) vwCl (wd L σ) t.heap
theorem mB_blind (L : Ly) (sz : Nat) (σ : Mem) (as : List Value) : FrameBlind (va_Pc as (mB L sz σ)) := by
  intro a U g mk q
  obtain ⟨q0, q1, qP, qK, qp, qX⟩ := q
  exact ⟨q0, q1, qP, va_K.moved (u := U) (U := U.calling g mk a) (Vm.Alike.refl U.vm) qK, qp, qX.same rfl⟩
/-- what is fixed while a method runs -/
def Cx (p : Program) (R : Room) (s : State) (m : MethodId) (args : Array Value) (meth : Method) (c : Code) (own : String) (cc : ByteArray) (nL cells slots : Nat) (A : Nat → Prop) (L : Ly) : Prop :=
  p.tables.exec = Jvm.exec ∧ c.code = cc ∧ c.maxLocals = nL ∧ s.vm.findClass own = some m.cls ∧ (∀ w ∈ wA, w.before args s = true) ∧ va_K (dd L) vwCl (tysL L) s ∧ (∀ σ, va_D A (wd L σ)) ∧ (∀ q, s.heap.size ≤ q → A q) ∧ mX L A s s.heap ∧ (cells ≤ R.cells ∧ slots ≤ R.slots) ∧ ap L
/-- from here, with this memory, these locals and this stack, the machine comes to Q -/
def V (p : Program) (l : Launch) (e : Env) (R : Room) (s : State) (m : MethodId) (args : Array Value) (below : List Frame) (meth : Method) (c : Code) (nL cells slots : Nat) (Q : State → Prop) (A : Nat → Prop) (L : Ly) (σ : Mem) (pc : Nat) (lv : List (Nat × Value)) (st : List Value) : Prop :=
  ∀ (H : Heap) (locs : List Loc) (ls : Array Slot), va_P (dd L) vwCl (wd L σ) H → va_S A s.heap H locs → lv_has ls nL lv → W p l e R s m args below meth c H locs cells slots Q (F0 m pc ls st)
abbrev ix (i : Int32) : Nat := i.toNatClampNeg
def br (c A B : Prop) : Prop := (c → A) ∧ (¬ c → B)
section VV
variable {p : Program} {l : Launch} {e : Env} {R : Room} {s : State} {m : MethodId} {args : Array Value} {below : List Frame} {meth : Method} {c : Code} {nL cells slots : Nat} {Q : State → Prop} {A : Nat → Prop} {L : Ly} {own : String} {cc : ByteArray} {σ : Mem} {pc : Nat} {lv lv' : List (Nat × Value)} {st st0 : List Value}
theorem v_sub (ks : List Nat) (h : lv_pick lv ks = lv') (k : V p l e R s m args below meth c nL cells slots Q A L σ pc lv' st) : V p l e R s m args below meth c nL cells slots Q A L σ pc lv st := fun H locs ls hP hS hl => k H locs ls hP hS (lv_sub hl ks h)
theorem v_iconst (C : Cx p R s m args meth c own cc nL cells slots A L) {n : Int} {v : Int32} (d : decode cc pc = .ok (.iconst n, 1)) (hv : Int32.ofInt n = v) (k : V p l e R s m args below meth c nL cells slots Q A L σ (pc + 1) lv (.int v :: st)) : V p l e R s m args below meth c nL cells slots Q A L σ pc lv st := fun H locs ls hP hS hl => lv_iconst C.1 C.2.1 d hv (k H locs ls hP hS hl)
theorem v_bipush (C : Cx p R s m args meth c own cc nL cells slots A L) {n : Int} {v : Int32} (d : decode cc pc = .ok (.bipush n, 2)) (hv : (Int8.ofInt n).toInt32 = v) (k : V p l e R s m args below meth c nL cells slots Q A L σ (pc + 2) lv (.int v :: st)) : V p l e R s m args below meth c nL cells slots Q A L σ pc lv st := fun H locs ls hP hS hl => lv_bipush C.1 C.2.1 d hv (k H locs ls hP hS hl)
theorem v_sipush (C : Cx p R s m args meth c own cc nL cells slots A L) {n : Int} {v : Int32} (d : decode cc pc = .ok (.sipush n, 3)) (hv : (Int16.ofInt n).toInt32 = v) (k : V p l e R s m args below meth c nL cells slots Q A L σ (pc + 3) lv (.int v :: st)) : V p l e R s m args below meth c nL cells slots Q A L σ pc lv st := fun H locs ls hP hS hl => lv_sipush C.1 C.2.1 d hv (k H locs ls hP hS hl)
theorem v_ldc (C : Cx p R s m args meth c own cc nL cells slots A L) {i : Nat} {v : Int32} (d : decode cc pc = .ok (.ldc i, 2)) (hw : Cond.constant own i v ∈ wA) (k : V p l e R s m args below meth c nL cells slots Q A L σ (pc + 2) lv (.int v :: st)) : V p l e R s m args below meth c nL cells slots Q A L σ pc lv st := fun H locs ls hP hS hl => lv_ldc C.1 C.2.1 C.2.2.2.1 (C.2.2.2.2.1 _ hw) d (k H locs ls hP hS hl)
theorem v_ldcw (C : Cx p R s m args meth c own cc nL cells slots A L) {i : Nat} {v : Int32} (d : decode cc pc = .ok (.ldc_w i, 3)) (hw : Cond.constant own i v ∈ wA) (k : V p l e R s m args below meth c nL cells slots Q A L σ (pc + 3) lv (.int v :: st)) : V p l e R s m args below meth c nL cells slots Q A L σ pc lv st := fun H locs ls hP hS hl => lv_ldcw C.1 C.2.1 C.2.2.2.1 (C.2.2.2.2.1 _ hw) d (k H locs ls hP hS hl)
theorem v_ldc2 (C : Cx p R s m args meth c own cc nL cells slots A L) {i : Nat} {v : Int64} (d : decode cc pc = .ok (.ldc2_w i, 3)) (hw : Cond.constantLong own i v ∈ wA) (k : V p l e R s m args below meth c nL cells slots Q A L σ (pc + 3) lv (.long v :: st)) : V p l e R s m args below meth c nL cells slots Q A L σ pc lv st := fun H locs ls hP hS hl => lv_ldc2 C.1 C.2.1 C.2.2.2.1 (C.2.2.2.2.1 _ hw) d (k H locs ls hP hS hl)
theorem v_iload_n (C : Cx p R s m args meth c own cc nL cells slots A L) {q : Fin 4} {i : Nat} {x : Int32} (d : decode cc pc = .ok (.iload_n q, 1)) (hi : (q : Nat) = i) (j : Nat) (hj : lv[j]? = some (i, .int x)) (k : V p l e R s m args below meth c nL cells slots Q A L σ (pc + 1) lv (.int x :: st)) : V p l e R s m args below meth c nL cells slots Q A L σ pc lv st := fun H locs ls hP hS hl => lv_iload_n C.1 C.2.1 d hi (lv_at hl j hj) (k H locs ls hP hS hl)
theorem v_iload (C : Cx p R s m args meth c own cc nL cells slots A L) {i : Nat} {x : Int32} (d : decode cc pc = .ok (.iload i, 2)) (j : Nat) (hj : lv[j]? = some (i, .int x)) (k : V p l e R s m args below meth c nL cells slots Q A L σ (pc + 2) lv (.int x :: st)) : V p l e R s m args below meth c nL cells slots Q A L σ pc lv st := fun H locs ls hP hS hl => lv_iload C.1 C.2.1 d (lv_at hl j hj) (k H locs ls hP hS hl)
theorem v_aload_n (C : Cx p R s m args meth c own cc nL cells slots A L) {q : Fin 4} {i : Nat} {x : Nat} (d : decode cc pc = .ok (.aload_n q, 1)) (hi : (q : Nat) = i) (j : Nat) (hj : lv[j]? = some (i, .ref x)) (k : V p l e R s m args below meth c nL cells slots Q A L σ (pc + 1) lv (.ref x :: st)) : V p l e R s m args below meth c nL cells slots Q A L σ pc lv st := fun H locs ls hP hS hl => lv_aload_n C.1 C.2.1 d hi (lv_at hl j hj) (k H locs ls hP hS hl)
theorem v_aload (C : Cx p R s m args meth c own cc nL cells slots A L) {i : Nat} {x : Nat} (d : decode cc pc = .ok (.aload i, 2)) (j : Nat) (hj : lv[j]? = some (i, .ref x)) (k : V p l e R s m args below meth c nL cells slots Q A L σ (pc + 2) lv (.ref x :: st)) : V p l e R s m args below meth c nL cells slots Q A L σ pc lv st := fun H locs ls hP hS hl => lv_aload C.1 C.2.1 d (lv_at hl j hj) (k H locs ls hP hS hl)
theorem v_aload_nN (C : Cx p R s m args meth c own cc nL cells slots A L) {q : Fin 4} {i : Nat} (d : decode cc pc = .ok (.aload_n q, 1)) (hi : (q : Nat) = i) (j : Nat) (hj : lv[j]? = some (i, .null)) (k : V p l e R s m args below meth c nL cells slots Q A L σ (pc + 1) lv (.null :: st)) : V p l e R s m args below meth c nL cells slots Q A L σ pc lv st := fun H locs ls hP hS hl => lv_aload_nN C.1 C.2.1 d hi (lv_at hl j hj) (k H locs ls hP hS hl)
theorem v_aloadN (C : Cx p R s m args meth c own cc nL cells slots A L) {i : Nat} (d : decode cc pc = .ok (.aload i, 2)) (j : Nat) (hj : lv[j]? = some (i, .null)) (k : V p l e R s m args below meth c nL cells slots Q A L σ (pc + 2) lv (.null :: st)) : V p l e R s m args below meth c nL cells slots Q A L σ pc lv st := fun H locs ls hP hS hl => lv_aloadN C.1 C.2.1 d (lv_at hl j hj) (k H locs ls hP hS hl)
theorem v_istore_n (C : Cx p R s m args meth c own cc nL cells slots A L) {q : Fin 4} {i : Nat} {x : Int32} (lv' : List (Nat × Value)) (d : decode cc pc = .ok (.istore_n q, 1)) (hi : (q : Nat) = i) (hn : i < nL) (hl' : (i, Value.int x) :: lv.filter (fun q => !(q.1 == i) && !(q.1 + 1 == i && q.2.category == 2)) = lv') (k : V p l e R s m args below meth c nL cells slots Q A L σ (pc + 1) lv' st) : V p l e R s m args below meth c nL cells slots Q A L σ pc lv (.int x :: st) := fun H locs _ hP hS hl => lv_istore_n C.1 C.2.1 d hi hl hn hl' (fun ls hl => k H locs ls hP hS hl)
theorem v_istore (C : Cx p R s m args meth c own cc nL cells slots A L) {i : Nat} {x : Int32} (lv' : List (Nat × Value)) (d : decode cc pc = .ok (.istore i, 2)) (hn : i < nL) (hl' : (i, Value.int x) :: lv.filter (fun q => !(q.1 == i) && !(q.1 + 1 == i && q.2.category == 2)) = lv') (k : V p l e R s m args below meth c nL cells slots Q A L σ (pc + 2) lv' st) : V p l e R s m args below meth c nL cells slots Q A L σ pc lv (.int x :: st) := fun H locs _ hP hS hl => lv_istore C.1 C.2.1 d hl hn hl' (fun ls hl => k H locs ls hP hS hl)
theorem v_astore_n (C : Cx p R s m args meth c own cc nL cells slots A L) {q : Fin 4} {i : Nat} {x : Nat} (lv' : List (Nat × Value)) (d : decode cc pc = .ok (.astore_n q, 1)) (hi : (q : Nat) = i) (hn : i < nL) (hl' : (i, Value.ref x) :: lv.filter (fun q => !(q.1 == i) && !(q.1 + 1 == i && q.2.category == 2)) = lv') (k : V p l e R s m args below meth c nL cells slots Q A L σ (pc + 1) lv' st) : V p l e R s m args below meth c nL cells slots Q A L σ pc lv (.ref x :: st) := fun H locs _ hP hS hl => lv_astore_n C.1 C.2.1 d hi hl hn hl' (fun ls hl => k H locs ls hP hS hl)
theorem v_astore (C : Cx p R s m args meth c own cc nL cells slots A L) {i : Nat} {x : Nat} (lv' : List (Nat × Value)) (d : decode cc pc = .ok (.astore i, 2)) (hn : i < nL) (hl' : (i, Value.ref x) :: lv.filter (fun q => !(q.1 == i) && !(q.1 + 1 == i && q.2.category == 2)) = lv') (k : V p l e R s m args below meth c nL cells slots Q A L σ (pc + 2) lv' st) : V p l e R s m args below meth c nL cells slots Q A L σ pc lv (.ref x :: st) := fun H locs _ hP hS hl => lv_astore C.1 C.2.1 d hl hn hl' (fun ls hl => k H locs ls hP hS hl)
theorem v_astore_nN (C : Cx p R s m args meth c own cc nL cells slots A L) {q : Fin 4} {i : Nat} (lv' : List (Nat × Value)) (d : decode cc pc = .ok (.astore_n q, 1)) (hi : (q : Nat) = i) (hn : i < nL) (hl' : (i, Value.null) :: lv.filter (fun q => !(q.1 == i) && !(q.1 + 1 == i && q.2.category == 2)) = lv') (k : V p l e R s m args below meth c nL cells slots Q A L σ (pc + 1) lv' st) : V p l e R s m args below meth c nL cells slots Q A L σ pc lv (.null :: st) := fun H locs _ hP hS hl => lv_astore_nN C.1 C.2.1 d hi hl hn hl' (fun ls hl => k H locs ls hP hS hl)
theorem v_astoreN (C : Cx p R s m args meth c own cc nL cells slots A L) {i : Nat} (lv' : List (Nat × Value)) (d : decode cc pc = .ok (.astore i, 2)) (hn : i < nL) (hl' : (i, Value.null) :: lv.filter (fun q => !(q.1 == i) && !(q.1 + 1 == i && q.2.category == 2)) = lv') (k : V p l e R s m args below meth c nL cells slots Q A L σ (pc + 2) lv' st) : V p l e R s m args below meth c nL cells slots Q A L σ pc lv (.null :: st) := fun H locs _ hP hS hl => lv_astoreN C.1 C.2.1 d hl hn hl' (fun ls hl => k H locs ls hP hS hl)
theorem v_iinc (C : Cx p R s m args meth c own cc nL cells slots A L) {i : Nat} {n : Int} {x v : Int32} (lv' : List (Nat × Value)) (d : decode cc pc = .ok (.iinc i n, 3)) (j : Nat) (hj : lv[j]? = some (i, .int x)) (hv : x + Int32.ofInt n = v) (hn : i < nL) (hl' : (i, Value.int v) :: lv.filter (fun q => !(q.1 == i) && !(q.1 + 1 == i && q.2.category == 2)) = lv') (k : V p l e R s m args below meth c nL cells slots Q A L σ (pc + 3) lv' st) : V p l e R s m args below meth c nL cells slots Q A L σ pc lv st := fun H locs _ hP hS hl => lv_iinc C.1 C.2.1 d hl hj hv hn hl' (fun ls hl => k H locs ls hP hS hl)
theorem v_iadd (C : Cx p R s m args meth c own cc nL cells slots A L) {x y : Int32} (d : decode cc pc = .ok (.iadd, 1)) (k : V p l e R s m args below meth c nL cells slots Q A L σ (pc + 1) lv (.int (x + y) :: st)) : V p l e R s m args below meth c nL cells slots Q A L σ pc lv (.int y :: .int x :: st) := fun H locs ls hP hS hl => lv_iadd C.1 C.2.1 d (k H locs ls hP hS hl)
theorem v_isub (C : Cx p R s m args meth c own cc nL cells slots A L) {x y : Int32} (d : decode cc pc = .ok (.isub, 1)) (k : V p l e R s m args below meth c nL cells slots Q A L σ (pc + 1) lv (.int (x - y) :: st)) : V p l e R s m args below meth c nL cells slots Q A L σ pc lv (.int y :: .int x :: st) := fun H locs ls hP hS hl => lv_isub C.1 C.2.1 d (k H locs ls hP hS hl)
theorem v_imul (C : Cx p R s m args meth c own cc nL cells slots A L) {x y : Int32} (d : decode cc pc = .ok (.imul, 1)) (k : V p l e R s m args below meth c nL cells slots Q A L σ (pc + 1) lv (.int (x * y) :: st)) : V p l e R s m args below meth c nL cells slots Q A L σ pc lv (.int y :: .int x :: st) := fun H locs ls hP hS hl => lv_imul C.1 C.2.1 d (k H locs ls hP hS hl)
theorem v_iand (C : Cx p R s m args meth c own cc nL cells slots A L) {x y : Int32} (d : decode cc pc = .ok (.iand, 1)) (k : V p l e R s m args below meth c nL cells slots Q A L σ (pc + 1) lv (.int (x &&& y) :: st)) : V p l e R s m args below meth c nL cells slots Q A L σ pc lv (.int y :: .int x :: st) := fun H locs ls hP hS hl => lv_iand C.1 C.2.1 d (k H locs ls hP hS hl)
theorem v_ior (C : Cx p R s m args meth c own cc nL cells slots A L) {x y : Int32} (d : decode cc pc = .ok (.ior, 1)) (k : V p l e R s m args below meth c nL cells slots Q A L σ (pc + 1) lv (.int (x ||| y) :: st)) : V p l e R s m args below meth c nL cells slots Q A L σ pc lv (.int y :: .int x :: st) := fun H locs ls hP hS hl => lv_ior C.1 C.2.1 d (k H locs ls hP hS hl)
theorem v_ixor (C : Cx p R s m args meth c own cc nL cells slots A L) {x y : Int32} (d : decode cc pc = .ok (.ixor, 1)) (k : V p l e R s m args below meth c nL cells slots Q A L σ (pc + 1) lv (.int (x ^^^ y) :: st)) : V p l e R s m args below meth c nL cells slots Q A L σ pc lv (.int y :: .int x :: st) := fun H locs ls hP hS hl => lv_ixor C.1 C.2.1 d (k H locs ls hP hS hl)
theorem v_ishl (C : Cx p R s m args meth c own cc nL cells slots A L) {x y : Int32} (d : decode cc pc = .ok (.ishl, 1)) (k : V p l e R s m args below meth c nL cells slots Q A L σ (pc + 1) lv (.int (x <<< (y &&& 31)) :: st)) : V p l e R s m args below meth c nL cells slots Q A L σ pc lv (.int y :: .int x :: st) := fun H locs ls hP hS hl => lv_ishl C.1 C.2.1 d (k H locs ls hP hS hl)
theorem v_ishr (C : Cx p R s m args meth c own cc nL cells slots A L) {x y : Int32} (d : decode cc pc = .ok (.ishr, 1)) (k : V p l e R s m args below meth c nL cells slots Q A L σ (pc + 1) lv (.int (x >>> (y &&& 31)) :: st)) : V p l e R s m args below meth c nL cells slots Q A L σ pc lv (.int y :: .int x :: st) := fun H locs ls hP hS hl => lv_ishr C.1 C.2.1 d (k H locs ls hP hS hl)
theorem v_iushr (C : Cx p R s m args meth c own cc nL cells slots A L) {x y : Int32} (d : decode cc pc = .ok (.iushr, 1)) (k : V p l e R s m args below meth c nL cells slots Q A L σ (pc + 1) lv (.int ((x.toUInt32 >>> (y.toUInt32 &&& Int32.toUInt32 31)).toInt32) :: st)) : V p l e R s m args below meth c nL cells slots Q A L σ pc lv (.int y :: .int x :: st) := fun H locs ls hP hS hl => lv_iushr C.1 C.2.1 d rfl (k H locs ls hP hS hl)
theorem v_i2c (C : Cx p R s m args meth c own cc nL cells slots A L) {x : Int32} (d : decode cc pc = .ok (.i2c, 1)) (k : V p l e R s m args below meth c nL cells slots Q A L σ (pc + 1) lv (.int ((x.toUInt32 % 65536).toInt32) :: st)) : V p l e R s m args below meth c nL cells slots Q A L σ pc lv (.int x :: st) := fun H locs ls hP hS hl => lv_i2c C.1 C.2.1 d rfl (k H locs ls hP hS hl)
theorem v_i2l (C : Cx p R s m args meth c own cc nL cells slots A L) {x : Int32} (d : decode cc pc = .ok (.i2l, 1)) (k : V p l e R s m args below meth c nL cells slots Q A L σ (pc + 1) lv (.long x.toInt64 :: st)) : V p l e R s m args below meth c nL cells slots Q A L σ pc lv (.int x :: st) := fun H locs ls hP hS hl => lv_i2l C.1 C.2.1 d rfl (k H locs ls hP hS hl)
theorem v_lmul (C : Cx p R s m args meth c own cc nL cells slots A L) {x y : Int64} (d : decode cc pc = .ok (.lmul, 1)) (k : V p l e R s m args below meth c nL cells slots Q A L σ (pc + 1) lv (.long (x * y) :: st)) : V p l e R s m args below meth c nL cells slots Q A L σ pc lv (.long y :: .long x :: st) := fun H locs ls hP hS hl => lv_lmul C.1 C.2.1 d (k H locs ls hP hS hl)
theorem v_lcmp (C : Cx p R s m args meth c own cc nL cells slots A L) {x y : Int64} (d : decode cc pc = .ok (.lcmp, 1)) (k : V p l e R s m args below meth c nL cells slots Q A L σ (pc + 1) lv (.int (lg_cmp x y) :: st)) : V p l e R s m args below meth c nL cells slots Q A L σ pc lv (.long y :: .long x :: st) := fun H locs ls hP hS hl => W.lcmp C.1 C.2.1 d (k H locs ls hP hS hl)
theorem v_dup (C : Cx p R s m args meth c own cc nL cells slots A L) {x : Value} (d : decode cc pc = .ok (.dup, 1)) (hx : x.category = 1) (k : V p l e R s m args below meth c nL cells slots Q A L σ (pc + 1) lv (x :: x :: st)) : V p l e R s m args below meth c nL cells slots Q A L σ pc lv (x :: st) := fun H locs ls hP hS hl => lv_dup C.1 C.2.1 d hx (k H locs ls hP hS hl)
theorem v_pop (C : Cx p R s m args meth c own cc nL cells slots A L) {x : Value} (d : decode cc pc = .ok (.pop, 1)) (hx : x.category = 1) (k : V p l e R s m args below meth c nL cells slots Q A L σ (pc + 1) lv st) : V p l e R s m args below meth c nL cells slots Q A L σ pc lv (x :: st) := fun H locs ls hP hS hl => lv_pop C.1 C.2.1 d hx (k H locs ls hP hS hl)
theorem v_dup2 (C : Cx p R s m args meth c own cc nL cells slots A L) {x y : Value} (d : decode cc pc = .ok (.dup2, 1)) (hx : x.category = 1) (hy : y.category = 1) (k : V p l e R s m args below meth c nL cells slots Q A L σ (pc + 1) lv (x :: y :: x :: y :: st)) : V p l e R s m args below meth c nL cells slots Q A L σ pc lv (x :: y :: st) := fun H locs ls hP hS hl => lv_dup2_11 C.1 C.2.1 d hx hy (k H locs ls hP hS hl)
theorem v_if_eq (C : Cx p R s m args meth c own cc nL cells slots A L) {x : Int32} {off : Int} {tgt : Nat} (d : decode cc pc = .ok (.ifCond .eq off, 3)) (ht : (pc : Int) + off = (tgt : Int)) (kt : x = 0 → V p l e R s m args below meth c nL cells slots Q A L σ tgt lv st) (kf : ¬ x = 0 → V p l e R s m args below meth c nL cells slots Q A L σ (pc + 3) lv st) : V p l e R s m args below meth c nL cells slots Q A L σ pc lv (.int x :: st) := fun H locs ls hP hS hl => lv_if_eq C.1 C.2.1 d ht (fun z => kt z H locs ls hP hS hl) (fun z => kf z H locs ls hP hS hl)
theorem v_if_ne (C : Cx p R s m args meth c own cc nL cells slots A L) {x : Int32} {off : Int} {tgt : Nat} (d : decode cc pc = .ok (.ifCond .ne off, 3)) (ht : (pc : Int) + off = (tgt : Int)) (kt : ¬ x = 0 → V p l e R s m args below meth c nL cells slots Q A L σ tgt lv st) (kf : x = 0 → V p l e R s m args below meth c nL cells slots Q A L σ (pc + 3) lv st) : V p l e R s m args below meth c nL cells slots Q A L σ pc lv (.int x :: st) := fun H locs ls hP hS hl => lv_if_ne C.1 C.2.1 d ht (fun z => kt z H locs ls hP hS hl) (fun z => kf z H locs ls hP hS hl)
theorem v_if_lt (C : Cx p R s m args meth c own cc nL cells slots A L) {x : Int32} {off : Int} {tgt : Nat} (d : decode cc pc = .ok (.ifCond .lt off, 3)) (ht : (pc : Int) + off = (tgt : Int)) (kt : x < 0 → V p l e R s m args below meth c nL cells slots Q A L σ tgt lv st) (kf : ¬ x < 0 → V p l e R s m args below meth c nL cells slots Q A L σ (pc + 3) lv st) : V p l e R s m args below meth c nL cells slots Q A L σ pc lv (.int x :: st) := fun H locs ls hP hS hl => lv_if_lt C.1 C.2.1 d ht (fun z => kt z H locs ls hP hS hl) (fun z => kf z H locs ls hP hS hl)
theorem v_if_ge (C : Cx p R s m args meth c own cc nL cells slots A L) {x : Int32} {off : Int} {tgt : Nat} (d : decode cc pc = .ok (.ifCond .ge off, 3)) (ht : (pc : Int) + off = (tgt : Int)) (kt : 0 ≤ x → V p l e R s m args below meth c nL cells slots Q A L σ tgt lv st) (kf : ¬ 0 ≤ x → V p l e R s m args below meth c nL cells slots Q A L σ (pc + 3) lv st) : V p l e R s m args below meth c nL cells slots Q A L σ pc lv (.int x :: st) := fun H locs ls hP hS hl => lv_if_ge C.1 C.2.1 d ht (fun z => kt z H locs ls hP hS hl) (fun z => kf z H locs ls hP hS hl)
theorem v_if_gt (C : Cx p R s m args meth c own cc nL cells slots A L) {x : Int32} {off : Int} {tgt : Nat} (d : decode cc pc = .ok (.ifCond .gt off, 3)) (ht : (pc : Int) + off = (tgt : Int)) (kt : 0 < x → V p l e R s m args below meth c nL cells slots Q A L σ tgt lv st) (kf : ¬ 0 < x → V p l e R s m args below meth c nL cells slots Q A L σ (pc + 3) lv st) : V p l e R s m args below meth c nL cells slots Q A L σ pc lv (.int x :: st) := fun H locs ls hP hS hl => lv_if_gt C.1 C.2.1 d ht (fun z => kt z H locs ls hP hS hl) (fun z => kf z H locs ls hP hS hl)
theorem v_if_le (C : Cx p R s m args meth c own cc nL cells slots A L) {x : Int32} {off : Int} {tgt : Nat} (d : decode cc pc = .ok (.ifCond .le off, 3)) (ht : (pc : Int) + off = (tgt : Int)) (kt : x ≤ 0 → V p l e R s m args below meth c nL cells slots Q A L σ tgt lv st) (kf : ¬ x ≤ 0 → V p l e R s m args below meth c nL cells slots Q A L σ (pc + 3) lv st) : V p l e R s m args below meth c nL cells slots Q A L σ pc lv (.int x :: st) := fun H locs ls hP hS hl => lv_if_le C.1 C.2.1 d ht (fun z => kt z H locs ls hP hS hl) (fun z => kf z H locs ls hP hS hl)
theorem v_icmp_eq (C : Cx p R s m args meth c own cc nL cells slots A L) {x y : Int32} {off : Int} {tgt : Nat} (d : decode cc pc = .ok (.if_icmp .eq off, 3)) (ht : (pc : Int) + off = (tgt : Int)) (kt : x = y → V p l e R s m args below meth c nL cells slots Q A L σ tgt lv st) (kf : ¬ x = y → V p l e R s m args below meth c nL cells slots Q A L σ (pc + 3) lv st) : V p l e R s m args below meth c nL cells slots Q A L σ pc lv (.int y :: .int x :: st) := fun H locs ls hP hS hl => lv_icmp_eq C.1 C.2.1 d ht (fun z => kt z H locs ls hP hS hl) (fun z => kf z H locs ls hP hS hl)
theorem v_icmp_ne (C : Cx p R s m args meth c own cc nL cells slots A L) {x y : Int32} {off : Int} {tgt : Nat} (d : decode cc pc = .ok (.if_icmp .ne off, 3)) (ht : (pc : Int) + off = (tgt : Int)) (kt : ¬ x = y → V p l e R s m args below meth c nL cells slots Q A L σ tgt lv st) (kf : x = y → V p l e R s m args below meth c nL cells slots Q A L σ (pc + 3) lv st) : V p l e R s m args below meth c nL cells slots Q A L σ pc lv (.int y :: .int x :: st) := fun H locs ls hP hS hl => lv_icmp_ne C.1 C.2.1 d ht (fun z => kt z H locs ls hP hS hl) (fun z => kf z H locs ls hP hS hl)
theorem v_icmp_lt (C : Cx p R s m args meth c own cc nL cells slots A L) {x y : Int32} {off : Int} {tgt : Nat} (d : decode cc pc = .ok (.if_icmp .lt off, 3)) (ht : (pc : Int) + off = (tgt : Int)) (kt : x < y → V p l e R s m args below meth c nL cells slots Q A L σ tgt lv st) (kf : ¬ x < y → V p l e R s m args below meth c nL cells slots Q A L σ (pc + 3) lv st) : V p l e R s m args below meth c nL cells slots Q A L σ pc lv (.int y :: .int x :: st) := fun H locs ls hP hS hl => lv_icmp_lt C.1 C.2.1 d ht (fun z => kt z H locs ls hP hS hl) (fun z => kf z H locs ls hP hS hl)
theorem v_icmp_ge (C : Cx p R s m args meth c own cc nL cells slots A L) {x y : Int32} {off : Int} {tgt : Nat} (d : decode cc pc = .ok (.if_icmp .ge off, 3)) (ht : (pc : Int) + off = (tgt : Int)) (kt : y ≤ x → V p l e R s m args below meth c nL cells slots Q A L σ tgt lv st) (kf : ¬ y ≤ x → V p l e R s m args below meth c nL cells slots Q A L σ (pc + 3) lv st) : V p l e R s m args below meth c nL cells slots Q A L σ pc lv (.int y :: .int x :: st) := fun H locs ls hP hS hl => lv_icmp_ge C.1 C.2.1 d ht (fun z => kt z H locs ls hP hS hl) (fun z => kf z H locs ls hP hS hl)
theorem v_icmp_gt (C : Cx p R s m args meth c own cc nL cells slots A L) {x y : Int32} {off : Int} {tgt : Nat} (d : decode cc pc = .ok (.if_icmp .gt off, 3)) (ht : (pc : Int) + off = (tgt : Int)) (kt : y < x → V p l e R s m args below meth c nL cells slots Q A L σ tgt lv st) (kf : ¬ y < x → V p l e R s m args below meth c nL cells slots Q A L σ (pc + 3) lv st) : V p l e R s m args below meth c nL cells slots Q A L σ pc lv (.int y :: .int x :: st) := fun H locs ls hP hS hl => lv_icmp_gt C.1 C.2.1 d ht (fun z => kt z H locs ls hP hS hl) (fun z => kf z H locs ls hP hS hl)
theorem v_icmp_le (C : Cx p R s m args meth c own cc nL cells slots A L) {x y : Int32} {off : Int} {tgt : Nat} (d : decode cc pc = .ok (.if_icmp .le off, 3)) (ht : (pc : Int) + off = (tgt : Int)) (kt : x ≤ y → V p l e R s m args below meth c nL cells slots Q A L σ tgt lv st) (kf : ¬ x ≤ y → V p l e R s m args below meth c nL cells slots Q A L σ (pc + 3) lv st) : V p l e R s m args below meth c nL cells slots Q A L σ pc lv (.int y :: .int x :: st) := fun H locs ls hP hS hl => lv_icmp_le C.1 C.2.1 d ht (fun z => kt z H locs ls hP hS hl) (fun z => kf z H locs ls hP hS hl)
theorem v_goto (C : Cx p R s m args meth c own cc nL cells slots A L) {off : Int} {tgt : Nat} (d : decode cc pc = .ok (.goto off, 3)) (ht : (pc : Int) + off = (tgt : Int)) (k : V p l e R s m args below meth c nL cells slots Q A L σ tgt lv st) : V p l e R s m args below meth c nL cells slots Q A L σ pc lv st := fun H locs ls hP hS hl => lv_goto C.1 C.2.1 d ht (k H locs ls hP hS hl)
theorem v_tabOut (C : Cx p R s m args meth c own cc nL cells slots A L) {x : Int32} {dflt lo hi : Int} {offs : Array Int} {len tgt : Nat} (d : decode cc pc = .ok (.tableswitch dflt lo hi offs, len)) (h : x.toInt < lo ∨ hi < x.toInt) (ht : (pc : Int) + dflt = (tgt : Int)) (k : V p l e R s m args below meth c nL cells slots Q A L σ tgt lv st) : V p l e R s m args below meth c nL cells slots Q A L σ pc lv (.int x :: st) := fun H locs ls hP hS hl => lv_tableOut C.1 C.2.1 d h ht (k H locs ls hP hS hl)
theorem v_tabIn (C : Cx p R s m args meth c own cc nL cells slots A L) {x v : Int32} {dflt lo hi off : Int} {offs : Array Int} {len tgt : Nat} (d : decode cc pc = .ok (.tableswitch dflt lo hi offs, len)) (hx : x = v) (h1 : ¬ v.toInt < lo) (h2 : ¬ hi < v.toInt) (ho : offs[(v.toInt - lo).toNat]? = some off) (ht : (pc : Int) + off = (tgt : Int)) (k : V p l e R s m args below meth c nL cells slots Q A L σ tgt lv st) : V p l e R s m args below meth c nL cells slots Q A L σ pc lv (.int x :: st) := fun H locs ls hP hS hl => lv_tableIn C.1 C.2.1 d (by rw [hx]; exact h1) (by rw [hx]; exact h2) (by rw [hx]; exact ho) ht (k H locs ls hP hS hl)
theorem v_null (C : Cx p R s m args meth c own cc nL cells slots A L) (d : decode cc pc = .ok (.aconst_null, 1)) (k : V p l e R s m args below meth c nL cells slots Q A L σ (pc + 1) lv (.null :: st)) : V p l e R s m args below meth c nL cells slots Q A L σ pc lv st := fun H locs ls hP hS hl => lv_null C.1 C.2.1 d (k H locs ls hP hS hl)
theorem v_ifnull (C : Cx p R s m args meth c own cc nL cells slots A L) {x : Nat} {off : Int} (d : decode cc pc = .ok (.ifnull off, 3)) (k : V p l e R s m args below meth c nL cells slots Q A L σ (pc + 3) lv st) : V p l e R s m args below meth c nL cells slots Q A L σ pc lv (.ref x :: st) := fun H locs ls hP hS hl => lv_ifnull C.1 C.2.1 d (k H locs ls hP hS hl)
theorem v_ifnullN (C : Cx p R s m args meth c own cc nL cells slots A L) {off : Int} {tgt : Nat} (d : decode cc pc = .ok (.ifnull off, 3)) (ht : (pc : Int) + off = (tgt : Int)) (k : V p l e R s m args below meth c nL cells slots Q A L σ tgt lv st) : V p l e R s m args below meth c nL cells slots Q A L σ pc lv (.null :: st) := fun H locs ls hP hS hl => lv_ifnullN C.1 C.2.1 d ht (k H locs ls hP hS hl)
theorem v_ifnonnull (C : Cx p R s m args meth c own cc nL cells slots A L) {x : Nat} {off : Int} {tgt : Nat} (d : decode cc pc = .ok (.ifnonnull off, 3)) (ht : (pc : Int) + off = (tgt : Int)) (k : V p l e R s m args below meth c nL cells slots Q A L σ tgt lv st) : V p l e R s m args below meth c nL cells slots Q A L σ pc lv (.ref x :: st) := fun H locs ls hP hS hl => lv_ifnonnull C.1 C.2.1 d ht (k H locs ls hP hS hl)
theorem v_ifnonnullN (C : Cx p R s m args meth c own cc nL cells slots A L) {off : Int} (d : decode cc pc = .ok (.ifnonnull off, 3)) (k : V p l e R s m args below meth c nL cells slots Q A L σ (pc + 3) lv st) : V p l e R s m args below meth c nL cells slots Q A L σ pc lv (.null :: st) := fun H locs ls hP hS hl => lv_ifnonnullN C.1 C.2.1 d (k H locs ls hP hS hl)
theorem v_get (C : Cx p R s m args meth c own cc nL cells slots A L) {ci N j c0 k idx : Nat} {Cn ref : String} {T : u_T} {fs : List Value} {v : Value} (hcl : vwCl[ci]? = some (Cn, T, N)) (hin : ∀ w ∈ u_ws Cn T N, w ∈ wA) (hj : j < N) (href : (T j).1 = ref) (hc0 : c0 < 99) (he : lay L c0 k (σ k) = .inr (ci, fs)) (hv : fs[j]? = some v) (hk : kd k = c0) (hlink : Cond.fieldLink own idx ref (T j).2.1 (T j).2.2.1 ∈ wA) (d : decode cc pc = .ok (.getfield idx, 3)) (kk : V p l e R s m args below meth c nL cells slots Q A L σ (pc + 3) lv (v :: st)) : V p l e R s m args below meth c nL cells slots Q A L σ pc lv (.ref (lad L k) :: st) := by
  subst href
  exact fun H locs ls hP hS hl => va_get C.1 C.2.1 C.2.2.2.2.1 hin C.2.2.2.1 C.2.2.2.2.2.1 hP k (by rw [wd_at hk hc0, he]) hcl j hj (C.2.2.2.2.1 _ hlink) (fun _ h => h) hv d (kk H locs ls hP hS hl)
theorem v_put (C : Cx p R s m args meth c own cc nL cells slots A L) {ci N j c0 k idx : Nat} {Cn ref : String} {T : u_T} {ty0 : Nat → FieldType} {fs : List Value} {x : Int32} (hcl : vwCl[ci]? = some (Cn, T, N)) (hin : ∀ w ∈ u_ws Cn T N, w ∈ wA) (hty : ∀ k, k < N → parseFieldDescriptor (T k).2.2.1 = some (ty0 k)) (hnm : ∀ a, a < N → ∀ b, b < N → a ≠ b → (T a).2.1 ≠ (T b).2.1) (hj : j < N) (href : (T j).1 = ref) (hfin : (T j).2.2.2 = false) (hc0 : c0 < 99) (he : lay L c0 k (σ k) = .inr (ci, fs)) (he2 : lay L c0 k (upd (σ k) j x) = .inr (ci, fs.set j (.int x))) (hl : j < fs.length) (hn : narrow (ty0 j) (.int x) = .int x) (hfit : fits (ty0 j) (.int x) = true) (hk : kd k = c0) (hlink : Cond.fieldLink own idx ref (T j).2.1 (T j).2.2.1 ∈ wA) (d : decode cc pc = .ok (.putfield idx, 3)) (kk : ∀ σ1, σ1 = mu σ k j x → V p l e R s m args below meth c nL cells slots Q A L σ1 (pc + 3) lv st) : V p l e R s m args below meth c nL cells slots Q A L σ pc lv (.int x :: .ref (lad L k) :: st) := by
  subst href
  refine fun H locs ls hP hS hl2 => va_put (ty := ty0 j) C.1 C.2.1 C.2.2.2.2.1 hin ty0 hty hnm C.2.2.2.1 C.2.2.2.2.2.1 hP (C.2.2.2.2.2.2.1 σ) hS k (by rw [wd_at hk hc0, he]) hcl j hj (C.2.2.2.2.1 _ hlink) (fun _ h => h) hfin (hty j hj) hn hfit hl d (fun H1 locs1 hP1 hD1 hS1 => ?_)
  refine kk (mu σ k j x) rfl H1 locs1 ls ?_ hS1 hl2
  rw [← he2, wd_set hk hc0] at hP1
  exact hP1
theorem v_iald (C : Cx p R s m args meth c own cc nL cells slots A L) {c0 k n : Nat} {i : Int32} (hc0 : c0 < 99) (he : lay L c0 k (σ k) = .inl (lA L 0, n, .inl (σ k))) (hk : kd k = c0) (hin : vp_in i n) (d : decode cc pc = .ok (.iaload, 1)) (kk : V p l e R s m args below meth c nL cells slots Q A L σ (pc + 1) lv (.int (σ k (ix i)) :: st)) : V p l e R s m args below meth c nL cells slots Q A L σ pc lv (.int i :: .ref (lad L k) :: st) := fun H locs ls hP hS hl => va_iald C.1 C.2.1 C.2.2.2.2.2.1 hP k 0 (by rw [wd_at hk hc0, he]) rfl hin d (kk H locs ls hP hS hl)
theorem v_cald (C : Cx p R s m args meth c own cc nL cells slots A L) {c0 k n : Nat} {i : Int32} (hc0 : c0 < 99) (he : lay L c0 k (σ k) = .inl (lA L 1, n, .inl (σ k))) (hk : kd k = c0) (hin : vp_in i n) (d : decode cc pc = .ok (.caload, 1)) (kk : V p l e R s m args below meth c nL cells slots Q A L σ (pc + 1) lv (.int (σ k (ix i)) :: st)) : V p l e R s m args below meth c nL cells slots Q A L σ pc lv (.int i :: .ref (lad L k) :: st) := fun H locs ls hP hS hl => va_cald C.1 C.2.1 C.2.2.2.2.2.1 hP k 1 (by rw [wd_at hk hc0, he]) rfl hin d (kk H locs ls hP hS hl)
theorem v_iast (C : Cx p R s m args meth c own cc nL cells slots A L) {c0 k n : Nat} {i x : Int32} (hc0 : c0 < 99) (he : ∀ f, lay L c0 k f = .inl (lA L 0, n, .inl f)) (hk : kd k = c0) (hin : vp_in i n) (d : decode cc pc = .ok (.iastore, 1)) (kk : ∀ σ1, σ1 = mu σ k (ix i) x → V p l e R s m args below meth c nL cells slots Q A L σ1 (pc + 1) lv st) : V p l e R s m args below meth c nL cells slots Q A L σ pc lv (.int x :: .int i :: .ref (lad L k) :: st) := by
  refine fun H locs ls hP hS hl => va_iast C.1 C.2.1 C.2.2.2.2.2.1 hP (C.2.2.2.2.2.2.1 σ) hS k 0 (by rw [wd_at hk hc0, he]) rfl hin d (fun H1 locs1 hP1 hD1 hS1 => ?_)
  refine kk (mu σ k (ix i) x) rfl H1 locs1 ls ?_ hS1 hl
  rw [← he, wd_set hk hc0] at hP1
  exact hP1
theorem v_cast (C : Cx p R s m args meth c own cc nL cells slots A L) {c0 k n : Nat} {i x : Int32} (hc0 : c0 < 99) (he : ∀ f, lay L c0 k f = .inl (lA L 1, n, .inl f)) (hk : kd k = c0) (hin : vp_in i n) (d : decode cc pc = .ok (.castore, 1)) (kk : ∀ σ1, σ1 = mu σ k (ix i) (vp_nar .char x) → V p l e R s m args below meth c nL cells slots Q A L σ1 (pc + 1) lv st) : V p l e R s m args below meth c nL cells slots Q A L σ pc lv (.int x :: .int i :: .ref (lad L k) :: st) := by
  refine fun H locs ls hP hS hl => va_cast C.1 C.2.1 C.2.2.2.2.2.1 hP (C.2.2.2.2.2.2.1 σ) hS k 1 (by rw [wd_at hk hc0, he]) rfl hin d (fun H1 locs1 hP1 hD1 hS1 => ?_)
  refine kk (mu σ k (ix i) (vp_nar .char x)) rfl H1 locs1 ls ?_ hS1 hl
  rw [← he, wd_set hk hc0] at hP1
  exact hP1
theorem v_aald (C : Cx p R s m args meth c own cc nL cells slots A L) {c0 k n t0 : Nat} {cA : ClassId} {Cn : String} {f : Nat → Option Nat} {i : Int32} {v : Value} (hc0 : c0 < 99) (he : lay L c0 k (σ k) = .inl (cA, n, .inr (.inr (.inr (.inr f))))) (ht : (tysL L)[t0]? = some (cA, .object Cn)) (hv : va_rf (f (ix i)) = v) (hk : kd k = c0) (hin : vp_in i n) (d : decode cc pc = .ok (.aaload, 1)) (kk : V p l e R s m args below meth c nL cells slots Q A L σ (pc + 1) lv (v :: st)) : V p l e R s m args below meth c nL cells slots Q A L σ pc lv (.int i :: .ref (lad L k) :: st) := by
  subst hv
  exact fun H locs ls hP hS hl => va_aldq C.1 C.2.1 C.2.2.2.2.2.1 hP k t0 (by rw [wd_at hk hc0, he]) ht hin d (kk H locs ls hP hS hl)
theorem v_copy (C : Cx p R s m args meth c own cc nL cells slots A L) {c0 k0 k1 n idx : Nat} (hc0 : c0 < 99) (he : ∀ k f, lay L c0 k f = .inl (lA L 0, n, .inl f)) (hk0 : kd k0 = c0) (hk1 : kd k1 = c0) {x : Int32} (h3 : ¬ x < 0) (h4 : x.toNatClampNeg ≤ n) (hw : Cond.methodLink own idx arraycopyName ∈ wA) (hfr : 1 ≤ R.frames) (hlo : (st.map fun v => v.category).sum + (nativeFrameWords "java/lang/System" "arraycopy" 5 + 11) ≤ R.locals) (d : decode cc pc = .ok (.invokestatic idx, 3)) (kk : ∀ σ1, σ1 = ms σ k1 (va_cpy (σ k0) (σ k1) 0 0 x.toNatClampNeg) → V p l e R s m args below meth c nL cells slots Q A L σ1 (pc + 3) lv st) : V p l e R s m args below meth c nL cells slots Q A L σ pc lv (.int x :: .int 0 :: .ref (lad L k1) :: .int 0 :: .ref (lad L k0) :: st) := by
  refine fun H locs ls hP hS hl => va_copyi (ty := .int) C.1 C.2.1 (C.2.2.1.trans hl.1.symm) C.2.2.2.1 (C.2.2.2.2.1 _ hw) (C.2.2.2.2.1 _ mO_6) (C.2.2.2.2.1 _ mO_7) (C.2.2.2.2.1 _ mZ_System) C.2.2.2.2.2.1 hP (C.2.2.2.2.2.2.1 σ) hS k0 k1 0 0 (by rw [wd_at hk0 hc0, he]) (by rw [wd_at hk1 hc0, he]) rfl rfl rfl (by decide) (by decide) h3 (by simpa using h4) (by simpa using h4) (fun _ _ => rfl) hfr hlo d (fun H1 locs1 hP1 hD1 hS1 => ?_)
  refine kk _ rfl H1 locs1 ls ?_ hS1 hl
  rw [← he k1, wd_set hk1 hc0] at hP1
  exact hP1
theorem v_mmax (C : Cx p R s m args meth c own cc nL cells slots A L) {idx : Nat} {x y : Int32} (hw : Cond.methodLink own idx Lib.Math.max.name ∈ wA) (hfr : 1 ≤ R.frames) (hlo : (st.map fun v => v.category).sum + 13 ≤ R.locals) (d : decode cc pc = .ok (.invokestatic idx, 3)) (kk : V p l e R s m args below meth c nL cells slots Q A L σ (pc + 3) lv (.int (if x < y then y else x) :: st)) : V p l e R s m args below meth c nL cells slots Q A L σ pc lv (.int y :: .int x :: st) := fun H locs ls hP hS hl => va_mmax C.1 C.2.1 (C.2.2.1.trans hl.1.symm) C.2.2.2.1 (C.2.2.2.2.1 _ hw) (C.2.2.2.2.1 _ mO_8) (C.2.2.2.2.1 _ mZ_Math) (C.2.2.2.2.1 _ mO_9) hfr hlo C.2.2.2.2.2.2.2.2.2.1.1 C.2.2.2.2.2.2.2.2.2.1.2 d (kk H locs ls hP hS hl)
theorem v_mmin (C : Cx p R s m args meth c own cc nL cells slots A L) {idx : Nat} {x y : Int32} (hw : Cond.methodLink own idx Lib.Math.min.name ∈ wA) (hfr : 1 ≤ R.frames) (hlo : (st.map fun v => v.category).sum + 13 ≤ R.locals) (d : decode cc pc = .ok (.invokestatic idx, 3)) (kk : V p l e R s m args below meth c nL cells slots Q A L σ (pc + 3) lv (.int (if y < x then y else x) :: st)) : V p l e R s m args below meth c nL cells slots Q A L σ pc lv (.int y :: .int x :: st) := fun H locs ls hP hS hl => va_mmin C.1 C.2.1 (C.2.2.1.trans hl.1.symm) C.2.2.2.1 (C.2.2.2.2.1 _ hw) (C.2.2.2.2.1 _ mO_4) (C.2.2.2.2.1 _ mZ_Math) (C.2.2.2.2.1 _ mO_5) hfr hlo C.2.2.2.2.2.2.2.2.2.1.1 C.2.2.2.2.2.2.2.2.2.1.2 d (kk H locs ls hP hS hl)
theorem mA_sub {sz : Nat} (C : Cx p R s m args meth c own cc nL cells slots A L) (h : s.heap.size ≤ sz) : ∀ q, mA L sz q → A q := by
  intro q hq
  rcases hq with ⟨k, hk, rfl⟩ | hq
  · exact (C.2.2.2.2.2.2.1 (fun _ _ => 0)).2 k (lad L k, lay L (kd k) k (fun _ => 0)) (by simp [wd, hk])
  · exact C.2.2.2.2.2.2.2.1 q (Nat.le_trans h hq)
theorem mB_call {H : Heap} {locs : List Loc} (C : Cx p R s m args meth c own cc nL cells slots A L) (hP : va_P (dd L) vwCl (wd L σ) H) (hS : va_S A s.heap H locs) (U : State) (hU : U.heap = H) (hW : s.WarmedH U.vm) : mB L H.size σ U := by
  refine ⟨by rw [hU], by rw [hU]; exact hP, va_K.moved hW.alike C.2.2.2.2.2.1, C.2.2.2.2.2.2.2.2.2.2, ?_⟩
  rw [hU]
  exact ((C.2.2.2.2.2.2.2.2.1.kept hS.2.1).narrow (mA_sub C hS.1)).warm hW
theorem v_callVi (C : Cx p R s m args meth c own cc nL cells slots A L) {idx k c0 ci maxL : Nat} {y : MethodName} {bytes : ByteArray} {ret : Option FieldType} {rm : Room} {fs : List Value} {q : vw_C} (as : List Value) {K : Int32 → Mem → Prop} (hM : ∀ sz, Met l y (.code y bytes maxL ret :: wA) rm (va_Pc (.ref (lad L k) :: as) (mB L sz σ)) (va_Qi K (mE L) (mA L sz)) 0 0 (mA L sz)) (hmc : Cond.code y bytes maxL ret ∈ wA) (hmz : Cond.initialized y.cls ∈ wA) (hd : y.cls ≠ "java/lang/invoke/MethodHandle" ∧ y.cls ≠ "java/lang/invoke/VarHandle" ∧ (parseMethodDescriptor y.desc).map (fun d => d.parameters.length) = some as.length) (hmi : Cond.instanceMethod y ∈ wA) (hms : Cond.selects y.cls y y ∈ wA) (hrc : rm.cells = 0) (hrs : rm.slots = 0) (hc0 : c0 < 99) (he : lay L c0 k (σ k) = .inr (ci, fs)) (hcl : vwCl[ci]? = some q) (hq : q.1 = y.cls) (hk : kd k = c0) (hml : Cond.methodLink own idx y ∈ wA) (hR : rm.frames + 1 ≤ R.frames ∧ 8 + (maxL + 11) + rm.locals ≤ R.locals) (hst : st0 = as.reverse ++ .ref (lad L k) :: st) (hsum : (st.map fun v => v.category).sum ≤ 8) (d : decode cc pc = .ok (.invokevirtual idx, 3)) (kk : ∀ r σ1, K r σ1 → V p l e R s m args below meth c nL cells slots Q A L σ1 (pc + 3) lv (.int r :: st)) : V p l e R s m args below meth c nL cells slots Q A L σ pc lv st0 := by
  intro H locs ls hP hS hl
  subst hst
  refine va_calli (va_runV (C := y.cls) (As := as) (rest := st) ⟨C.1, C.2.1, C.2.2.1, C.2.2.2.1, C.2.2.2.2.1⟩ (hM H.size) ⟨callB_of as.length C.2.2.2.2.1 (fun w h => (List.mem_cons.mp h).elim (fun e => by rw [e]; exact gA _ hmc) (fun h => gA w h)) rfl hrc hrs (C.2.2.2.2.1 _ hmz) (C.2.2.2.2.1 _ hml) hd hR, C.2.2.2.2.1 _ hmi, C.2.2.2.2.1 _ hms⟩ ⟨mB_blind L H.size σ _, ?_, fun U hU hW => ⟨rfl, mB_call C hP hS U hU hW⟩⟩ rfl rfl hl.1 rfl (lv_room hsum) d C.2.2.2.2.2.2.2.2.2.1) hS (fun q _ h => mA_sub C hS.1 q h) (mA_sub C hS.1) (fun r u t H1 locs1 ht hvm hw hB hz1 hk1 hS1 => kk r u hw H1 locs1 ls (by rw [← ht]; exact hB) hS1 hl)
  rw [← hq]
  exact va_recv C.2.2.2.2.2.1 hP hcl (by rw [wd_at hk hc0, he])
theorem v_callSi (C : Cx p R s m args meth c own cc nL cells slots A L) {idx maxL : Nat} {y : MethodName} {bytes : ByteArray} {ret : Option FieldType} {rm : Room} (as : List Value) {K : Int32 → Mem → Prop} (hM : ∀ sz, Met l y (.code y bytes maxL ret :: wA) rm (va_Pc as (mB L sz σ)) (va_Qi K (mE L) (mA L sz)) 0 0 (mA L sz)) (hmc : Cond.code y bytes maxL ret ∈ wA) (hmz : Cond.initialized y.cls ∈ wA) (hd : y.cls ≠ "java/lang/invoke/MethodHandle" ∧ y.cls ≠ "java/lang/invoke/VarHandle" ∧ (parseMethodDescriptor y.desc).map (fun d => d.parameters.length) = some as.length) (hmt : Cond.static y ∈ wA) (hrc : rm.cells = 0) (hrs : rm.slots = 0) (hml : Cond.methodLink own idx y ∈ wA) (hR : rm.frames + 1 ≤ R.frames ∧ 8 + (maxL + 11) + rm.locals ≤ R.locals) (hst : st0 = as.reverse ++ st) (hsum : (st.map fun v => v.category).sum ≤ 8) (d : decode cc pc = .ok (.invokestatic idx, 3)) (kk : ∀ r σ1, K r σ1 → V p l e R s m args below meth c nL cells slots Q A L σ1 (pc + 3) lv (.int r :: st)) : V p l e R s m args below meth c nL cells slots Q A L σ pc lv st0 := by
  intro H locs ls hP hS hl
  subst hst
  exact va_calli (va_runS (As := as) (rest := st) ⟨C.1, C.2.1, C.2.2.1, C.2.2.2.1, C.2.2.2.2.1⟩ (hM H.size) ⟨callB_of as.length C.2.2.2.2.1 (fun w h => (List.mem_cons.mp h).elim (fun e => by rw [e]; exact gA _ hmc) (fun h => gA w h)) rfl hrc hrs (C.2.2.2.2.1 _ hmz) (C.2.2.2.2.1 _ hml) hd hR, C.2.2.2.2.1 _ hmt⟩ ⟨mB_blind L H.size σ _, fun U hU hW => ⟨rfl, mB_call C hP hS U hU hW⟩⟩ rfl rfl hl.1 rfl (lv_room hsum) d C.2.2.2.2.2.2.2.2.2.1) hS (fun q _ h => mA_sub C hS.1 q h) (mA_sub C hS.1) (fun r u t H1 locs1 ht hvm hw hB hz1 hk1 hS1 => kk r u hw H1 locs1 ls (by rw [← ht]; exact hB) hS1 hl)
theorem v_callVv (C : Cx p R s m args meth c own cc nL cells slots A L) {idx k c0 ci maxL : Nat} {y : MethodName} {bytes : ByteArray} {ret : Option FieldType} {rm : Room} {fs : List Value} {q : vw_C} (as : List Value) {K : Mem → Prop} (hM : ∀ sz, Met l y (.code y bytes maxL ret :: wA) rm (va_Pc (.ref (lad L k) :: as) (mB L sz σ)) (va_Qv K (mE L) (mA L sz)) 0 0 (mA L sz)) (hmc : Cond.code y bytes maxL ret ∈ wA) (hmz : Cond.initialized y.cls ∈ wA) (hd : y.cls ≠ "java/lang/invoke/MethodHandle" ∧ y.cls ≠ "java/lang/invoke/VarHandle" ∧ (parseMethodDescriptor y.desc).map (fun d => d.parameters.length) = some as.length) (hmi : Cond.instanceMethod y ∈ wA) (hms : Cond.selects y.cls y y ∈ wA) (hrc : rm.cells = 0) (hrs : rm.slots = 0) (hc0 : c0 < 99) (he : lay L c0 k (σ k) = .inr (ci, fs)) (hcl : vwCl[ci]? = some q) (hq : q.1 = y.cls) (hk : kd k = c0) (hml : Cond.methodLink own idx y ∈ wA) (hR : rm.frames + 1 ≤ R.frames ∧ 8 + (maxL + 11) + rm.locals ≤ R.locals) (hst : st0 = as.reverse ++ .ref (lad L k) :: st) (hsum : (st.map fun v => v.category).sum ≤ 8) (d : decode cc pc = .ok (.invokevirtual idx, 3)) (kk : ∀ σ1, K σ1 → V p l e R s m args below meth c nL cells slots Q A L σ1 (pc + 3) lv st) : V p l e R s m args below meth c nL cells slots Q A L σ pc lv st0 := by
  intro H locs ls hP hS hl
  subst hst
  refine va_callv (va_runV (C := y.cls) (As := as) (rest := st) ⟨C.1, C.2.1, C.2.2.1, C.2.2.2.1, C.2.2.2.2.1⟩ (hM H.size) ⟨callB_of as.length C.2.2.2.2.1 (fun w h => (List.mem_cons.mp h).elim (fun e => by rw [e]; exact gA _ hmc) (fun h => gA w h)) rfl hrc hrs (C.2.2.2.2.1 _ hmz) (C.2.2.2.2.1 _ hml) hd hR, C.2.2.2.2.1 _ hmi, C.2.2.2.2.1 _ hms⟩ ⟨mB_blind L H.size σ _, ?_, fun U hU hW => ⟨rfl, mB_call C hP hS U hU hW⟩⟩ rfl rfl hl.1 rfl (lv_room hsum) d C.2.2.2.2.2.2.2.2.2.1) hS (fun q _ h => mA_sub C hS.1 q h) (mA_sub C hS.1) (fun u t H1 locs1 ht hvm hw hB hz1 hk1 hS1 => kk u hw H1 locs1 ls (by rw [← ht]; exact hB) hS1 hl)
  rw [← hq]
  exact va_recv C.2.2.2.2.2.1 hP hcl (by rw [wd_at hk hc0, he])
theorem v_callSv (C : Cx p R s m args meth c own cc nL cells slots A L) {idx maxL : Nat} {y : MethodName} {bytes : ByteArray} {ret : Option FieldType} {rm : Room} (as : List Value) {K : Mem → Prop} (hM : ∀ sz, Met l y (.code y bytes maxL ret :: wA) rm (va_Pc as (mB L sz σ)) (va_Qv K (mE L) (mA L sz)) 0 0 (mA L sz)) (hmc : Cond.code y bytes maxL ret ∈ wA) (hmz : Cond.initialized y.cls ∈ wA) (hd : y.cls ≠ "java/lang/invoke/MethodHandle" ∧ y.cls ≠ "java/lang/invoke/VarHandle" ∧ (parseMethodDescriptor y.desc).map (fun d => d.parameters.length) = some as.length) (hmt : Cond.static y ∈ wA) (hrc : rm.cells = 0) (hrs : rm.slots = 0) (hml : Cond.methodLink own idx y ∈ wA) (hR : rm.frames + 1 ≤ R.frames ∧ 8 + (maxL + 11) + rm.locals ≤ R.locals) (hst : st0 = as.reverse ++ st) (hsum : (st.map fun v => v.category).sum ≤ 8) (d : decode cc pc = .ok (.invokestatic idx, 3)) (kk : ∀ σ1, K σ1 → V p l e R s m args below meth c nL cells slots Q A L σ1 (pc + 3) lv st) : V p l e R s m args below meth c nL cells slots Q A L σ pc lv st0 := by
  intro H locs ls hP hS hl
  subst hst
  exact va_callv (va_runS (As := as) (rest := st) ⟨C.1, C.2.1, C.2.2.1, C.2.2.2.1, C.2.2.2.2.1⟩ (hM H.size) ⟨callB_of as.length C.2.2.2.2.1 (fun w h => (List.mem_cons.mp h).elim (fun e => by rw [e]; exact gA _ hmc) (fun h => gA w h)) rfl hrc hrs (C.2.2.2.2.1 _ hmz) (C.2.2.2.2.1 _ hml) hd hR, C.2.2.2.2.1 _ hmt⟩ ⟨mB_blind L H.size σ _, fun U hU hW => ⟨rfl, mB_call C hP hS U hU hW⟩⟩ rfl rfl hl.1 rfl (lv_room hsum) d C.2.2.2.2.2.2.2.2.2.1) hS (fun q _ h => mA_sub C hS.1 q h) (mA_sub C hS.1) (fun u t H1 locs1 ht hvm hw hB hz1 hk1 hS1 => kk u hw H1 locs1 ls (by rw [← ht]; exact hB) hS1 hl)
theorem v_callVe (C : Cx p R s m args meth c own cc nL cells slots A L) {idx k c0 ci maxL : Nat} {y : MethodName} {bytes : ByteArray} {ret : Option FieldType} {rm : Room} {fs : List Value} {q : vw_C} (as : List Value) {K : Option Nat → Mem → Prop} (hM : ∀ sz, Met l y (.code y bytes maxL ret :: wA) rm (va_Pc (.ref (lad L k) :: as) (mB L sz σ)) (va_Qe (lad L) K (mE L) (mA L sz)) 0 0 (mA L sz)) (hmc : Cond.code y bytes maxL ret ∈ wA) (hmz : Cond.initialized y.cls ∈ wA) (hd : y.cls ≠ "java/lang/invoke/MethodHandle" ∧ y.cls ≠ "java/lang/invoke/VarHandle" ∧ (parseMethodDescriptor y.desc).map (fun d => d.parameters.length) = some as.length) (hmi : Cond.instanceMethod y ∈ wA) (hms : Cond.selects y.cls y y ∈ wA) (hrc : rm.cells = 0) (hrs : rm.slots = 0) (hc0 : c0 < 99) (he : lay L c0 k (σ k) = .inr (ci, fs)) (hcl : vwCl[ci]? = some q) (hq : q.1 = y.cls) (hk : kd k = c0) (hml : Cond.methodLink own idx y ∈ wA) (hR : rm.frames + 1 ≤ R.frames ∧ 8 + (maxL + 11) + rm.locals ≤ R.locals) (hst : st0 = as.reverse ++ .ref (lad L k) :: st) (hsum : (st.map fun v => v.category).sum ≤ 8) (d : decode cc pc = .ok (.invokevirtual idx, 3)) (kk : ∀ r σ1, K r σ1 → V p l e R s m args below meth c nL cells slots Q A L σ1 (pc + 3) lv (va_re (lad L) r :: st)) : V p l e R s m args below meth c nL cells slots Q A L σ pc lv st0 := by
  intro H locs ls hP hS hl
  subst hst
  refine va_calle (va_runV (C := y.cls) (As := as) (rest := st) ⟨C.1, C.2.1, C.2.2.1, C.2.2.2.1, C.2.2.2.2.1⟩ (hM H.size) ⟨callB_of as.length C.2.2.2.2.1 (fun w h => (List.mem_cons.mp h).elim (fun e => by rw [e]; exact gA _ hmc) (fun h => gA w h)) rfl hrc hrs (C.2.2.2.2.1 _ hmz) (C.2.2.2.2.1 _ hml) hd hR, C.2.2.2.2.1 _ hmi, C.2.2.2.2.1 _ hms⟩ ⟨mB_blind L H.size σ _, ?_, fun U hU hW => ⟨rfl, mB_call C hP hS U hU hW⟩⟩ rfl rfl hl.1 rfl (lv_room hsum) d C.2.2.2.2.2.2.2.2.2.1) hS (fun q _ h => mA_sub C hS.1 q h) (mA_sub C hS.1) (fun r u t H1 locs1 ht hvm hw hB hz1 hk1 hS1 => kk r u hw H1 locs1 ls (by rw [← ht]; exact hB) hS1 hl)
  rw [← hq]
  exact va_recv C.2.2.2.2.2.1 hP hcl (by rw [wd_at hk hc0, he])
theorem v_callSe (C : Cx p R s m args meth c own cc nL cells slots A L) {idx maxL : Nat} {y : MethodName} {bytes : ByteArray} {ret : Option FieldType} {rm : Room} (as : List Value) {K : Option Nat → Mem → Prop} (hM : ∀ sz, Met l y (.code y bytes maxL ret :: wA) rm (va_Pc as (mB L sz σ)) (va_Qe (lad L) K (mE L) (mA L sz)) 0 0 (mA L sz)) (hmc : Cond.code y bytes maxL ret ∈ wA) (hmz : Cond.initialized y.cls ∈ wA) (hd : y.cls ≠ "java/lang/invoke/MethodHandle" ∧ y.cls ≠ "java/lang/invoke/VarHandle" ∧ (parseMethodDescriptor y.desc).map (fun d => d.parameters.length) = some as.length) (hmt : Cond.static y ∈ wA) (hrc : rm.cells = 0) (hrs : rm.slots = 0) (hml : Cond.methodLink own idx y ∈ wA) (hR : rm.frames + 1 ≤ R.frames ∧ 8 + (maxL + 11) + rm.locals ≤ R.locals) (hst : st0 = as.reverse ++ st) (hsum : (st.map fun v => v.category).sum ≤ 8) (d : decode cc pc = .ok (.invokestatic idx, 3)) (kk : ∀ r σ1, K r σ1 → V p l e R s m args below meth c nL cells slots Q A L σ1 (pc + 3) lv (va_re (lad L) r :: st)) : V p l e R s m args below meth c nL cells slots Q A L σ pc lv st0 := by
  intro H locs ls hP hS hl
  subst hst
  exact va_calle (va_runS (As := as) (rest := st) ⟨C.1, C.2.1, C.2.2.1, C.2.2.2.1, C.2.2.2.2.1⟩ (hM H.size) ⟨callB_of as.length C.2.2.2.2.1 (fun w h => (List.mem_cons.mp h).elim (fun e => by rw [e]; exact gA _ hmc) (fun h => gA w h)) rfl hrc hrs (C.2.2.2.2.1 _ hmz) (C.2.2.2.2.1 _ hml) hd hR, C.2.2.2.2.1 _ hmt⟩ ⟨mB_blind L H.size σ _, fun U hU hW => ⟨rfl, mB_call C hP hS U hU hW⟩⟩ rfl rfl hl.1 rfl (lv_room hsum) d C.2.2.2.2.2.2.2.2.2.1) hS (fun q _ h => mA_sub C hS.1 q h) (mA_sub C hS.1) (fun r u t H1 locs1 ht hvm hw hB hz1 hk1 hS1 => kk r u hw H1 locs1 ls (by rw [← ht]; exact hB) hS1 hl)
theorem v_callNi (C : Cx p R s m args meth c own cc nL cells slots A L) {idx maxL : Nat} {host : String} {y : MethodName} {bytes : ByteArray} {ret : Option FieldType} {rm : Room} (as : List Value) {K : Int32 → Mem → Prop} (hM : ∀ sz, Met l y (.code y bytes maxL ret :: wA) rm (va_Pc as (mB L sz σ)) (va_Qi K (mE L) (mA L sz)) 0 0 (mA L sz)) (hmc : Cond.code y bytes maxL ret ∈ wA) (hmz : Cond.initialized y.cls ∈ wA) (hd : y.cls ≠ "java/lang/invoke/MethodHandle" ∧ y.cls ≠ "java/lang/invoke/VarHandle" ∧ (parseMethodDescriptor y.desc).map (fun d => d.parameters.length) = some as.length) (hmt : Cond.static y ∈ wA) (hrc : rm.cells = 0) (hrs : rm.slots = 0) (hml : va_Nw (.methodLinkNest own idx y host) s) (hR : rm.frames + 1 ≤ R.frames ∧ 8 + (maxL + 11) + rm.locals ≤ R.locals) (hst : st0 = as.reverse ++ st) (hsum : (st.map fun v => v.category).sum ≤ 8) (d : decode cc pc = .ok (.invokestatic idx, 3)) (kk : ∀ r σ1, K r σ1 → V p l e R s m args below meth c nL cells slots Q A L σ1 (pc + 3) lv (.int r :: st)) : V p l e R s m args below meth c nL cells slots Q A L σ pc lv st0 := by
  intro H locs ls hP hS hl
  subst hst
  exact va_calli (va_runSN (As := as) (rest := st) ⟨C.1, C.2.1, C.2.2.1, C.2.2.2.1, C.2.2.2.2.1⟩ (hM H.size) ⟨va_cnB as.length C.2.2.2.2.1 (fun w h => (List.mem_cons.mp h).elim (fun e => by rw [e]; exact gA _ hmc) (fun h => gA w h)) rfl hrc hrs hml (C.2.2.2.2.1 _ hmz) hd hR, C.2.2.2.2.1 _ hmt, trivial⟩ ⟨mB_blind L H.size σ _, fun U hU hW => ⟨rfl, mB_call C hP hS U hU hW⟩⟩ rfl rfl hl.1 rfl (lv_room hsum) d C.2.2.2.2.2.2.2.2.2.1) hS (fun q _ h => mA_sub C hS.1 q h) (mA_sub C hS.1) (fun r u t H1 locs1 ht hvm hw hB hz1 hk1 hS1 => kk r u hw H1 locs1 ls (by rw [← ht]; exact hB) hS1 hl)
end VV
section VR
variable {p : Program} {l : Launch} {e : Env} {R : Room} {s : State} {m : MethodId} {args : Array Value} {below : List Frame} {meth : Method} {c : Code} {nL : Nat} {L : Ly} {own : String} {cc : ByteArray} {σ : Mem} {pc sz : Nat} {lv : List (Nat × Value)}
theorem v_iret (C : Cx p R s m args meth c own cc nL 0 0 (mA L sz) L) {x : Int32} {K : Int32 → Mem → Prop} (d : decode cc pc = .ok (.ireturn, 1)) (hr : meth.sig.returnType = some .int) (hlk : meth.locks = false) (h : K x σ) : V p l e R s m args below meth c nL 0 0 (MQ below (va_Qi K (mE L) (mA L sz)) args s 0 0 (mA L sz)) (mA L sz) L σ pc lv [.int x] := fun H locs ls hP hS hl => W.iret C.1 C.2.1 hr (fun t ht hW => ⟨⟨x, σ, rfl, h, by rw [mE, ht]; exact hP⟩, hS.F ht⟩) hS.2.2 d hlk
theorem v_zret (C : Cx p R s m args meth c own cc nL 0 0 (mA L sz) L) {x : Int32} {K : Int32 → Mem → Prop} {ty : FieldType} (d : decode cc pc = .ok (.ireturn, 1)) (hr : meth.sig.returnType = some ty) (hlk : meth.locks = false) (hn : narrow ty (.int x) = .int x) (h : K x σ) : V p l e R s m args below meth c nL 0 0 (MQ below (va_Qi K (mE L) (mA L sz)) args s 0 0 (mA L sz)) (mA L sz) L σ pc lv [.int x] := fun H locs ls hP hS hl => W.zret C.1 C.2.1 hr hn (fun t ht hW => ⟨⟨x, σ, rfl, h, by rw [mE, ht]; exact hP⟩, hS.F ht⟩) hS.2.2 d hlk
theorem v_vret (C : Cx p R s m args meth c own cc nL 0 0 (mA L sz) L) {K : Mem → Prop} (d : decode cc pc = .ok (.return_, 1)) (hr : meth.sig.returnType = none) (hlk : meth.locks = false) (h : K σ) : V p l e R s m args below meth c nL 0 0 (MQ below (va_Qv K (mE L) (mA L sz)) args s 0 0 (mA L sz)) (mA L sz) L σ pc lv [] := fun H locs ls hP hS hl => W.vret C.1 C.2.1 hr (fun t ht hW => ⟨⟨σ, rfl, h, by rw [mE, ht]; exact hP⟩, hS.F ht⟩) hS.2.2 d hlk
theorem v_aret (C : Cx p R s m args meth c own cc nL 0 0 (mA L sz) L) {r : Option Nat} {v : Value} {K : Option Nat → Mem → Prop} {n : String} (d : decode cc pc = .ok (.areturn, 1)) (hr : meth.sig.returnType = some (.object n)) (hlk : meth.locks = false) (hv : v = va_re (lad L) r) (h : K r σ) : V p l e R s m args below meth c nL 0 0 (MQ below (va_Qe (lad L) K (mE L) (mA L sz)) args s 0 0 (mA L sz)) (mA L sz) L σ pc lv [v] := fun H locs ls hP hS hl => W.aret C.1 C.2.1 hr (Or.inl ⟨n, rfl⟩) (by rw [hv]; exact va_re_or _ r) (fun t ht hW => ⟨⟨r, σ, by rw [hv], h, by rw [mE, ht]; exact hP⟩, hS.F ht⟩) hS.2.2 d hlk
end VR
theorem v_start {l : Launch} {y : MethodName} {own : String} {cc : ByteArray} {maxL : Nat} {ret : Option FieldType} {rm : Room} {L : Ly} {sz : Nat} {σ : Mem} {as : List Value} {Qc : Array Value → State → Outcome → State → Prop} (lv0 : List (Nat × Value)) (hy : plainName y.cls = true) (hown : y.cls = own) (hlen : (lg_sl as).length ≤ maxL) (hlv : lv_args 0 as = lv0)
    (body : ∀ p e s m args below meth c, Cx p rm s m args meth c own cc maxL 0 0 (mA L sz) L → meth.sig.returnType = ret → meth.locks = false → V p l e rm s m args below meth c maxL 0 0 (MQ below Qc args s 0 0 (mA L sz)) (mA L sz) L σ 0 lv0 []) : Met l y (.code y cc maxL ret :: wA) rm (va_Pc as (mB L sz σ)) Qc 0 0 (mA L sz) := by
  refine Met.ofW (cc := cc) (maxL := maxL) (ret := ret) hy rfl ?_
  intro p e s m args below meth c s₁ B hml hv
  obtain ⟨rfl, hsz, hP, hK, hap, hX⟩ := hv
  have hts := atoms_spec (ws := .code y cc maxL ret :: wA) B.pre
  have hw : s.vm.findClass own = some m.cls := by rw [← hown]; exact findClass_of_methodNamed B.named
  subst hsz
  have hl := lv_entry as hlen
  rw [lg_entry_eq]
  rw [hlv] at hl
  exact body p e s m as.toArray below meth c ⟨B.exec, B.bytes, hml, hw, fun w h => hts w (List.mem_cons_of_mem _ h), hK, wd_D hap (fun k hk => Or.inl ⟨k, hk, rfl⟩), fun q h => Or.inr h, hX, ⟨Nat.zero_le _, Nat.zero_le _⟩, hap⟩ B.returns B.notSynchronized s.heap [] _ hP va_S.rf hl
end
section
theorem kd_of (c d o : Nat) (hd : (List.range 311).all (fun k => decide (kd k = c → kd (k + o) = d)) = true) (hc : c < 99) {k : Nat} (h : kd k = c) : kd (k + o) = d := by
  have hk := kd_lt h hc
  have h2 := List.all_eq_true.mp hd k (List.mem_range.mpr hk)
  exact (of_decide_eq_true h2) h
theorem kd_1_1 {k : Nat} (h : kd k = 1) : kd (k + 1) = 21 := kd_of 1 21 1 (by decide +kernel) (by decide) h
theorem kd_1_2 {k : Nat} (h : kd k = 1) : kd (k + 2) = 21 := kd_of 1 21 2 (by decide +kernel) (by decide) h
theorem kd_1_3 {k : Nat} (h : kd k = 1) : kd (k + 3) = 21 := kd_of 1 21 3 (by decide +kernel) (by decide) h
theorem kd_1_4 {k : Nat} (h : kd k = 1) : kd (k + 4) = 21 := kd_of 1 21 4 (by decide +kernel) (by decide) h
theorem kd_2_1 {k : Nat} (h : kd k = 2) : kd (k + 1) = 11 := kd_of 2 11 1 (by decide +kernel) (by decide) h
theorem kd_2_22 {k : Nat} (h : kd k = 2) : kd (k + 22) = 5 := kd_of 2 5 22 (by decide +kernel) (by decide) h
theorem kd_2_44 {k : Nat} (h : kd k = 2) : kd (k + 44) = 1 := kd_of 2 1 44 (by decide +kernel) (by decide) h
theorem kd_3_1 {k : Nat} (h : kd k = 3) : kd (k + 1) = 20 := kd_of 3 20 1 (by decide +kernel) (by decide) h
theorem kd_3_2 {k : Nat} (h : kd k = 3) : kd (k + 2) = 20 := kd_of 3 20 2 (by decide +kernel) (by decide) h
theorem kd_3_3 {k : Nat} (h : kd k = 3) : kd (k + 3) = 20 := kd_of 3 20 3 (by decide +kernel) (by decide) h
theorem kd_3_4 {k : Nat} (h : kd k = 3) : kd (k + 4) = 20 := kd_of 3 20 4 (by decide +kernel) (by decide) h
theorem kd_5_1 {k : Nat} (h : kd k = 5) : kd (k + 1) = 11 := kd_of 5 11 1 (by decide +kernel) (by decide) h
theorem kdn_0 : kd 0 = 2 := by decide +kernel
theorem kdn_1 : kd 1 = 11 := by decide +kernel
theorem kdn_22 : kd 22 = 5 := by decide +kernel
theorem kdn_44 : kd 44 = 1 := by decide +kernel
theorem kdn_245 : kd 245 = 2 := by decide +kernel
theorem kdn_246 : kd 246 = 11 := by decide +kernel
theorem kdn_267 : kd 267 = 5 := by decide +kernel
theorem kdn_289 : kd 289 = 1 := by decide +kernel
theorem kdn_299 : kd 299 = 6 := by decide +kernel
theorem kdn_300 : kd 300 = 0 := by decide +kernel
theorem kdn_301 : kd 301 = 10 := by decide +kernel
theorem kdn_302 : kd 302 = 4 := by decide +kernel
theorem kdn_303 : kd 303 = 23 := by decide +kernel
theorem kdn_304 : kd 304 = 22 := by decide +kernel
theorem kdn_305 : kd 305 = 22 := by decide +kernel
theorem kdn_306 : kd 306 = 7 := by decide +kernel
theorem kdn_307 : kd 307 = 24 := by decide +kernel
theorem kdn_308 : kd 308 = 25 := by decide +kernel
theorem kdn_309 : kd 309 = 26 := by decide +kernel
theorem kdn_310 : kd 310 = 23 := by decide +kernel
theorem kdn_294 : kd 294 = 3 := by decide +kernel
theorem kdn_295 : kd 295 = 20 := by decide +kernel
theorem kdn_296 : kd 296 = 20 := by decide +kernel
theorem kdn_297 : kd 297 = 20 := by decide +kernel
theorem kdn_298 : kd 298 = 20 := by decide +kernel
theorem kdn_23 : kd 23 = 11 := by decide +kernel
theorem kdn_45 : kd 45 = 21 := by decide +kernel
theorem kdn_46 : kd 46 = 21 := by decide +kernel
theorem kdn_47 : kd 47 = 21 := by decide +kernel
theorem kdn_48 : kd 48 = 21 := by decide +kernel
theorem ix_lt {x : Int32} {n : Nat} (h : vp_in x n) : ix x < n := Nat.not_le.mp (fun q => h (Or.inr q))
theorem kd_el0 : (List.range 311).all (fun k => decide (kd k = 11 → kd (k + 1 + 5 * 0) = 3 ∧ kd (k + 1 + 5 * 1) = 3 ∧ kd (k + 1 + 5 * 2) = 3 ∧ kd (k + 1 + 5 * 3) = 3)) = true := by decide +kernel
theorem kd_el {k : Nat} {x : Int32} (h : kd k = 11) (hx : vp_in x 4) : kd (k + 1 + 5 * ix x) = 3 := by
  have hk := kd_lt h (by decide)
  obtain ⟨h0, h1, h2, h3⟩ := (of_decide_eq_true (List.all_eq_true.mp kd_el0 k (List.mem_range.mpr hk))) h
  have hi := ix_lt hx
  generalize ix x = i at hi
  rcases (show i = 0 ∨ i = 1 ∨ i = 2 ∨ i = 3 by omega) with rfl | rfl | rfl | rfl
  · exact h0
  · exact h1
  · exact h2
  · exact h3
theorem kd_st0 : ∀ i, i < 4 → kd (49 + 49 * i) = 2 := by decide +kernel
theorem kd_st {x : Int32} (hx : vp_in x 4) : kd (49 + 49 * ix x) = 2 := kd_st0 _ (ix_lt hx)
section FR
variable {p : Program} {l : Launch} {e : Env} {R : Room} {s : State} {m : MethodId} {args : Array Value} {below : List Frame} {meth : Method} {c : Code} {nL cells slots : Nat} {Q : State → Prop} {A : Nat → Prop} {L : Ly} {own : String} {cc : ByteArray} {σ : Mem} {pc : Nat} {lv : List (Nat × Value)} {st : List Value}
theorem v_nm {x : Int32} (k : ∀ y : Int32, y = x → V p l e R s m args below meth c nL cells slots Q A L σ pc lv (.int y :: st)) : V p l e R s m args below meth c nL cells slots Q A L σ pc lv (.int x :: st) := k x rfl
theorem g_0_states (C : Cx p R s m args meth c own cc nL cells slots A L) {k idx : Nat} (hk : kd k = 0) (hlink : Cond.fieldLink own idx "FloorTops$History" "states" "[LFloorTops$State;" ∈ wA) (d : decode cc pc = .ok (.getfield idx, 3)) (kk : V p l e R s m args below meth c nL cells slots Q A L σ (pc + 3) lv (.ref (lad L 301) :: st)) : V p l e R s m args below meth c nL cells slots Q A L σ pc lv (.ref (lad L k) :: st) := v_get C (ci := 0) (N := 3) (j := 0) (c0 := 0) (Cn := RX0) (T := TX0) rfl inlX0 (by decide) rfl (by decide) rfl rfl hk hlink d kk
theorem g_0_next (C : Cx p R s m args meth c own cc nL cells slots A L) {k idx : Nat} (hk : kd k = 0) (hlink : Cond.fieldLink own idx "FloorTops$History" "next" "I" ∈ wA) (d : decode cc pc = .ok (.getfield idx, 3)) (kk : V p l e R s m args below meth c nL cells slots Q A L σ (pc + 3) lv (.int (σ k 1) :: st)) : V p l e R s m args below meth c nL cells slots Q A L σ pc lv (.ref (lad L k) :: st) := v_get C (ci := 0) (N := 3) (j := 1) (c0 := 0) (Cn := RX0) (T := TX0) rfl inlX0 (by decide) rfl (by decide) rfl rfl hk hlink d kk
theorem p_0_next (C : Cx p R s m args meth c own cc nL cells slots A L) {x : Int32} {k idx : Nat} (hk : kd k = 0) (hlink : Cond.fieldLink own idx "FloorTops$History" "next" "I" ∈ wA) (d : decode cc pc = .ok (.putfield idx, 3)) (kk : ∀ σ1, σ1 = mu σ k 1 x → V p l e R s m args below meth c nL cells slots Q A L σ1 (pc + 3) lv st) : V p l e R s m args below meth c nL cells slots Q A L σ pc lv (.int x :: .ref (lad L k) :: st) := v_put C (ci := 0) (N := 3) (j := 1) (c0 := 0) (Cn := RX0) (T := TX0) (ty0 := tyX0) rfl inlX0 tyX0_ok nmX0 (by decide) rfl rfl (by decide) rfl rfl (Nat.le_of_ble_eq_true rfl) rfl rfl hk hlink d kk
theorem g_0_known (C : Cx p R s m args meth c own cc nL cells slots A L) {k idx : Nat} (hk : kd k = 0) (hlink : Cond.fieldLink own idx "FloorTops$History" "known" "I" ∈ wA) (d : decode cc pc = .ok (.getfield idx, 3)) (kk : V p l e R s m args below meth c nL cells slots Q A L σ (pc + 3) lv (.int (σ k 2) :: st)) : V p l e R s m args below meth c nL cells slots Q A L σ pc lv (.ref (lad L k) :: st) := v_get C (ci := 0) (N := 3) (j := 2) (c0 := 0) (Cn := RX0) (T := TX0) rfl inlX0 (by decide) rfl (by decide) rfl rfl hk hlink d kk
theorem p_0_known (C : Cx p R s m args meth c own cc nL cells slots A L) {x : Int32} {k idx : Nat} (hk : kd k = 0) (hlink : Cond.fieldLink own idx "FloorTops$History" "known" "I" ∈ wA) (d : decode cc pc = .ok (.putfield idx, 3)) (kk : ∀ σ1, σ1 = mu σ k 2 x → V p l e R s m args below meth c nL cells slots Q A L σ1 (pc + 3) lv st) : V p l e R s m args below meth c nL cells slots Q A L σ pc lv (.int x :: .ref (lad L k) :: st) := v_put C (ci := 0) (N := 3) (j := 2) (c0 := 0) (Cn := RX0) (T := TX0) (ty0 := tyX0) rfl inlX0 tyX0_ok nmX0 (by decide) rfl rfl (by decide) rfl rfl (Nat.le_of_ble_eq_true rfl) rfl rfl hk hlink d kk
theorem g_1_kinds (C : Cx p R s m args meth c own cc nL cells slots A L) {k idx : Nat} (hk : kd k = 1) (hlink : Cond.fieldLink own idx "FloorTops$Log" "kinds" "[I" ∈ wA) (d : decode cc pc = .ok (.getfield idx, 3)) (kk : V p l e R s m args below meth c nL cells slots Q A L σ (pc + 3) lv (.ref (lad L (k + 1)) :: st)) : V p l e R s m args below meth c nL cells slots Q A L σ pc lv (.ref (lad L k) :: st) := v_get C (ci := 1) (N := 6) (j := 0) (c0 := 1) (Cn := RX1) (T := TX1) rfl inlX1 (by decide) rfl (by decide) rfl rfl hk hlink d kk
theorem g_1_places (C : Cx p R s m args meth c own cc nL cells slots A L) {k idx : Nat} (hk : kd k = 1) (hlink : Cond.fieldLink own idx "FloorTops$Log" "places" "[I" ∈ wA) (d : decode cc pc = .ok (.getfield idx, 3)) (kk : V p l e R s m args below meth c nL cells slots Q A L σ (pc + 3) lv (.ref (lad L (k + 2)) :: st)) : V p l e R s m args below meth c nL cells slots Q A L σ pc lv (.ref (lad L k) :: st) := v_get C (ci := 1) (N := 6) (j := 1) (c0 := 1) (Cn := RX1) (T := TX1) rfl inlX1 (by decide) rfl (by decide) rfl rfl hk hlink d kk
theorem g_1_values (C : Cx p R s m args meth c own cc nL cells slots A L) {k idx : Nat} (hk : kd k = 1) (hlink : Cond.fieldLink own idx "FloorTops$Log" "values" "[I" ∈ wA) (d : decode cc pc = .ok (.getfield idx, 3)) (kk : V p l e R s m args below meth c nL cells slots Q A L σ (pc + 3) lv (.ref (lad L (k + 3)) :: st)) : V p l e R s m args below meth c nL cells slots Q A L σ pc lv (.ref (lad L k) :: st) := v_get C (ci := 1) (N := 6) (j := 2) (c0 := 1) (Cn := RX1) (T := TX1) rfl inlX1 (by decide) rfl (by decide) rfl rfl hk hlink d kk
theorem g_1_times (C : Cx p R s m args meth c own cc nL cells slots A L) {k idx : Nat} (hk : kd k = 1) (hlink : Cond.fieldLink own idx "FloorTops$Log" "times" "[I" ∈ wA) (d : decode cc pc = .ok (.getfield idx, 3)) (kk : V p l e R s m args below meth c nL cells slots Q A L σ (pc + 3) lv (.ref (lad L (k + 4)) :: st)) : V p l e R s m args below meth c nL cells slots Q A L σ pc lv (.ref (lad L k) :: st) := v_get C (ci := 1) (N := 6) (j := 3) (c0 := 1) (Cn := RX1) (T := TX1) rfl inlX1 (by decide) rfl (by decide) rfl rfl hk hlink d kk
theorem g_1_next (C : Cx p R s m args meth c own cc nL cells slots A L) {k idx : Nat} (hk : kd k = 1) (hlink : Cond.fieldLink own idx "FloorTops$Log" "next" "I" ∈ wA) (d : decode cc pc = .ok (.getfield idx, 3)) (kk : V p l e R s m args below meth c nL cells slots Q A L σ (pc + 3) lv (.int (σ k 4) :: st)) : V p l e R s m args below meth c nL cells slots Q A L σ pc lv (.ref (lad L k) :: st) := v_get C (ci := 1) (N := 6) (j := 4) (c0 := 1) (Cn := RX1) (T := TX1) rfl inlX1 (by decide) rfl (by decide) rfl rfl hk hlink d kk
theorem p_1_next (C : Cx p R s m args meth c own cc nL cells slots A L) {x : Int32} {k idx : Nat} (hk : kd k = 1) (hlink : Cond.fieldLink own idx "FloorTops$Log" "next" "I" ∈ wA) (d : decode cc pc = .ok (.putfield idx, 3)) (kk : ∀ σ1, σ1 = mu σ k 4 x → V p l e R s m args below meth c nL cells slots Q A L σ1 (pc + 3) lv st) : V p l e R s m args below meth c nL cells slots Q A L σ pc lv (.int x :: .ref (lad L k) :: st) := v_put C (ci := 1) (N := 6) (j := 4) (c0 := 1) (Cn := RX1) (T := TX1) (ty0 := tyX1) rfl inlX1 tyX1_ok nmX1 (by decide) rfl rfl (by decide) rfl rfl (Nat.le_of_ble_eq_true rfl) rfl rfl hk hlink d kk
theorem g_1_known (C : Cx p R s m args meth c own cc nL cells slots A L) {k idx : Nat} (hk : kd k = 1) (hlink : Cond.fieldLink own idx "FloorTops$Log" "known" "I" ∈ wA) (d : decode cc pc = .ok (.getfield idx, 3)) (kk : V p l e R s m args below meth c nL cells slots Q A L σ (pc + 3) lv (.int (σ k 5) :: st)) : V p l e R s m args below meth c nL cells slots Q A L σ pc lv (.ref (lad L k) :: st) := v_get C (ci := 1) (N := 6) (j := 5) (c0 := 1) (Cn := RX1) (T := TX1) rfl inlX1 (by decide) rfl (by decide) rfl rfl hk hlink d kk
theorem p_1_known (C : Cx p R s m args meth c own cc nL cells slots A L) {x : Int32} {k idx : Nat} (hk : kd k = 1) (hlink : Cond.fieldLink own idx "FloorTops$Log" "known" "I" ∈ wA) (d : decode cc pc = .ok (.putfield idx, 3)) (kk : ∀ σ1, σ1 = mu σ k 5 x → V p l e R s m args below meth c nL cells slots Q A L σ1 (pc + 3) lv st) : V p l e R s m args below meth c nL cells slots Q A L σ pc lv (.int x :: .ref (lad L k) :: st) := v_put C (ci := 1) (N := 6) (j := 5) (c0 := 1) (Cn := RX1) (T := TX1) (ty0 := tyX1) rfl inlX1 tyX1_ok nmX1 (by decide) rfl rfl (by decide) rfl rfl (Nat.le_of_ble_eq_true rfl) rfl rfl hk hlink d kk
theorem g_2_summaries (C : Cx p R s m args meth c own cc nL cells slots A L) {k idx : Nat} (hk : kd k = 2) (hlink : Cond.fieldLink own idx "FloorTops$State" "summaries" "[LFloorTops$Summary;" ∈ wA) (d : decode cc pc = .ok (.getfield idx, 3)) (kk : V p l e R s m args below meth c nL cells slots Q A L σ (pc + 3) lv (.ref (lad L (k + 1)) :: st)) : V p l e R s m args below meth c nL cells slots Q A L σ pc lv (.ref (lad L k) :: st) := v_get C (ci := 2) (N := 6) (j := 0) (c0 := 2) (Cn := RX2) (T := TX2) rfl inlX2 (by decide) rfl (by decide) rfl rfl hk hlink d kk
theorem g_2_window (C : Cx p R s m args meth c own cc nL cells slots A L) {k idx : Nat} (hk : kd k = 2) (hlink : Cond.fieldLink own idx "FloorTops$State" "window" "LFloorTops$Window;" ∈ wA) (d : decode cc pc = .ok (.getfield idx, 3)) (kk : V p l e R s m args below meth c nL cells slots Q A L σ (pc + 3) lv (.ref (lad L (k + 22)) :: st)) : V p l e R s m args below meth c nL cells slots Q A L σ pc lv (.ref (lad L k) :: st) := v_get C (ci := 2) (N := 6) (j := 1) (c0 := 2) (Cn := RX2) (T := TX2) rfl inlX2 (by decide) rfl (by decide) rfl rfl hk hlink d kk
theorem g_2_log (C : Cx p R s m args meth c own cc nL cells slots A L) {k idx : Nat} (hk : kd k = 2) (hlink : Cond.fieldLink own idx "FloorTops$State" "log" "LFloorTops$Log;" ∈ wA) (d : decode cc pc = .ok (.getfield idx, 3)) (kk : V p l e R s m args below meth c nL cells slots Q A L σ (pc + 3) lv (.ref (lad L (k + 44)) :: st)) : V p l e R s m args below meth c nL cells slots Q A L σ pc lv (.ref (lad L k) :: st) := v_get C (ci := 2) (N := 6) (j := 2) (c0 := 2) (Cn := RX2) (T := TX2) rfl inlX2 (by decide) rfl (by decide) rfl rfl hk hlink d kk
theorem g_2_time (C : Cx p R s m args meth c own cc nL cells slots A L) {k idx : Nat} (hk : kd k = 2) (hlink : Cond.fieldLink own idx "FloorTops$State" "time" "I" ∈ wA) (d : decode cc pc = .ok (.getfield idx, 3)) (kk : V p l e R s m args below meth c nL cells slots Q A L σ (pc + 3) lv (.int (σ k 3) :: st)) : V p l e R s m args below meth c nL cells slots Q A L σ pc lv (.ref (lad L k) :: st) := v_get C (ci := 2) (N := 6) (j := 3) (c0 := 2) (Cn := RX2) (T := TX2) rfl inlX2 (by decide) rfl (by decide) rfl rfl hk hlink d kk
theorem p_2_time (C : Cx p R s m args meth c own cc nL cells slots A L) {x : Int32} {k idx : Nat} (hk : kd k = 2) (hlink : Cond.fieldLink own idx "FloorTops$State" "time" "I" ∈ wA) (d : decode cc pc = .ok (.putfield idx, 3)) (kk : ∀ σ1, σ1 = mu σ k 3 x → V p l e R s m args below meth c nL cells slots Q A L σ1 (pc + 3) lv st) : V p l e R s m args below meth c nL cells slots Q A L σ pc lv (.int x :: .ref (lad L k) :: st) := v_put C (ci := 2) (N := 6) (j := 3) (c0 := 2) (Cn := RX2) (T := TX2) (ty0 := tyX2) rfl inlX2 tyX2_ok nmX2 (by decide) rfl rfl (by decide) rfl rfl (Nat.le_of_ble_eq_true rfl) rfl rfl hk hlink d kk
theorem g_2_evictions (C : Cx p R s m args meth c own cc nL cells slots A L) {k idx : Nat} (hk : kd k = 2) (hlink : Cond.fieldLink own idx "FloorTops$State" "evictions" "I" ∈ wA) (d : decode cc pc = .ok (.getfield idx, 3)) (kk : V p l e R s m args below meth c nL cells slots Q A L σ (pc + 3) lv (.int (σ k 4) :: st)) : V p l e R s m args below meth c nL cells slots Q A L σ pc lv (.ref (lad L k) :: st) := v_get C (ci := 2) (N := 6) (j := 4) (c0 := 2) (Cn := RX2) (T := TX2) rfl inlX2 (by decide) rfl (by decide) rfl rfl hk hlink d kk
theorem p_2_evictions (C : Cx p R s m args meth c own cc nL cells slots A L) {x : Int32} {k idx : Nat} (hk : kd k = 2) (hlink : Cond.fieldLink own idx "FloorTops$State" "evictions" "I" ∈ wA) (d : decode cc pc = .ok (.putfield idx, 3)) (kk : ∀ σ1, σ1 = mu σ k 4 x → V p l e R s m args below meth c nL cells slots Q A L σ1 (pc + 3) lv st) : V p l e R s m args below meth c nL cells slots Q A L σ pc lv (.int x :: .ref (lad L k) :: st) := v_put C (ci := 2) (N := 6) (j := 4) (c0 := 2) (Cn := RX2) (T := TX2) (ty0 := tyX2) rfl inlX2 tyX2_ok nmX2 (by decide) rfl rfl (by decide) rfl rfl (Nat.le_of_ble_eq_true rfl) rfl rfl hk hlink d kk
theorem g_2_merges (C : Cx p R s m args meth c own cc nL cells slots A L) {k idx : Nat} (hk : kd k = 2) (hlink : Cond.fieldLink own idx "FloorTops$State" "merges" "I" ∈ wA) (d : decode cc pc = .ok (.getfield idx, 3)) (kk : V p l e R s m args below meth c nL cells slots Q A L σ (pc + 3) lv (.int (σ k 5) :: st)) : V p l e R s m args below meth c nL cells slots Q A L σ pc lv (.ref (lad L k) :: st) := v_get C (ci := 2) (N := 6) (j := 5) (c0 := 2) (Cn := RX2) (T := TX2) rfl inlX2 (by decide) rfl (by decide) rfl rfl hk hlink d kk
theorem p_2_merges (C : Cx p R s m args meth c own cc nL cells slots A L) {x : Int32} {k idx : Nat} (hk : kd k = 2) (hlink : Cond.fieldLink own idx "FloorTops$State" "merges" "I" ∈ wA) (d : decode cc pc = .ok (.putfield idx, 3)) (kk : ∀ σ1, σ1 = mu σ k 5 x → V p l e R s m args below meth c nL cells slots Q A L σ1 (pc + 3) lv st) : V p l e R s m args below meth c nL cells slots Q A L σ pc lv (.int x :: .ref (lad L k) :: st) := v_put C (ci := 2) (N := 6) (j := 5) (c0 := 2) (Cn := RX2) (T := TX2) (ty0 := tyX2) rfl inlX2 tyX2_ok nmX2 (by decide) rfl rfl (by decide) rfl rfl (Nat.le_of_ble_eq_true rfl) rfl rfl hk hlink d kk
theorem g_3_size (C : Cx p R s m args meth c own cc nL cells slots A L) {k idx : Nat} (hk : kd k = 3) (hlink : Cond.fieldLink own idx "FloorTops$Summary" "size" "I" ∈ wA) (d : decode cc pc = .ok (.getfield idx, 3)) (kk : V p l e R s m args below meth c nL cells slots Q A L σ (pc + 3) lv (.int (σ k 0) :: st)) : V p l e R s m args below meth c nL cells slots Q A L σ pc lv (.ref (lad L k) :: st) := v_get C (ci := 3) (N := 8) (j := 0) (c0 := 3) (Cn := RX3) (T := TX3) rfl inlX3 (by decide) rfl (by decide) rfl rfl hk hlink d kk
theorem p_3_size (C : Cx p R s m args meth c own cc nL cells slots A L) {x : Int32} {k idx : Nat} (hk : kd k = 3) (hlink : Cond.fieldLink own idx "FloorTops$Summary" "size" "I" ∈ wA) (d : decode cc pc = .ok (.putfield idx, 3)) (kk : ∀ σ1, σ1 = mu σ k 0 x → V p l e R s m args below meth c nL cells slots Q A L σ1 (pc + 3) lv st) : V p l e R s m args below meth c nL cells slots Q A L σ pc lv (.int x :: .ref (lad L k) :: st) := v_put C (ci := 3) (N := 8) (j := 0) (c0 := 3) (Cn := RX3) (T := TX3) (ty0 := tyX3) rfl inlX3 tyX3_ok nmX3 (by decide) rfl rfl (by decide) rfl rfl (Nat.le_of_ble_eq_true rfl) rfl rfl hk hlink d kk
theorem g_3_floor (C : Cx p R s m args meth c own cc nL cells slots A L) {k idx : Nat} (hk : kd k = 3) (hlink : Cond.fieldLink own idx "FloorTops$Summary" "floor" "I" ∈ wA) (d : decode cc pc = .ok (.getfield idx, 3)) (kk : V p l e R s m args below meth c nL cells slots Q A L σ (pc + 3) lv (.int (σ k 1) :: st)) : V p l e R s m args below meth c nL cells slots Q A L σ pc lv (.ref (lad L k) :: st) := v_get C (ci := 3) (N := 8) (j := 1) (c0 := 3) (Cn := RX3) (T := TX3) rfl inlX3 (by decide) rfl (by decide) rfl rfl hk hlink d kk
theorem p_3_floor (C : Cx p R s m args meth c own cc nL cells slots A L) {x : Int32} {k idx : Nat} (hk : kd k = 3) (hlink : Cond.fieldLink own idx "FloorTops$Summary" "floor" "I" ∈ wA) (d : decode cc pc = .ok (.putfield idx, 3)) (kk : ∀ σ1, σ1 = mu σ k 1 x → V p l e R s m args below meth c nL cells slots Q A L σ1 (pc + 3) lv st) : V p l e R s m args below meth c nL cells slots Q A L σ pc lv (.int x :: .ref (lad L k) :: st) := v_put C (ci := 3) (N := 8) (j := 1) (c0 := 3) (Cn := RX3) (T := TX3) (ty0 := tyX3) rfl inlX3 tyX3_ok nmX3 (by decide) rfl rfl (by decide) rfl rfl (Nat.le_of_ble_eq_true rfl) rfl rfl hk hlink d kk
theorem g_3_sum (C : Cx p R s m args meth c own cc nL cells slots A L) {k idx : Nat} (hk : kd k = 3) (hlink : Cond.fieldLink own idx "FloorTops$Summary" "sum" "I" ∈ wA) (d : decode cc pc = .ok (.getfield idx, 3)) (kk : V p l e R s m args below meth c nL cells slots Q A L σ (pc + 3) lv (.int (σ k 2) :: st)) : V p l e R s m args below meth c nL cells slots Q A L σ pc lv (.ref (lad L k) :: st) := v_get C (ci := 3) (N := 8) (j := 2) (c0 := 3) (Cn := RX3) (T := TX3) rfl inlX3 (by decide) rfl (by decide) rfl rfl hk hlink d kk
theorem p_3_sum (C : Cx p R s m args meth c own cc nL cells slots A L) {x : Int32} {k idx : Nat} (hk : kd k = 3) (hlink : Cond.fieldLink own idx "FloorTops$Summary" "sum" "I" ∈ wA) (d : decode cc pc = .ok (.putfield idx, 3)) (kk : ∀ σ1, σ1 = mu σ k 2 x → V p l e R s m args below meth c nL cells slots Q A L σ1 (pc + 3) lv st) : V p l e R s m args below meth c nL cells slots Q A L σ pc lv (.int x :: .ref (lad L k) :: st) := v_put C (ci := 3) (N := 8) (j := 2) (c0 := 3) (Cn := RX3) (T := TX3) (ty0 := tyX3) rfl inlX3 tyX3_ok nmX3 (by decide) rfl rfl (by decide) rfl rfl (Nat.le_of_ble_eq_true rfl) rfl rfl hk hlink d kk
theorem g_3_held (C : Cx p R s m args meth c own cc nL cells slots A L) {k idx : Nat} (hk : kd k = 3) (hlink : Cond.fieldLink own idx "FloorTops$Summary" "held" "I" ∈ wA) (d : decode cc pc = .ok (.getfield idx, 3)) (kk : V p l e R s m args below meth c nL cells slots Q A L σ (pc + 3) lv (.int (σ k 3) :: st)) : V p l e R s m args below meth c nL cells slots Q A L σ pc lv (.ref (lad L k) :: st) := v_get C (ci := 3) (N := 8) (j := 3) (c0 := 3) (Cn := RX3) (T := TX3) rfl inlX3 (by decide) rfl (by decide) rfl rfl hk hlink d kk
theorem p_3_held (C : Cx p R s m args meth c own cc nL cells slots A L) {x : Int32} {k idx : Nat} (hk : kd k = 3) (hlink : Cond.fieldLink own idx "FloorTops$Summary" "held" "I" ∈ wA) (d : decode cc pc = .ok (.putfield idx, 3)) (kk : ∀ σ1, σ1 = mu σ k 3 x → V p l e R s m args below meth c nL cells slots Q A L σ1 (pc + 3) lv st) : V p l e R s m args below meth c nL cells slots Q A L σ pc lv (.int x :: .ref (lad L k) :: st) := v_put C (ci := 3) (N := 8) (j := 3) (c0 := 3) (Cn := RX3) (T := TX3) (ty0 := tyX3) rfl inlX3 tyX3_ok nmX3 (by decide) rfl rfl (by decide) rfl rfl (Nat.le_of_ble_eq_true rfl) rfl rfl hk hlink d kk
theorem g_3_counts (C : Cx p R s m args meth c own cc nL cells slots A L) {k idx : Nat} (hk : kd k = 3) (hlink : Cond.fieldLink own idx "FloorTops$Summary" "counts" "[I" ∈ wA) (d : decode cc pc = .ok (.getfield idx, 3)) (kk : V p l e R s m args below meth c nL cells slots Q A L σ (pc + 3) lv (.ref (lad L (k + 1)) :: st)) : V p l e R s m args below meth c nL cells slots Q A L σ pc lv (.ref (lad L k) :: st) := v_get C (ci := 3) (N := 8) (j := 4) (c0 := 3) (Cn := RX3) (T := TX3) rfl inlX3 (by decide) rfl (by decide) rfl rfl hk hlink d kk
theorem g_3_slacks (C : Cx p R s m args meth c own cc nL cells slots A L) {k idx : Nat} (hk : kd k = 3) (hlink : Cond.fieldLink own idx "FloorTops$Summary" "slacks" "[I" ∈ wA) (d : decode cc pc = .ok (.getfield idx, 3)) (kk : V p l e R s m args below meth c nL cells slots Q A L σ (pc + 3) lv (.ref (lad L (k + 2)) :: st)) : V p l e R s m args below meth c nL cells slots Q A L σ pc lv (.ref (lad L k) :: st) := v_get C (ci := 3) (N := 8) (j := 5) (c0 := 3) (Cn := RX3) (T := TX3) rfl inlX3 (by decide) rfl (by decide) rfl rfl hk hlink d kk
theorem g_3_times (C : Cx p R s m args meth c own cc nL cells slots A L) {k idx : Nat} (hk : kd k = 3) (hlink : Cond.fieldLink own idx "FloorTops$Summary" "times" "[I" ∈ wA) (d : decode cc pc = .ok (.getfield idx, 3)) (kk : V p l e R s m args below meth c nL cells slots Q A L σ (pc + 3) lv (.ref (lad L (k + 3)) :: st)) : V p l e R s m args below meth c nL cells slots Q A L σ pc lv (.ref (lad L k) :: st) := v_get C (ci := 3) (N := 8) (j := 6) (c0 := 3) (Cn := RX3) (T := TX3) rfl inlX3 (by decide) rfl (by decide) rfl rfl hk hlink d kk
theorem g_3_came (C : Cx p R s m args meth c own cc nL cells slots A L) {k idx : Nat} (hk : kd k = 3) (hlink : Cond.fieldLink own idx "FloorTops$Summary" "came" "[I" ∈ wA) (d : decode cc pc = .ok (.getfield idx, 3)) (kk : V p l e R s m args below meth c nL cells slots Q A L σ (pc + 3) lv (.ref (lad L (k + 4)) :: st)) : V p l e R s m args below meth c nL cells slots Q A L σ pc lv (.ref (lad L k) :: st) := v_get C (ci := 3) (N := 8) (j := 7) (c0 := 3) (Cn := RX3) (T := TX3) rfl inlX3 (by decide) rfl (by decide) rfl rfl hk hlink d kk
theorem g_4_signs (C : Cx p R s m args meth c own cc nL cells slots A L) {k idx : Nat} (hk : kd k = 4) (hlink : Cond.fieldLink own idx "FloorTops$Text" "signs" "[C" ∈ wA) (d : decode cc pc = .ok (.getfield idx, 3)) (kk : V p l e R s m args below meth c nL cells slots Q A L σ (pc + 3) lv (.ref (lad L 303) :: st)) : V p l e R s m args below meth c nL cells slots Q A L σ pc lv (.ref (lad L k) :: st) := v_get C (ci := 4) (N := 9) (j := 0) (c0 := 4) (Cn := RX4) (T := TX4) rfl inlX4 (by decide) rfl (by decide) rfl rfl hk hlink d kk
theorem g_4_length (C : Cx p R s m args meth c own cc nL cells slots A L) {k idx : Nat} (hk : kd k = 4) (hlink : Cond.fieldLink own idx "FloorTops$Text" "length" "I" ∈ wA) (d : decode cc pc = .ok (.getfield idx, 3)) (kk : V p l e R s m args below meth c nL cells slots Q A L σ (pc + 3) lv (.int (σ k 1) :: st)) : V p l e R s m args below meth c nL cells slots Q A L σ pc lv (.ref (lad L k) :: st) := v_get C (ci := 4) (N := 9) (j := 1) (c0 := 4) (Cn := RX4) (T := TX4) rfl inlX4 (by decide) rfl (by decide) rfl rfl hk hlink d kk
theorem p_4_length (C : Cx p R s m args meth c own cc nL cells slots A L) {x : Int32} {k idx : Nat} (hk : kd k = 4) (hlink : Cond.fieldLink own idx "FloorTops$Text" "length" "I" ∈ wA) (d : decode cc pc = .ok (.putfield idx, 3)) (kk : ∀ σ1, σ1 = mu σ k 1 x → V p l e R s m args below meth c nL cells slots Q A L σ1 (pc + 3) lv st) : V p l e R s m args below meth c nL cells slots Q A L σ pc lv (.int x :: .ref (lad L k) :: st) := v_put C (ci := 4) (N := 9) (j := 1) (c0 := 4) (Cn := RX4) (T := TX4) (ty0 := tyX4) rfl inlX4 tyX4_ok nmX4 (by decide) rfl rfl (by decide) rfl rfl (Nat.le_of_ble_eq_true rfl) rfl rfl hk hlink d kk
theorem g_4_letters (C : Cx p R s m args meth c own cc nL cells slots A L) {k idx : Nat} (hk : kd k = 4) (hlink : Cond.fieldLink own idx "FloorTops$Text" "letters" "[I" ∈ wA) (d : decode cc pc = .ok (.getfield idx, 3)) (kk : V p l e R s m args below meth c nL cells slots Q A L σ (pc + 3) lv (.ref (lad L 304) :: st)) : V p l e R s m args below meth c nL cells slots Q A L σ pc lv (.ref (lad L k) :: st) := v_get C (ci := 4) (N := 9) (j := 2) (c0 := 4) (Cn := RX4) (T := TX4) rfl inlX4 (by decide) rfl (by decide) rfl rfl hk hlink d kk
theorem g_4_weights (C : Cx p R s m args meth c own cc nL cells slots A L) {k idx : Nat} (hk : kd k = 4) (hlink : Cond.fieldLink own idx "FloorTops$Text" "weights" "[I" ∈ wA) (d : decode cc pc = .ok (.getfield idx, 3)) (kk : V p l e R s m args below meth c nL cells slots Q A L σ (pc + 3) lv (.ref (lad L 305) :: st)) : V p l e R s m args below meth c nL cells slots Q A L σ pc lv (.ref (lad L k) :: st) := v_get C (ci := 4) (N := 9) (j := 3) (c0 := 4) (Cn := RX4) (T := TX4) rfl inlX4 (by decide) rfl (by decide) rfl rfl hk hlink d kk
theorem g_4_arrivals (C : Cx p R s m args meth c own cc nL cells slots A L) {k idx : Nat} (hk : kd k = 4) (hlink : Cond.fieldLink own idx "FloorTops$Text" "arrivals" "I" ∈ wA) (d : decode cc pc = .ok (.getfield idx, 3)) (kk : V p l e R s m args below meth c nL cells slots Q A L σ (pc + 3) lv (.int (σ k 4) :: st)) : V p l e R s m args below meth c nL cells slots Q A L σ pc lv (.ref (lad L k) :: st) := v_get C (ci := 4) (N := 9) (j := 4) (c0 := 4) (Cn := RX4) (T := TX4) rfl inlX4 (by decide) rfl (by decide) rfl rfl hk hlink d kk
theorem p_4_arrivals (C : Cx p R s m args meth c own cc nL cells slots A L) {x : Int32} {k idx : Nat} (hk : kd k = 4) (hlink : Cond.fieldLink own idx "FloorTops$Text" "arrivals" "I" ∈ wA) (d : decode cc pc = .ok (.putfield idx, 3)) (kk : ∀ σ1, σ1 = mu σ k 4 x → V p l e R s m args below meth c nL cells slots Q A L σ1 (pc + 3) lv st) : V p l e R s m args below meth c nL cells slots Q A L σ pc lv (.int x :: .ref (lad L k) :: st) := v_put C (ci := 4) (N := 9) (j := 4) (c0 := 4) (Cn := RX4) (T := TX4) (ty0 := tyX4) rfl inlX4 tyX4_ok nmX4 (by decide) rfl rfl (by decide) rfl rfl (Nat.le_of_ble_eq_true rfl) rfl rfl hk hlink d kk
theorem g_4_word (C : Cx p R s m args meth c own cc nL cells slots A L) {k idx : Nat} (hk : kd k = 4) (hlink : Cond.fieldLink own idx "FloorTops$Text" "word" "I" ∈ wA) (d : decode cc pc = .ok (.getfield idx, 3)) (kk : V p l e R s m args below meth c nL cells slots Q A L σ (pc + 3) lv (.int (σ k 5) :: st)) : V p l e R s m args below meth c nL cells slots Q A L σ pc lv (.ref (lad L k) :: st) := v_get C (ci := 4) (N := 9) (j := 5) (c0 := 4) (Cn := RX4) (T := TX4) rfl inlX4 (by decide) rfl (by decide) rfl rfl hk hlink d kk
theorem p_4_word (C : Cx p R s m args meth c own cc nL cells slots A L) {x : Int32} {k idx : Nat} (hk : kd k = 4) (hlink : Cond.fieldLink own idx "FloorTops$Text" "word" "I" ∈ wA) (d : decode cc pc = .ok (.putfield idx, 3)) (kk : ∀ σ1, σ1 = mu σ k 5 x → V p l e R s m args below meth c nL cells slots Q A L σ1 (pc + 3) lv st) : V p l e R s m args below meth c nL cells slots Q A L σ pc lv (.int x :: .ref (lad L k) :: st) := v_put C (ci := 4) (N := 9) (j := 5) (c0 := 4) (Cn := RX4) (T := TX4) (ty0 := tyX4) rfl inlX4 tyX4_ok nmX4 (by decide) rfl rfl (by decide) rfl rfl (Nat.le_of_ble_eq_true rfl) rfl rfl hk hlink d kk
theorem g_4_firstNumber (C : Cx p R s m args meth c own cc nL cells slots A L) {k idx : Nat} (hk : kd k = 4) (hlink : Cond.fieldLink own idx "FloorTops$Text" "firstNumber" "I" ∈ wA) (d : decode cc pc = .ok (.getfield idx, 3)) (kk : V p l e R s m args below meth c nL cells slots Q A L σ (pc + 3) lv (.int (σ k 6) :: st)) : V p l e R s m args below meth c nL cells slots Q A L σ pc lv (.ref (lad L k) :: st) := v_get C (ci := 4) (N := 9) (j := 6) (c0 := 4) (Cn := RX4) (T := TX4) rfl inlX4 (by decide) rfl (by decide) rfl rfl hk hlink d kk
theorem p_4_firstNumber (C : Cx p R s m args meth c own cc nL cells slots A L) {x : Int32} {k idx : Nat} (hk : kd k = 4) (hlink : Cond.fieldLink own idx "FloorTops$Text" "firstNumber" "I" ∈ wA) (d : decode cc pc = .ok (.putfield idx, 3)) (kk : ∀ σ1, σ1 = mu σ k 6 x → V p l e R s m args below meth c nL cells slots Q A L σ1 (pc + 3) lv st) : V p l e R s m args below meth c nL cells slots Q A L σ pc lv (.int x :: .ref (lad L k) :: st) := v_put C (ci := 4) (N := 9) (j := 6) (c0 := 4) (Cn := RX4) (T := TX4) (ty0 := tyX4) rfl inlX4 tyX4_ok nmX4 (by decide) rfl rfl (by decide) rfl rfl (Nat.le_of_ble_eq_true rfl) rfl rfl hk hlink d kk
theorem g_4_secondNumber (C : Cx p R s m args meth c own cc nL cells slots A L) {k idx : Nat} (hk : kd k = 4) (hlink : Cond.fieldLink own idx "FloorTops$Text" "secondNumber" "I" ∈ wA) (d : decode cc pc = .ok (.getfield idx, 3)) (kk : V p l e R s m args below meth c nL cells slots Q A L σ (pc + 3) lv (.int (σ k 7) :: st)) : V p l e R s m args below meth c nL cells slots Q A L σ pc lv (.ref (lad L k) :: st) := v_get C (ci := 4) (N := 9) (j := 7) (c0 := 4) (Cn := RX4) (T := TX4) rfl inlX4 (by decide) rfl (by decide) rfl rfl hk hlink d kk
theorem p_4_secondNumber (C : Cx p R s m args meth c own cc nL cells slots A L) {x : Int32} {k idx : Nat} (hk : kd k = 4) (hlink : Cond.fieldLink own idx "FloorTops$Text" "secondNumber" "I" ∈ wA) (d : decode cc pc = .ok (.putfield idx, 3)) (kk : ∀ σ1, σ1 = mu σ k 7 x → V p l e R s m args below meth c nL cells slots Q A L σ1 (pc + 3) lv st) : V p l e R s m args below meth c nL cells slots Q A L σ pc lv (.int x :: .ref (lad L k) :: st) := v_put C (ci := 4) (N := 9) (j := 7) (c0 := 4) (Cn := RX4) (T := TX4) (ty0 := tyX4) rfl inlX4 tyX4_ok nmX4 (by decide) rfl rfl (by decide) rfl rfl (Nat.le_of_ble_eq_true rfl) rfl rfl hk hlink d kk
theorem g_4_at (C : Cx p R s m args meth c own cc nL cells slots A L) {k idx : Nat} (hk : kd k = 4) (hlink : Cond.fieldLink own idx "FloorTops$Text" "at" "I" ∈ wA) (d : decode cc pc = .ok (.getfield idx, 3)) (kk : V p l e R s m args below meth c nL cells slots Q A L σ (pc + 3) lv (.int (σ k 8) :: st)) : V p l e R s m args below meth c nL cells slots Q A L σ pc lv (.ref (lad L k) :: st) := v_get C (ci := 4) (N := 9) (j := 8) (c0 := 4) (Cn := RX4) (T := TX4) rfl inlX4 (by decide) rfl (by decide) rfl rfl hk hlink d kk
theorem p_4_at (C : Cx p R s m args meth c own cc nL cells slots A L) {x : Int32} {k idx : Nat} (hk : kd k = 4) (hlink : Cond.fieldLink own idx "FloorTops$Text" "at" "I" ∈ wA) (d : decode cc pc = .ok (.putfield idx, 3)) (kk : ∀ σ1, σ1 = mu σ k 8 x → V p l e R s m args below meth c nL cells slots Q A L σ1 (pc + 3) lv st) : V p l e R s m args below meth c nL cells slots Q A L σ pc lv (.int x :: .ref (lad L k) :: st) := v_put C (ci := 4) (N := 9) (j := 8) (c0 := 4) (Cn := RX4) (T := TX4) (ty0 := tyX4) rfl inlX4 tyX4_ok nmX4 (by decide) rfl rfl (by decide) rfl rfl (Nat.le_of_ble_eq_true rfl) rfl rfl hk hlink d kk
theorem g_5_blocks (C : Cx p R s m args meth c own cc nL cells slots A L) {k idx : Nat} (hk : kd k = 5) (hlink : Cond.fieldLink own idx "FloorTops$Window" "blocks" "[LFloorTops$Summary;" ∈ wA) (d : decode cc pc = .ok (.getfield idx, 3)) (kk : V p l e R s m args below meth c nL cells slots Q A L σ (pc + 3) lv (.ref (lad L (k + 1)) :: st)) : V p l e R s m args below meth c nL cells slots Q A L σ pc lv (.ref (lad L k) :: st) := v_get C (ci := 5) (N := 5) (j := 0) (c0 := 5) (Cn := RX5) (T := TX5) rfl inlX5 (by decide) rfl (by decide) rfl rfl hk hlink d kk
theorem g_5_present (C : Cx p R s m args meth c own cc nL cells slots A L) {k idx : Nat} (hk : kd k = 5) (hlink : Cond.fieldLink own idx "FloorTops$Window" "present" "I" ∈ wA) (d : decode cc pc = .ok (.getfield idx, 3)) (kk : V p l e R s m args below meth c nL cells slots Q A L σ (pc + 3) lv (.int (σ k 1) :: st)) : V p l e R s m args below meth c nL cells slots Q A L σ pc lv (.ref (lad L k) :: st) := v_get C (ci := 5) (N := 5) (j := 1) (c0 := 5) (Cn := RX5) (T := TX5) rfl inlX5 (by decide) rfl (by decide) rfl rfl hk hlink d kk
theorem p_5_present (C : Cx p R s m args meth c own cc nL cells slots A L) {x : Int32} {k idx : Nat} (hk : kd k = 5) (hlink : Cond.fieldLink own idx "FloorTops$Window" "present" "I" ∈ wA) (d : decode cc pc = .ok (.putfield idx, 3)) (kk : ∀ σ1, σ1 = mu σ k 1 x → V p l e R s m args below meth c nL cells slots Q A L σ1 (pc + 3) lv st) : V p l e R s m args below meth c nL cells slots Q A L σ pc lv (.int x :: .ref (lad L k) :: st) := v_put C (ci := 5) (N := 5) (j := 1) (c0 := 5) (Cn := RX5) (T := TX5) (ty0 := tyX5) rfl inlX5 tyX5_ok nmX5 (by decide) rfl rfl (by decide) rfl rfl (Nat.le_of_ble_eq_true rfl) rfl rfl hk hlink d kk
theorem g_5_kept (C : Cx p R s m args meth c own cc nL cells slots A L) {k idx : Nat} (hk : kd k = 5) (hlink : Cond.fieldLink own idx "FloorTops$Window" "kept" "I" ∈ wA) (d : decode cc pc = .ok (.getfield idx, 3)) (kk : V p l e R s m args below meth c nL cells slots Q A L σ (pc + 3) lv (.int (σ k 2) :: st)) : V p l e R s m args below meth c nL cells slots Q A L σ pc lv (.ref (lad L k) :: st) := v_get C (ci := 5) (N := 5) (j := 2) (c0 := 5) (Cn := RX5) (T := TX5) rfl inlX5 (by decide) rfl (by decide) rfl rfl hk hlink d kk
theorem p_5_kept (C : Cx p R s m args meth c own cc nL cells slots A L) {x : Int32} {k idx : Nat} (hk : kd k = 5) (hlink : Cond.fieldLink own idx "FloorTops$Window" "kept" "I" ∈ wA) (d : decode cc pc = .ok (.putfield idx, 3)) (kk : ∀ σ1, σ1 = mu σ k 2 x → V p l e R s m args below meth c nL cells slots Q A L σ1 (pc + 3) lv st) : V p l e R s m args below meth c nL cells slots Q A L σ pc lv (.int x :: .ref (lad L k) :: st) := v_put C (ci := 5) (N := 5) (j := 2) (c0 := 5) (Cn := RX5) (T := TX5) (ty0 := tyX5) rfl inlX5 tyX5_ok nmX5 (by decide) rfl rfl (by decide) rfl rfl (Nat.le_of_ble_eq_true rfl) rfl rfl hk hlink d kk
theorem g_5_begun (C : Cx p R s m args meth c own cc nL cells slots A L) {k idx : Nat} (hk : kd k = 5) (hlink : Cond.fieldLink own idx "FloorTops$Window" "begun" "I" ∈ wA) (d : decode cc pc = .ok (.getfield idx, 3)) (kk : V p l e R s m args below meth c nL cells slots Q A L σ (pc + 3) lv (.int (σ k 3) :: st)) : V p l e R s m args below meth c nL cells slots Q A L σ pc lv (.ref (lad L k) :: st) := v_get C (ci := 5) (N := 5) (j := 3) (c0 := 5) (Cn := RX5) (T := TX5) rfl inlX5 (by decide) rfl (by decide) rfl rfl hk hlink d kk
theorem p_5_begun (C : Cx p R s m args meth c own cc nL cells slots A L) {x : Int32} {k idx : Nat} (hk : kd k = 5) (hlink : Cond.fieldLink own idx "FloorTops$Window" "begun" "I" ∈ wA) (d : decode cc pc = .ok (.putfield idx, 3)) (kk : ∀ σ1, σ1 = mu σ k 3 x → V p l e R s m args below meth c nL cells slots Q A L σ1 (pc + 3) lv st) : V p l e R s m args below meth c nL cells slots Q A L σ pc lv (.int x :: .ref (lad L k) :: st) := v_put C (ci := 5) (N := 5) (j := 3) (c0 := 5) (Cn := RX5) (T := TX5) (ty0 := tyX5) rfl inlX5 tyX5_ok nmX5 (by decide) rfl rfl (by decide) rfl rfl (Nat.le_of_ble_eq_true rfl) rfl rfl hk hlink d kk
theorem g_5_arrivals (C : Cx p R s m args meth c own cc nL cells slots A L) {k idx : Nat} (hk : kd k = 5) (hlink : Cond.fieldLink own idx "FloorTops$Window" "arrivals" "I" ∈ wA) (d : decode cc pc = .ok (.getfield idx, 3)) (kk : V p l e R s m args below meth c nL cells slots Q A L σ (pc + 3) lv (.int (σ k 4) :: st)) : V p l e R s m args below meth c nL cells slots Q A L σ pc lv (.ref (lad L k) :: st) := v_get C (ci := 5) (N := 5) (j := 4) (c0 := 5) (Cn := RX5) (T := TX5) rfl inlX5 (by decide) rfl (by decide) rfl rfl hk hlink d kk
theorem p_5_arrivals (C : Cx p R s m args meth c own cc nL cells slots A L) {x : Int32} {k idx : Nat} (hk : kd k = 5) (hlink : Cond.fieldLink own idx "FloorTops$Window" "arrivals" "I" ∈ wA) (d : decode cc pc = .ok (.putfield idx, 3)) (kk : ∀ σ1, σ1 = mu σ k 4 x → V p l e R s m args below meth c nL cells slots Q A L σ1 (pc + 3) lv st) : V p l e R s m args below meth c nL cells slots Q A L σ pc lv (.int x :: .ref (lad L k) :: st) := v_put C (ci := 5) (N := 5) (j := 4) (c0 := 5) (Cn := RX5) (T := TX5) (ty0 := tyX5) rfl inlX5 tyX5_ok nmX5 (by decide) rfl rfl (by decide) rfl rfl (Nat.le_of_ble_eq_true rfl) rfl rfl hk hlink d kk
theorem g_6_now (C : Cx p R s m args meth c own cc nL cells slots A L) {k idx : Nat} (hk : kd k = 6) (hlink : Cond.fieldLink own idx "FloorTops" "now" "LFloorTops$State;" ∈ wA) (d : decode cc pc = .ok (.getfield idx, 3)) (kk : V p l e R s m args below meth c nL cells slots Q A L σ (pc + 3) lv (.ref (lad L 0) :: st)) : V p l e R s m args below meth c nL cells slots Q A L σ pc lv (.ref (lad L k) :: st) := v_get C (ci := 6) (N := 6) (j := 0) (c0 := 6) (Cn := RX6) (T := TX6) rfl inlX6 (by decide) rfl (by decide) rfl rfl hk hlink d kk
theorem g_6_history (C : Cx p R s m args meth c own cc nL cells slots A L) {k idx : Nat} (hk : kd k = 6) (hlink : Cond.fieldLink own idx "FloorTops" "history" "LFloorTops$History;" ∈ wA) (d : decode cc pc = .ok (.getfield idx, 3)) (kk : V p l e R s m args below meth c nL cells slots Q A L σ (pc + 3) lv (.ref (lad L 300) :: st)) : V p l e R s m args below meth c nL cells slots Q A L σ pc lv (.ref (lad L k) :: st) := v_get C (ci := 6) (N := 6) (j := 1) (c0 := 6) (Cn := RX6) (T := TX6) rfl inlX6 (by decide) rfl (by decide) rfl rfl hk hlink d kk
theorem g_6_snapshot (C : Cx p R s m args meth c own cc nL cells slots A L) {k idx : Nat} (hk : kd k = 6) (hlink : Cond.fieldLink own idx "FloorTops" "snapshot" "LFloorTops$State;" ∈ wA) (d : decode cc pc = .ok (.getfield idx, 3)) (kk : V p l e R s m args below meth c nL cells slots Q A L σ (pc + 3) lv (.ref (lad L 245) :: st)) : V p l e R s m args below meth c nL cells slots Q A L σ pc lv (.ref (lad L k) :: st) := v_get C (ci := 6) (N := 6) (j := 2) (c0 := 6) (Cn := RX6) (T := TX6) rfl inlX6 (by decide) rfl (by decide) rfl rfl hk hlink d kk
theorem g_6_snapshotTaken (C : Cx p R s m args meth c own cc nL cells slots A L) {k idx : Nat} (hk : kd k = 6) (hlink : Cond.fieldLink own idx "FloorTops" "snapshotTaken" "Z" ∈ wA) (d : decode cc pc = .ok (.getfield idx, 3)) (kk : V p l e R s m args below meth c nL cells slots Q A L σ (pc + 3) lv (.int (σ k 3) :: st)) : V p l e R s m args below meth c nL cells slots Q A L σ pc lv (.ref (lad L k) :: st) := v_get C (ci := 6) (N := 6) (j := 3) (c0 := 6) (Cn := RX6) (T := TX6) rfl inlX6 (by decide) rfl (by decide) rfl rfl hk hlink d kk
theorem p_6_snapshotTaken (C : Cx p R s m args meth c own cc nL cells slots A L) {x : Int32} {k idx : Nat} (hn : narrow .boolean (.int x) = .int x) (hfit : fits .boolean (.int x) = true) (hk : kd k = 6) (hlink : Cond.fieldLink own idx "FloorTops" "snapshotTaken" "Z" ∈ wA) (d : decode cc pc = .ok (.putfield idx, 3)) (kk : ∀ σ1, σ1 = mu σ k 3 x → V p l e R s m args below meth c nL cells slots Q A L σ1 (pc + 3) lv st) : V p l e R s m args below meth c nL cells slots Q A L σ pc lv (.int x :: .ref (lad L k) :: st) := v_put C (ci := 6) (N := 6) (j := 3) (c0 := 6) (Cn := RX6) (T := TX6) (ty0 := tyX6) rfl inlX6 tyX6_ok nmX6 (by decide) rfl rfl (by decide) rfl rfl (Nat.le_of_ble_eq_true rfl) hn hfit hk hlink d kk
theorem g_6_text (C : Cx p R s m args meth c own cc nL cells slots A L) {k idx : Nat} (hk : kd k = 6) (hlink : Cond.fieldLink own idx "FloorTops" "text" "LFloorTops$Text;" ∈ wA) (d : decode cc pc = .ok (.getfield idx, 3)) (kk : V p l e R s m args below meth c nL cells slots Q A L σ (pc + 3) lv (.ref (lad L 302) :: st)) : V p l e R s m args below meth c nL cells slots Q A L σ pc lv (.ref (lad L k) :: st) := v_get C (ci := 6) (N := 6) (j := 4) (c0 := 6) (Cn := RX6) (T := TX6) rfl inlX6 (by decide) rfl (by decide) rfl rfl hk hlink d kk
theorem g_6_whole (C : Cx p R s m args meth c own cc nL cells slots A L) {k idx : Nat} (hk : kd k = 6) (hlink : Cond.fieldLink own idx "FloorTops" "whole" "LFloorTops$Summary;" ∈ wA) (d : decode cc pc = .ok (.getfield idx, 3)) (kk : V p l e R s m args below meth c nL cells slots Q A L σ (pc + 3) lv (.ref (lad L 294) :: st)) : V p l e R s m args below meth c nL cells slots Q A L σ pc lv (.ref (lad L k) :: st) := v_get C (ci := 6) (N := 6) (j := 5) (c0 := 6) (Cn := RX6) (T := TX6) rfl inlX6 (by decide) rfl (by decide) rfl rfl hk hlink d kk
theorem g_7_now (C : Cx p R s m args meth c own cc nL cells slots A L) {k idx : Nat} (hk : kd k = 7) (hlink : Cond.fieldLink own idx "FloorTopsModel" "now" "[I" ∈ wA) (d : decode cc pc = .ok (.getfield idx, 3)) (kk : V p l e R s m args below meth c nL cells slots Q A L σ (pc + 3) lv (.ref (lad L 307) :: st)) : V p l e R s m args below meth c nL cells slots Q A L σ pc lv (.ref (lad L k) :: st) := v_get C (ci := 7) (N := 11) (j := 0) (c0 := 7) (Cn := RX7) (T := TX7) rfl inlX7 (by decide) rfl (by decide) rfl rfl hk hlink d kk
theorem g_7_history (C : Cx p R s m args meth c own cc nL cells slots A L) {k idx : Nat} (hk : kd k = 7) (hlink : Cond.fieldLink own idx "FloorTopsModel" "history" "[I" ∈ wA) (d : decode cc pc = .ok (.getfield idx, 3)) (kk : V p l e R s m args below meth c nL cells slots Q A L σ (pc + 3) lv (.ref (lad L 308) :: st)) : V p l e R s m args below meth c nL cells slots Q A L σ pc lv (.ref (lad L k) :: st) := v_get C (ci := 7) (N := 11) (j := 1) (c0 := 7) (Cn := RX7) (T := TX7) rfl inlX7 (by decide) rfl (by decide) rfl rfl hk hlink d kk
theorem g_7_kept (C : Cx p R s m args meth c own cc nL cells slots A L) {k idx : Nat} (hk : kd k = 7) (hlink : Cond.fieldLink own idx "FloorTopsModel" "kept" "I" ∈ wA) (d : decode cc pc = .ok (.getfield idx, 3)) (kk : V p l e R s m args below meth c nL cells slots Q A L σ (pc + 3) lv (.int (σ k 2) :: st)) : V p l e R s m args below meth c nL cells slots Q A L σ pc lv (.ref (lad L k) :: st) := v_get C (ci := 7) (N := 11) (j := 2) (c0 := 7) (Cn := RX7) (T := TX7) rfl inlX7 (by decide) rfl (by decide) rfl rfl hk hlink d kk
theorem p_7_kept (C : Cx p R s m args meth c own cc nL cells slots A L) {x : Int32} {k idx : Nat} (hk : kd k = 7) (hlink : Cond.fieldLink own idx "FloorTopsModel" "kept" "I" ∈ wA) (d : decode cc pc = .ok (.putfield idx, 3)) (kk : ∀ σ1, σ1 = mu σ k 2 x → V p l e R s m args below meth c nL cells slots Q A L σ1 (pc + 3) lv st) : V p l e R s m args below meth c nL cells slots Q A L σ pc lv (.int x :: .ref (lad L k) :: st) := v_put C (ci := 7) (N := 11) (j := 2) (c0 := 7) (Cn := RX7) (T := TX7) (ty0 := tyX7) rfl inlX7 tyX7_ok nmX7 (by decide) rfl rfl (by decide) rfl rfl (Nat.le_of_ble_eq_true rfl) rfl rfl hk hlink d kk
theorem g_7_slot (C : Cx p R s m args meth c own cc nL cells slots A L) {k idx : Nat} (hk : kd k = 7) (hlink : Cond.fieldLink own idx "FloorTopsModel" "slot" "[I" ∈ wA) (d : decode cc pc = .ok (.getfield idx, 3)) (kk : V p l e R s m args below meth c nL cells slots Q A L σ (pc + 3) lv (.ref (lad L 309) :: st)) : V p l e R s m args below meth c nL cells slots Q A L σ pc lv (.ref (lad L k) :: st) := v_get C (ci := 7) (N := 11) (j := 3) (c0 := 7) (Cn := RX7) (T := TX7) rfl inlX7 (by decide) rfl (by decide) rfl rfl hk hlink d kk
theorem g_7_isFilled (C : Cx p R s m args meth c own cc nL cells slots A L) {k idx : Nat} (hk : kd k = 7) (hlink : Cond.fieldLink own idx "FloorTopsModel" "isFilled" "Z" ∈ wA) (d : decode cc pc = .ok (.getfield idx, 3)) (kk : V p l e R s m args below meth c nL cells slots Q A L σ (pc + 3) lv (.int (σ k 4) :: st)) : V p l e R s m args below meth c nL cells slots Q A L σ pc lv (.ref (lad L k) :: st) := v_get C (ci := 7) (N := 11) (j := 4) (c0 := 7) (Cn := RX7) (T := TX7) rfl inlX7 (by decide) rfl (by decide) rfl rfl hk hlink d kk
theorem p_7_isFilled (C : Cx p R s m args meth c own cc nL cells slots A L) {x : Int32} {k idx : Nat} (hn : narrow .boolean (.int x) = .int x) (hfit : fits .boolean (.int x) = true) (hk : kd k = 7) (hlink : Cond.fieldLink own idx "FloorTopsModel" "isFilled" "Z" ∈ wA) (d : decode cc pc = .ok (.putfield idx, 3)) (kk : ∀ σ1, σ1 = mu σ k 4 x → V p l e R s m args below meth c nL cells slots Q A L σ1 (pc + 3) lv st) : V p l e R s m args below meth c nL cells slots Q A L σ pc lv (.int x :: .ref (lad L k) :: st) := v_put C (ci := 7) (N := 11) (j := 4) (c0 := 7) (Cn := RX7) (T := TX7) (ty0 := tyX7) rfl inlX7 tyX7_ok nmX7 (by decide) rfl rfl (by decide) rfl rfl (Nat.le_of_ble_eq_true rfl) hn hfit hk hlink d kk
theorem g_7_typed (C : Cx p R s m args meth c own cc nL cells slots A L) {k idx : Nat} (hk : kd k = 7) (hlink : Cond.fieldLink own idx "FloorTopsModel" "typed" "I" ∈ wA) (d : decode cc pc = .ok (.getfield idx, 3)) (kk : V p l e R s m args below meth c nL cells slots Q A L σ (pc + 3) lv (.int (σ k 5) :: st)) : V p l e R s m args below meth c nL cells slots Q A L σ pc lv (.ref (lad L k) :: st) := v_get C (ci := 7) (N := 11) (j := 5) (c0 := 7) (Cn := RX7) (T := TX7) rfl inlX7 (by decide) rfl (by decide) rfl rfl hk hlink d kk
theorem p_7_typed (C : Cx p R s m args meth c own cc nL cells slots A L) {x : Int32} {k idx : Nat} (hk : kd k = 7) (hlink : Cond.fieldLink own idx "FloorTopsModel" "typed" "I" ∈ wA) (d : decode cc pc = .ok (.putfield idx, 3)) (kk : ∀ σ1, σ1 = mu σ k 5 x → V p l e R s m args below meth c nL cells slots Q A L σ1 (pc + 3) lv st) : V p l e R s m args below meth c nL cells slots Q A L σ pc lv (.int x :: .ref (lad L k) :: st) := v_put C (ci := 7) (N := 11) (j := 5) (c0 := 7) (Cn := RX7) (T := TX7) (ty0 := tyX7) rfl inlX7 tyX7_ok nmX7 (by decide) rfl rfl (by decide) rfl rfl (Nat.le_of_ble_eq_true rfl) rfl rfl hk hlink d kk
theorem g_7_text (C : Cx p R s m args meth c own cc nL cells slots A L) {k idx : Nat} (hk : kd k = 7) (hlink : Cond.fieldLink own idx "FloorTopsModel" "text" "[C" ∈ wA) (d : decode cc pc = .ok (.getfield idx, 3)) (kk : V p l e R s m args below meth c nL cells slots Q A L σ (pc + 3) lv (.ref (lad L 310) :: st)) : V p l e R s m args below meth c nL cells slots Q A L σ pc lv (.ref (lad L k) :: st) := v_get C (ci := 7) (N := 11) (j := 6) (c0 := 7) (Cn := RX7) (T := TX7) rfl inlX7 (by decide) rfl (by decide) rfl rfl hk hlink d kk
theorem g_7_at (C : Cx p R s m args meth c own cc nL cells slots A L) {k idx : Nat} (hk : kd k = 7) (hlink : Cond.fieldLink own idx "FloorTopsModel" "at" "I" ∈ wA) (d : decode cc pc = .ok (.getfield idx, 3)) (kk : V p l e R s m args below meth c nL cells slots Q A L σ (pc + 3) lv (.int (σ k 7) :: st)) : V p l e R s m args below meth c nL cells slots Q A L σ pc lv (.ref (lad L k) :: st) := v_get C (ci := 7) (N := 11) (j := 7) (c0 := 7) (Cn := RX7) (T := TX7) rfl inlX7 (by decide) rfl (by decide) rfl rfl hk hlink d kk
theorem p_7_at (C : Cx p R s m args meth c own cc nL cells slots A L) {x : Int32} {k idx : Nat} (hk : kd k = 7) (hlink : Cond.fieldLink own idx "FloorTopsModel" "at" "I" ∈ wA) (d : decode cc pc = .ok (.putfield idx, 3)) (kk : ∀ σ1, σ1 = mu σ k 7 x → V p l e R s m args below meth c nL cells slots Q A L σ1 (pc + 3) lv st) : V p l e R s m args below meth c nL cells slots Q A L σ pc lv (.int x :: .ref (lad L k) :: st) := v_put C (ci := 7) (N := 11) (j := 7) (c0 := 7) (Cn := RX7) (T := TX7) (ty0 := tyX7) rfl inlX7 tyX7_ok nmX7 (by decide) rfl rfl (by decide) rfl rfl (Nat.le_of_ble_eq_true rfl) rfl rfl hk hlink d kk
theorem g_7_letter (C : Cx p R s m args meth c own cc nL cells slots A L) {k idx : Nat} (hk : kd k = 7) (hlink : Cond.fieldLink own idx "FloorTopsModel" "letter" "I" ∈ wA) (d : decode cc pc = .ok (.getfield idx, 3)) (kk : V p l e R s m args below meth c nL cells slots Q A L σ (pc + 3) lv (.int (σ k 8) :: st)) : V p l e R s m args below meth c nL cells slots Q A L σ pc lv (.ref (lad L k) :: st) := v_get C (ci := 7) (N := 11) (j := 8) (c0 := 7) (Cn := RX7) (T := TX7) rfl inlX7 (by decide) rfl (by decide) rfl rfl hk hlink d kk
theorem p_7_letter (C : Cx p R s m args meth c own cc nL cells slots A L) {x : Int32} {k idx : Nat} (hk : kd k = 7) (hlink : Cond.fieldLink own idx "FloorTopsModel" "letter" "I" ∈ wA) (d : decode cc pc = .ok (.putfield idx, 3)) (kk : ∀ σ1, σ1 = mu σ k 8 x → V p l e R s m args below meth c nL cells slots Q A L σ1 (pc + 3) lv st) : V p l e R s m args below meth c nL cells slots Q A L σ pc lv (.int x :: .ref (lad L k) :: st) := v_put C (ci := 7) (N := 11) (j := 8) (c0 := 7) (Cn := RX7) (T := TX7) (ty0 := tyX7) rfl inlX7 tyX7_ok nmX7 (by decide) rfl rfl (by decide) rfl rfl (Nat.le_of_ble_eq_true rfl) rfl rfl hk hlink d kk
theorem g_7_number (C : Cx p R s m args meth c own cc nL cells slots A L) {k idx : Nat} (hk : kd k = 7) (hlink : Cond.fieldLink own idx "FloorTopsModel" "number" "I" ∈ wA) (d : decode cc pc = .ok (.getfield idx, 3)) (kk : V p l e R s m args below meth c nL cells slots Q A L σ (pc + 3) lv (.int (σ k 9) :: st)) : V p l e R s m args below meth c nL cells slots Q A L σ pc lv (.ref (lad L k) :: st) := v_get C (ci := 7) (N := 11) (j := 9) (c0 := 7) (Cn := RX7) (T := TX7) rfl inlX7 (by decide) rfl (by decide) rfl rfl hk hlink d kk
theorem p_7_number (C : Cx p R s m args meth c own cc nL cells slots A L) {x : Int32} {k idx : Nat} (hk : kd k = 7) (hlink : Cond.fieldLink own idx "FloorTopsModel" "number" "I" ∈ wA) (d : decode cc pc = .ok (.putfield idx, 3)) (kk : ∀ σ1, σ1 = mu σ k 9 x → V p l e R s m args below meth c nL cells slots Q A L σ1 (pc + 3) lv st) : V p l e R s m args below meth c nL cells slots Q A L σ pc lv (.int x :: .ref (lad L k) :: st) := v_put C (ci := 7) (N := 11) (j := 9) (c0 := 7) (Cn := RX7) (T := TX7) (ty0 := tyX7) rfl inlX7 tyX7_ok nmX7 (by decide) rfl rfl (by decide) rfl rfl (Nat.le_of_ble_eq_true rfl) rfl rfl hk hlink d kk
theorem g_7_weights (C : Cx p R s m args meth c own cc nL cells slots A L) {k idx : Nat} (hk : kd k = 7) (hlink : Cond.fieldLink own idx "FloorTopsModel" "weights" "I" ∈ wA) (d : decode cc pc = .ok (.getfield idx, 3)) (kk : V p l e R s m args below meth c nL cells slots Q A L σ (pc + 3) lv (.int (σ k 10) :: st)) : V p l e R s m args below meth c nL cells slots Q A L σ pc lv (.ref (lad L k) :: st) := v_get C (ci := 7) (N := 11) (j := 10) (c0 := 7) (Cn := RX7) (T := TX7) rfl inlX7 (by decide) rfl (by decide) rfl rfl hk hlink d kk
theorem p_7_weights (C : Cx p R s m args meth c own cc nL cells slots A L) {x : Int32} {k idx : Nat} (hk : kd k = 7) (hlink : Cond.fieldLink own idx "FloorTopsModel" "weights" "I" ∈ wA) (d : decode cc pc = .ok (.putfield idx, 3)) (kk : ∀ σ1, σ1 = mu σ k 10 x → V p l e R s m args below meth c nL cells slots Q A L σ1 (pc + 3) lv st) : V p l e R s m args below meth c nL cells slots Q A L σ pc lv (.int x :: .ref (lad L k) :: st) := v_put C (ci := 7) (N := 11) (j := 10) (c0 := 7) (Cn := RX7) (T := TX7) (ty0 := tyX7) rfl inlX7 tyX7_ok nmX7 (by decide) rfl rfl (by decide) rfl rfl (Nat.le_of_ble_eq_true rfl) rfl rfl hk hlink d kk
def mR (K : Nat → Mem → Prop) : Option Nat → Mem → Prop := fun r σ => ∃ k, r = some k ∧ kd k = 3 ∧ K k σ
def mN (K : Option Nat → Mem → Prop) : Option Nat → Mem → Prop := fun r σ => (∀ k, r = some k → kd k = 3) ∧ K r σ
theorem v_re {r : Nat} (k : V p l e R s m args below meth c nL cells slots Q A L σ pc lv (.ref (lad L r) :: st)) : V p l e R s m args below meth c nL cells slots Q A L σ pc lv (va_re (lad L) (some r) :: st) := k
theorem v_reN (k : V p l e R s m args below meth c nL cells slots Q A L σ pc lv (.null :: st)) : V p l e R s m args below meth c nL cells slots Q A L σ pc lv (va_re (lad L) none :: st) := k
theorem v_ldcS70 (C : Cx p R s m args meth c RX4 cc nL cells slots A L) (d : decode cc pc = .ok (.ldc 70, 2)) (k : V p l e R s m args below meth c nL cells slots Q A L σ (pc + 2) lv (.ref (lK L 0) :: st)) : V p l e R s m args below meth c nL cells slots Q A L σ pc lv st := fun H locs ls hP hS hl => va_ldcS C.1 C.2.1 C.2.2.2.1 C.2.2.2.2.2.2.2.2.1.2.2.2.1.1 d (k H locs ls hP hS hl)
theorem v_ldcS76 (C : Cx p R s m args meth c RX4 cc nL cells slots A L) (d : decode cc pc = .ok (.ldc 76, 2)) (k : V p l e R s m args below meth c nL cells slots Q A L σ (pc + 2) lv (.ref (lK L 1) :: st)) : V p l e R s m args below meth c nL cells slots Q A L σ pc lv st := fun H locs ls hP hS hl => va_ldcS C.1 C.2.1 C.2.2.2.1 C.2.2.2.2.2.2.2.2.1.2.2.2.1.2.1 d (k H locs ls hP hS hl)
theorem v_ldcS78 (C : Cx p R s m args meth c RX4 cc nL cells slots A L) (d : decode cc pc = .ok (.ldc 78, 2)) (k : V p l e R s m args below meth c nL cells slots Q A L σ (pc + 2) lv (.ref (lK L 2) :: st)) : V p l e R s m args below meth c nL cells slots Q A L σ pc lv st := fun H locs ls hP hS hl => va_ldcS C.1 C.2.1 C.2.2.2.1 C.2.2.2.2.2.2.2.2.1.2.2.2.1.2.2.1 d (k H locs ls hP hS hl)
theorem v_ldcS80 (C : Cx p R s m args meth c RX4 cc nL cells slots A L) (d : decode cc pc = .ok (.ldc 80, 2)) (k : V p l e R s m args below meth c nL cells slots Q A L σ (pc + 2) lv (.ref (lK L 3) :: st)) : V p l e R s m args below meth c nL cells slots Q A L σ pc lv st := fun H locs ls hP hS hl => va_ldcS C.1 C.2.1 C.2.2.2.1 C.2.2.2.2.2.2.2.2.1.2.2.2.1.2.2.2 d (k H locs ls hP hS hl)
end FR
end
section
-- ===== RX3.become
abbrev rm_X3_become : Room := { frames := 1, cells := 0, slots := 0, locals := 40 }
def w_X3_become (k : Nat) (o1 : Nat) (σ : Mem) (K : Mem → Prop) : Prop := (∀ σ1 : Mem, σ1 = mu σ k 0 (σ o1 0) → (∀ σ2 : Mem, σ2 = mu σ1 k 1 (σ1 o1 1) → (∀ σ3 : Mem, σ3 = mu σ2 k 2 (σ2 o1 2) → (∀ σ4 : Mem, σ4 = mu σ3 k 3 (σ3 o1 3) → (∀ σ5 : Mem, σ5 = ms σ4 (k + 1) (va_cpy (σ4 (o1 + 1)) (σ4 (k + 1)) 0 0 26) → (∀ σ6 : Mem, σ6 = ms σ5 (k + 2) (va_cpy (σ5 (o1 + 2)) (σ5 (k + 2)) 0 0 26) → (∀ σ7 : Mem, σ7 = ms σ6 (k + 3) (va_cpy (σ6 (o1 + 3)) (σ6 (k + 3)) 0 0 26) → (∀ σ8 : Mem, σ8 = ms σ7 (k + 4) (va_cpy (σ7 (o1 + 4)) (σ7 (k + 4)) 0 0 26) → (K σ8)))))))))
set_option maxHeartbeats 4000000 in
set_option maxRecDepth 100000 in
theorem c_X3_become (l : Launch) (L : Ly) (k : Nat) (o1 : Nat) (σ : Mem) (K : Mem → Prop) (hk : kd k = 3) (ho1 : kd o1 = 3) (h : w_X3_become k o1 σ K) (sz : Nat) : Met l yX3_become (.code yX3_become cX3_become 2 none :: wA) rm_X3_become (va_Pc [.ref (lad L k), .ref (lad L o1)] (mB L sz σ)) (va_Qv K (mE L) (mA L sz)) 0 0 (mA L sz) := by
  refine v_start (own := RX3) [(0, .ref (lad L k)), (1, .ref (lad L o1))] (by decide) rfl (Nat.le_of_ble_eq_true rfl) rfl (fun p e s m args below meth c C hret hlk => ?_)
  unfold w_X3_become at h
  refine v_aload_n C dX3_become_0 rfl 0 rfl ?_
  refine v_aload_n C dX3_become_1 rfl 1 rfl ?_
  refine g_3_size C ho1 mF_X3_9 dX3_become_2 ?_
  refine p_3_size C hk mF_X3_9 dX3_become_5 (fun σ1 eσ1 => ?_)
  replace h := h σ1 eσ1
  refine v_aload_n C dX3_become_8 rfl 0 rfl ?_
  refine v_aload_n C dX3_become_9 rfl 1 rfl ?_
  refine g_3_floor C ho1 mF_X3_15 dX3_become_10 ?_
  refine p_3_floor C hk mF_X3_15 dX3_become_13 (fun σ2 eσ2 => ?_)
  replace h := h σ2 eσ2
  refine v_aload_n C dX3_become_16 rfl 0 rfl ?_
  refine v_aload_n C dX3_become_17 rfl 1 rfl ?_
  refine g_3_sum C ho1 mF_X3_18 dX3_become_18 ?_
  refine p_3_sum C hk mF_X3_18 dX3_become_21 (fun σ3 eσ3 => ?_)
  replace h := h σ3 eσ3
  refine v_aload_n C dX3_become_24 rfl 0 rfl ?_
  refine v_aload_n C dX3_become_25 rfl 1 rfl ?_
  refine g_3_held C ho1 mF_X3_21 dX3_become_26 ?_
  refine p_3_held C hk mF_X3_21 dX3_become_29 (fun σ4 eσ4 => ?_)
  replace h := h σ4 eσ4
  refine v_aload_n C dX3_become_32 rfl 1 rfl ?_
  refine g_3_counts C ho1 mF_X3_24 dX3_become_33 ?_
  refine v_iconst C (v := 0) dX3_become_36 rfl ?_
  refine v_aload_n C dX3_become_37 rfl 0 rfl ?_
  refine g_3_counts C hk mF_X3_24 dX3_become_38 ?_
  refine v_iconst C (v := 0) dX3_become_41 rfl ?_
  refine v_bipush C (v := 26) dX3_become_42 rfl ?_
  refine v_copy C (c0 := 20) (by decide) (fun _ _ => rfl) (kd_3_1 ho1) (kd_3_1 hk) (x := 26) (by decide) (by decide) mM_X3_86 (by decide) (Nat.le_of_ble_eq_true rfl) dX3_become_44 (fun σ5 eσ5 => ?_)
  replace h := h σ5 eσ5
  refine v_aload_n C dX3_become_47 rfl 1 rfl ?_
  refine g_3_slacks C ho1 mF_X3_28 dX3_become_48 ?_
  refine v_iconst C (v := 0) dX3_become_51 rfl ?_
  refine v_aload_n C dX3_become_52 rfl 0 rfl ?_
  refine g_3_slacks C hk mF_X3_28 dX3_become_53 ?_
  refine v_iconst C (v := 0) dX3_become_56 rfl ?_
  refine v_bipush C (v := 26) dX3_become_57 rfl ?_
  refine v_copy C (c0 := 20) (by decide) (fun _ _ => rfl) (kd_3_2 ho1) (kd_3_2 hk) (x := 26) (by decide) (by decide) mM_X3_86 (by decide) (Nat.le_of_ble_eq_true rfl) dX3_become_59 (fun σ6 eσ6 => ?_)
  replace h := h σ6 eσ6
  refine v_aload_n C dX3_become_62 rfl 1 rfl ?_
  refine g_3_times C ho1 mF_X3_31 dX3_become_63 ?_
  refine v_iconst C (v := 0) dX3_become_66 rfl ?_
  refine v_aload_n C dX3_become_67 rfl 0 rfl ?_
  refine g_3_times C hk mF_X3_31 dX3_become_68 ?_
  refine v_iconst C (v := 0) dX3_become_71 rfl ?_
  refine v_bipush C (v := 26) dX3_become_72 rfl ?_
  refine v_copy C (c0 := 20) (by decide) (fun _ _ => rfl) (kd_3_3 ho1) (kd_3_3 hk) (x := 26) (by decide) (by decide) mM_X3_86 (by decide) (Nat.le_of_ble_eq_true rfl) dX3_become_74 (fun σ7 eσ7 => ?_)
  replace h := h σ7 eσ7
  refine v_aload_n C dX3_become_77 rfl 1 rfl ?_
  refine g_3_came C ho1 mF_X3_34 dX3_become_78 ?_
  refine v_iconst C (v := 0) dX3_become_81 rfl ?_
  refine v_aload_n C dX3_become_82 rfl 0 rfl ?_
  refine g_3_came C hk mF_X3_34 dX3_become_83 ?_
  refine v_iconst C (v := 0) dX3_become_86 rfl ?_
  refine v_bipush C (v := 26) dX3_become_87 rfl ?_
  refine v_copy C (c0 := 20) (by decide) (fun _ _ => rfl) (kd_3_4 ho1) (kd_3_4 hk) (x := 26) (by decide) (by decide) mM_X3_86 (by decide) (Nat.le_of_ble_eq_true rfl) dX3_become_89 (fun σ8 eσ8 => ?_)
  replace h := h σ8 eσ8
  exact v_vret C dX3_become_92 hret hlk h
theorem hd_X3_become : yX3_become.cls ≠ "java/lang/invoke/MethodHandle" ∧ yX3_become.cls ≠ "java/lang/invoke/VarHandle" ∧ (parseMethodDescriptor yX3_become.desc).map (fun d => d.parameters.length) = some 1 := by decide +kernel
theorem k_X3_become {p : Program} {l : Launch} {e : Env} {R : Room} {s : State} {m : MethodId} {args : Array Value} {below : List Frame} {meth : Method} {c : Code} {nL cells slots : Nat} {Q : State → Prop} {A : Nat → Prop} {L : Ly} {own : String} {cc : ByteArray} {σ : Mem} {pc idx : Nat} {lv : List (Nat × Value)} {st : List Value} {K : Mem → Prop} (C : Cx p R s m args meth c own cc nL cells slots A L) (k : Nat) (o1 : Nat) (hk : kd k = 3) (ho1 : kd o1 = 3) (h : w_X3_become k o1 σ K) (hml : Cond.methodLink own idx yX3_become ∈ wA) (hR : rm_X3_become.frames + 1 ≤ R.frames ∧ 8 + (2 + 11) + rm_X3_become.locals ≤ R.locals) (hsum : (st.map fun v => v.category).sum ≤ 8) (d : decode cc pc = .ok (.invokevirtual idx, 3)) (kk : ∀ σ1, K σ1 → V p l e R s m args below meth c nL cells slots Q A L σ1 (pc + 3) lv st) : V p l e R s m args below meth c nL cells slots Q A L σ pc lv (.ref (lad L o1) :: .ref (lad L k) :: st) := v_callVv C [.ref (lad L o1)] (fun sz => c_X3_become l L k o1 σ _ hk ho1 h sz) mC_X3_become mZ_X3 hd_X3_become mI_X3_become mS_X3_become rfl rfl (c0 := 3) (ci := 3) (by decide) rfl rfl rfl hk hml hR rfl hsum d kk
-- ===== RX3.has
abbrev rm_X3_has : Room := { frames := 0, cells := 0, slots := 0, locals := 0 }
def w_X3_has (k : Nat) (a1 : Int32) (σ : Mem) (K : Int32 → Mem → Prop) : Prop := (br ((((σ k 3) >>> (a1 &&& 31)) &&& 1) = 0) (K 0 σ) (K 1 σ))
set_option maxHeartbeats 4000000 in
set_option maxRecDepth 100000 in
theorem c_X3_has (l : Launch) (L : Ly) (k : Nat) (a1 : Int32) (σ : Mem) (K : Int32 → Mem → Prop) (hk : kd k = 3) (h : w_X3_has k a1 σ K) (sz : Nat) : Met l yX3_has (.code yX3_has cX3_has 2 (some .boolean) :: wA) rm_X3_has (va_Pc [.ref (lad L k), .int a1] (mB L sz σ)) (va_Qi K (mE L) (mA L sz)) 0 0 (mA L sz) := by
  refine v_start (own := RX3) [(0, .ref (lad L k)), (1, .int a1)] (by decide) rfl (Nat.le_of_ble_eq_true rfl) rfl (fun p e s m args below meth c C hret hlk => ?_)
  unfold w_X3_has at h
  refine v_aload_n C dX3_has_0 rfl 0 rfl ?_
  refine g_3_held C hk mF_X3_21 dX3_has_1 ?_
  refine v_iload_n C dX3_has_4 rfl 1 rfl ?_
  refine v_ishr C dX3_has_5 ?_
  refine v_iconst C (v := 1) dX3_has_6 rfl ?_
  refine v_iand C dX3_has_7 ?_
  refine v_if_eq C (tgt := 15) dX3_has_8 (by decide) (fun hc => ?_) (fun hc => ?_)
  · replace h := h.1 hc
    refine v_iconst C (v := 0) dX3_has_15 rfl ?_
    exact v_zret C dX3_has_16 hret hlk rfl h
  · replace h := h.2 hc
    refine v_iconst C (v := 1) dX3_has_11 rfl ?_
    refine v_goto C (tgt := 16) dX3_has_12 (by decide) ?_
    exact v_zret C dX3_has_16 hret hlk rfl h
theorem hd_X3_has : yX3_has.cls ≠ "java/lang/invoke/MethodHandle" ∧ yX3_has.cls ≠ "java/lang/invoke/VarHandle" ∧ (parseMethodDescriptor yX3_has.desc).map (fun d => d.parameters.length) = some 1 := by decide +kernel
theorem k_X3_has {p : Program} {l : Launch} {e : Env} {R : Room} {s : State} {m : MethodId} {args : Array Value} {below : List Frame} {meth : Method} {c : Code} {nL cells slots : Nat} {Q : State → Prop} {A : Nat → Prop} {L : Ly} {own : String} {cc : ByteArray} {σ : Mem} {pc idx : Nat} {lv : List (Nat × Value)} {st : List Value} {K : Int32 → Mem → Prop} (C : Cx p R s m args meth c own cc nL cells slots A L) (k : Nat) (a1 : Int32) (hk : kd k = 3) (h : w_X3_has k a1 σ K) (hml : Cond.methodLink own idx yX3_has ∈ wA) (hR : rm_X3_has.frames + 1 ≤ R.frames ∧ 8 + (2 + 11) + rm_X3_has.locals ≤ R.locals) (hsum : (st.map fun v => v.category).sum ≤ 8) (d : decode cc pc = .ok (.invokevirtual idx, 3)) (kk : ∀ r σ1, K r σ1 → V p l e R s m args below meth c nL cells slots Q A L σ1 (pc + 3) lv (.int r :: st)) : V p l e R s m args below meth c nL cells slots Q A L σ pc lv (.int a1 :: .ref (lad L k) :: st) := v_callVi C [.int a1] (fun sz => c_X3_has l L k a1 σ _ hk h sz) mC_X3_has mZ_X3 hd_X3_has mI_X3_has mS_X3_has rfl rfl (c0 := 3) (ci := 3) (by decide) rfl rfl rfl hk hml hR rfl hsum d kk
-- ===== RJ6.bitCount
abbrev rm_J6_bitCount_0f7a4 : Room := { frames := 0, cells := 0, slots := 0, locals := 0 }
def w_J6_bitCount_0f7a4 (a1 : Int32) (σ : Mem) (K : Int32 → Mem → Prop) : Prop := (∀ v1 : Int32, v1 = (a1 - (((Int32.toUInt32 a1 >>> (Int32.toUInt32 1 &&& Int32.toUInt32 31)).toInt32) &&& 1431655765)) → (∀ v2 : Int32, v2 = ((v1 &&& 858993459) + (((Int32.toUInt32 v1 >>> (Int32.toUInt32 2 &&& Int32.toUInt32 31)).toInt32) &&& 858993459)) → (∀ v3 : Int32, v3 = ((v2 + ((Int32.toUInt32 v2 >>> (Int32.toUInt32 4 &&& Int32.toUInt32 31)).toInt32)) &&& 252645135) → (∀ v4 : Int32, v4 = (v3 + ((Int32.toUInt32 v3 >>> (Int32.toUInt32 8 &&& Int32.toUInt32 31)).toInt32)) → (∀ v5 : Int32, v5 = (v4 + ((Int32.toUInt32 v4 >>> (Int32.toUInt32 16 &&& Int32.toUInt32 31)).toInt32)) → (K (v5 &&& 63) σ))))))
set_option maxHeartbeats 4000000 in
set_option maxRecDepth 100000 in
theorem c_J6_bitCount_0f7a4 (l : Launch) (L : Ly) (a1 : Int32) (σ : Mem) (K : Int32 → Mem → Prop)  (h : w_J6_bitCount_0f7a4 a1 σ K) (sz : Nat) : Met l yJ6_bitCount_0f7a4 (.code yJ6_bitCount_0f7a4 cJ6_bitCount_0f7a4 1 (some .int) :: wA) rm_J6_bitCount_0f7a4 (va_Pc [.int a1] (mB L sz σ)) (va_Qi K (mE L) (mA L sz)) 0 0 (mA L sz) := by
  refine v_start (own := RJ6) [(0, .int a1)] (by decide) rfl (Nat.le_of_ble_eq_true rfl) rfl (fun p e s m args below meth c C hret hlk => ?_)
  unfold w_J6_bitCount_0f7a4 at h
  refine v_iload_n C dJ6_bitCount_0f7a4_0 rfl 0 rfl ?_
  refine v_iload_n C dJ6_bitCount_0f7a4_1 rfl 0 rfl ?_
  refine v_iconst C (v := 1) dJ6_bitCount_0f7a4_2 rfl ?_
  refine v_iushr C dJ6_bitCount_0f7a4_3 ?_
  refine v_ldcw C dJ6_bitCount_0f7a4_4 mN_J6_265 ?_
  refine v_iand C dJ6_bitCount_0f7a4_7 ?_
  refine v_isub C dJ6_bitCount_0f7a4_8 ?_
  refine v_nm (fun v1 ev1 => ?_)
  replace h := h v1 ev1
  refine v_istore_n C [(0, .int v1)] dJ6_bitCount_0f7a4_9 rfl (by decide) rfl ?_
  refine v_iload_n C dJ6_bitCount_0f7a4_10 rfl 0 rfl ?_
  refine v_ldcw C dJ6_bitCount_0f7a4_11 mN_J6_266 ?_
  refine v_iand C dJ6_bitCount_0f7a4_14 ?_
  refine v_iload_n C dJ6_bitCount_0f7a4_15 rfl 0 rfl ?_
  refine v_iconst C (v := 2) dJ6_bitCount_0f7a4_16 rfl ?_
  refine v_iushr C dJ6_bitCount_0f7a4_17 ?_
  refine v_ldcw C dJ6_bitCount_0f7a4_18 mN_J6_266 ?_
  refine v_iand C dJ6_bitCount_0f7a4_21 ?_
  refine v_iadd C dJ6_bitCount_0f7a4_22 ?_
  refine v_nm (fun v2 ev2 => ?_)
  replace h := h v2 ev2
  refine v_istore_n C [(0, .int v2)] dJ6_bitCount_0f7a4_23 rfl (by decide) rfl ?_
  refine v_iload_n C dJ6_bitCount_0f7a4_24 rfl 0 rfl ?_
  refine v_iload_n C dJ6_bitCount_0f7a4_25 rfl 0 rfl ?_
  refine v_iconst C (v := 4) dJ6_bitCount_0f7a4_26 rfl ?_
  refine v_iushr C dJ6_bitCount_0f7a4_27 ?_
  refine v_iadd C dJ6_bitCount_0f7a4_28 ?_
  refine v_ldcw C dJ6_bitCount_0f7a4_29 mN_J6_267 ?_
  refine v_iand C dJ6_bitCount_0f7a4_32 ?_
  refine v_nm (fun v3 ev3 => ?_)
  replace h := h v3 ev3
  refine v_istore_n C [(0, .int v3)] dJ6_bitCount_0f7a4_33 rfl (by decide) rfl ?_
  refine v_iload_n C dJ6_bitCount_0f7a4_34 rfl 0 rfl ?_
  refine v_iload_n C dJ6_bitCount_0f7a4_35 rfl 0 rfl ?_
  refine v_bipush C (v := 8) dJ6_bitCount_0f7a4_36 rfl ?_
  refine v_iushr C dJ6_bitCount_0f7a4_38 ?_
  refine v_iadd C dJ6_bitCount_0f7a4_39 ?_
  refine v_nm (fun v4 ev4 => ?_)
  replace h := h v4 ev4
  refine v_istore_n C [(0, .int v4)] dJ6_bitCount_0f7a4_40 rfl (by decide) rfl ?_
  refine v_iload_n C dJ6_bitCount_0f7a4_41 rfl 0 rfl ?_
  refine v_iload_n C dJ6_bitCount_0f7a4_42 rfl 0 rfl ?_
  refine v_bipush C (v := 16) dJ6_bitCount_0f7a4_43 rfl ?_
  refine v_iushr C dJ6_bitCount_0f7a4_45 ?_
  refine v_iadd C dJ6_bitCount_0f7a4_46 ?_
  refine v_nm (fun v5 ev5 => ?_)
  replace h := h v5 ev5
  refine v_istore_n C [(0, .int v5)] dJ6_bitCount_0f7a4_47 rfl (by decide) rfl ?_
  refine v_iload_n C dJ6_bitCount_0f7a4_48 rfl 0 rfl ?_
  refine v_bipush C (v := 63) dJ6_bitCount_0f7a4_49 rfl ?_
  refine v_iand C dJ6_bitCount_0f7a4_51 ?_
  exact v_iret C dJ6_bitCount_0f7a4_52 hret hlk h
theorem hd_J6_bitCount_0f7a4 : yJ6_bitCount_0f7a4.cls ≠ "java/lang/invoke/MethodHandle" ∧ yJ6_bitCount_0f7a4.cls ≠ "java/lang/invoke/VarHandle" ∧ (parseMethodDescriptor yJ6_bitCount_0f7a4.desc).map (fun d => d.parameters.length) = some 1 := by decide +kernel
theorem k_J6_bitCount_0f7a4 {p : Program} {l : Launch} {e : Env} {R : Room} {s : State} {m : MethodId} {args : Array Value} {below : List Frame} {meth : Method} {c : Code} {nL cells slots : Nat} {Q : State → Prop} {A : Nat → Prop} {L : Ly} {own : String} {cc : ByteArray} {σ : Mem} {pc idx : Nat} {lv : List (Nat × Value)} {st : List Value} {K : Int32 → Mem → Prop} (C : Cx p R s m args meth c own cc nL cells slots A L) (a1 : Int32)  (h : w_J6_bitCount_0f7a4 a1 σ K) (hml : Cond.methodLink own idx yJ6_bitCount_0f7a4 ∈ wA) (hR : rm_J6_bitCount_0f7a4.frames + 1 ≤ R.frames ∧ 8 + (1 + 11) + rm_J6_bitCount_0f7a4.locals ≤ R.locals) (hsum : (st.map fun v => v.category).sum ≤ 8) (d : decode cc pc = .ok (.invokestatic idx, 3)) (kk : ∀ r σ1, K r σ1 → V p l e R s m args below meth c nL cells slots Q A L σ1 (pc + 3) lv (.int r :: st)) : V p l e R s m args below meth c nL cells slots Q A L σ pc lv (.int a1 :: st) := v_callSi C [.int a1] (fun sz => c_J6_bitCount_0f7a4 l L a1 σ _  h sz) mC_J6_bitCount_0f7a4 mZ_J6 hd_J6_bitCount_0f7a4 mT_J6_bitCount_0f7a4 rfl rfl hml hR rfl hsum d kk
-- ===== RX3.counters
abbrev rm_X3_counters : Room := { frames := 1, cells := 0, slots := 0, locals := 20 }
def w_X3_counters (k : Nat) (σ : Mem) (K : Int32 → Mem → Prop) : Prop := (w_J6_bitCount_0f7a4 (σ k 3) σ (fun r2 σ1 => (K r2 σ1)))
set_option maxHeartbeats 4000000 in
set_option maxRecDepth 100000 in
theorem c_X3_counters (l : Launch) (L : Ly) (k : Nat) (σ : Mem) (K : Int32 → Mem → Prop) (hk : kd k = 3) (h : w_X3_counters k σ K) (sz : Nat) : Met l yX3_counters (.code yX3_counters cX3_counters 1 (some .int) :: wA) rm_X3_counters (va_Pc [.ref (lad L k)] (mB L sz σ)) (va_Qi K (mE L) (mA L sz)) 0 0 (mA L sz) := by
  refine v_start (own := RX3) [(0, .ref (lad L k))] (by decide) rfl (Nat.le_of_ble_eq_true rfl) rfl (fun p e s m args below meth c C hret hlk => ?_)
  unfold w_X3_counters at h
  refine v_aload_n C dX3_counters_0 rfl 0 rfl ?_
  refine g_3_held C hk mF_X3_21 dX3_counters_1 ?_
  refine k_J6_bitCount_0f7a4 C (σ k 3)  h mM_X3_37 ⟨Nat.le_of_ble_eq_true rfl, Nat.le_of_ble_eq_true rfl⟩ (Nat.le_of_ble_eq_true rfl) dX3_counters_4 (fun r2 σ1 h => ?_)
  exact v_iret C dX3_counters_7 hret hlk h
theorem hd_X3_counters : yX3_counters.cls ≠ "java/lang/invoke/MethodHandle" ∧ yX3_counters.cls ≠ "java/lang/invoke/VarHandle" ∧ (parseMethodDescriptor yX3_counters.desc).map (fun d => d.parameters.length) = some 0 := by decide +kernel
theorem k_X3_counters {p : Program} {l : Launch} {e : Env} {R : Room} {s : State} {m : MethodId} {args : Array Value} {below : List Frame} {meth : Method} {c : Code} {nL cells slots : Nat} {Q : State → Prop} {A : Nat → Prop} {L : Ly} {own : String} {cc : ByteArray} {σ : Mem} {pc idx : Nat} {lv : List (Nat × Value)} {st : List Value} {K : Int32 → Mem → Prop} (C : Cx p R s m args meth c own cc nL cells slots A L) (k : Nat) (hk : kd k = 3) (h : w_X3_counters k σ K) (hml : Cond.methodLink own idx yX3_counters ∈ wA) (hR : rm_X3_counters.frames + 1 ≤ R.frames ∧ 8 + (1 + 11) + rm_X3_counters.locals ≤ R.locals) (hsum : (st.map fun v => v.category).sum ≤ 8) (d : decode cc pc = .ok (.invokevirtual idx, 3)) (kk : ∀ r σ1, K r σ1 → V p l e R s m args below meth c nL cells slots Q A L σ1 (pc + 3) lv (.int r :: st)) : V p l e R s m args below meth c nL cells slots Q A L σ pc lv (.ref (lad L k) :: st) := v_callVi C [] (fun sz => c_X3_counters l L k σ _ hk h sz) mC_X3_counters mZ_X3 hd_X3_counters mI_X3_counters mS_X3_counters rfl rfl (c0 := 3) (ci := 3) (by decide) rfl rfl rfl hk hml hR rfl hsum d kk
-- ===== RX3.needsRoomFor
abbrev rm_X3_needsRoomFor : Room := { frames := 2, cells := 0, slots := 0, locals := 40 }
def w_X3_needsRoomFor (k : Nat) (a1 : Int32) (σ : Mem) (K : Int32 → Mem → Prop) : Prop := (w_X3_has k a1 σ (fun r2 σ1 => (br (r2 = 0) (w_X3_counters k σ1 (fun r4 σ3 => (br (r4 < (σ3 k 0)) (K 0 σ3) (K 1 σ3)))) (K 0 σ1))))
set_option maxHeartbeats 4000000 in
set_option maxRecDepth 100000 in
theorem c_X3_needsRoomFor (l : Launch) (L : Ly) (k : Nat) (a1 : Int32) (σ : Mem) (K : Int32 → Mem → Prop) (hk : kd k = 3) (h : w_X3_needsRoomFor k a1 σ K) (sz : Nat) : Met l yX3_needsRoomFor (.code yX3_needsRoomFor cX3_needsRoomFor 2 (some .boolean) :: wA) rm_X3_needsRoomFor (va_Pc [.ref (lad L k), .int a1] (mB L sz σ)) (va_Qi K (mE L) (mA L sz)) 0 0 (mA L sz) := by
  refine v_start (own := RX3) [(0, .ref (lad L k)), (1, .int a1)] (by decide) rfl (Nat.le_of_ble_eq_true rfl) rfl (fun p e s m args below meth c C hret hlk => ?_)
  unfold w_X3_needsRoomFor at h
  refine v_aload_n C dX3_needsRoomFor_0 rfl 0 rfl ?_
  refine v_iload_n C dX3_needsRoomFor_1 rfl 1 rfl ?_
  refine k_X3_has C k a1 hk h mM_X3_43 ⟨Nat.le_of_ble_eq_true rfl, Nat.le_of_ble_eq_true rfl⟩ (Nat.le_of_ble_eq_true rfl) dX3_needsRoomFor_2 (fun r2 σ1 h => ?_)
  refine v_if_ne C (tgt := 23) dX3_needsRoomFor_5 (by decide) (fun hc => ?_) (fun hc => ?_)
  · replace h := h.2 hc
    refine v_iconst C (v := 0) dX3_needsRoomFor_23 rfl ?_
    exact v_zret C dX3_needsRoomFor_24 hret hlk rfl h
  · replace h := h.1 hc
    refine v_aload_n C dX3_needsRoomFor_8 rfl 0 rfl ?_
    refine k_X3_counters C k hk h mM_X3_47 ⟨Nat.le_of_ble_eq_true rfl, Nat.le_of_ble_eq_true rfl⟩ (Nat.le_of_ble_eq_true rfl) dX3_needsRoomFor_9 (fun r4 σ3 h => ?_)
    refine v_aload_n C dX3_needsRoomFor_12 rfl 0 rfl ?_
    refine g_3_size C hk mF_X3_9 dX3_needsRoomFor_13 ?_
    refine v_icmp_lt C (tgt := 23) dX3_needsRoomFor_16 (by decide) (fun hc => ?_) (fun hc => ?_)
    · replace h := h.1 hc
      refine v_iconst C (v := 0) dX3_needsRoomFor_23 rfl ?_
      exact v_zret C dX3_needsRoomFor_24 hret hlk rfl h
    · replace h := h.2 hc
      refine v_iconst C (v := 1) dX3_needsRoomFor_19 rfl ?_
      refine v_goto C (tgt := 24) dX3_needsRoomFor_20 (by decide) ?_
      exact v_zret C dX3_needsRoomFor_24 hret hlk rfl h
theorem hd_X3_needsRoomFor : yX3_needsRoomFor.cls ≠ "java/lang/invoke/MethodHandle" ∧ yX3_needsRoomFor.cls ≠ "java/lang/invoke/VarHandle" ∧ (parseMethodDescriptor yX3_needsRoomFor.desc).map (fun d => d.parameters.length) = some 1 := by decide +kernel
theorem k_X3_needsRoomFor {p : Program} {l : Launch} {e : Env} {R : Room} {s : State} {m : MethodId} {args : Array Value} {below : List Frame} {meth : Method} {c : Code} {nL cells slots : Nat} {Q : State → Prop} {A : Nat → Prop} {L : Ly} {own : String} {cc : ByteArray} {σ : Mem} {pc idx : Nat} {lv : List (Nat × Value)} {st : List Value} {K : Int32 → Mem → Prop} (C : Cx p R s m args meth c own cc nL cells slots A L) (k : Nat) (a1 : Int32) (hk : kd k = 3) (h : w_X3_needsRoomFor k a1 σ K) (hml : Cond.methodLink own idx yX3_needsRoomFor ∈ wA) (hR : rm_X3_needsRoomFor.frames + 1 ≤ R.frames ∧ 8 + (2 + 11) + rm_X3_needsRoomFor.locals ≤ R.locals) (hsum : (st.map fun v => v.category).sum ≤ 8) (d : decode cc pc = .ok (.invokevirtual idx, 3)) (kk : ∀ r σ1, K r σ1 → V p l e R s m args below meth c nL cells slots Q A L σ1 (pc + 3) lv (.int r :: st)) : V p l e R s m args below meth c nL cells slots Q A L σ pc lv (.int a1 :: .ref (lad L k) :: st) := v_callVi C [.int a1] (fun sz => c_X3_needsRoomFor l L k a1 σ _ hk h sz) mC_X3_needsRoomFor mZ_X3 hd_X3_needsRoomFor mI_X3_needsRoomFor mS_X3_needsRoomFor rfl rfl (c0 := 3) (ci := 3) (by decide) rfl rfl rfl hk hml hR rfl hsum d kk
-- ===== RX3.goesBefore
abbrev rm_X3_goesBefore : Room := { frames := 0, cells := 0, slots := 0, locals := 0 }
def w_X3_goesBefore (k : Nat) (a1 : Int32) (a2 : Int32) (σ : Mem) (K : Int32 → Mem → Prop) : Prop := (vp_in a1 26 ∧ (vp_in a2 26 ∧ (br ((σ (k + 1) (ix a1)) < (σ (k + 1) (ix a2))) (K 1 σ) (vp_in a1 26 ∧ (vp_in a2 26 ∧ (br ((σ (k + 1) (ix a1)) = (σ (k + 1) (ix a2))) (vp_in a1 26 ∧ (vp_in a2 26 ∧ (br ((σ (k + 3) (ix a2)) ≤ (σ (k + 3) (ix a1))) (K 0 σ) (K 1 σ)))) (K 0 σ)))))))
set_option maxHeartbeats 4000000 in
set_option maxRecDepth 100000 in
theorem c_X3_goesBefore (l : Launch) (L : Ly) (k : Nat) (a1 : Int32) (a2 : Int32) (σ : Mem) (K : Int32 → Mem → Prop) (hk : kd k = 3) (h : w_X3_goesBefore k a1 a2 σ K) (sz : Nat) : Met l yX3_goesBefore (.code yX3_goesBefore cX3_goesBefore 3 (some .boolean) :: wA) rm_X3_goesBefore (va_Pc [.ref (lad L k), .int a1, .int a2] (mB L sz σ)) (va_Qi K (mE L) (mA L sz)) 0 0 (mA L sz) := by
  refine v_start (own := RX3) [(0, .ref (lad L k)), (1, .int a1), (2, .int a2)] (by decide) rfl (Nat.le_of_ble_eq_true rfl) rfl (fun p e s m args below meth c C hret hlk => ?_)
  unfold w_X3_goesBefore at h
  refine v_aload_n C dX3_goesBefore_0 rfl 0 rfl ?_
  refine g_3_counts C hk mF_X3_24 dX3_goesBefore_1 ?_
  refine v_iload_n C dX3_goesBefore_4 rfl 1 rfl ?_
  obtain ⟨hi1, h⟩ := h
  refine v_iald C (c0 := 20) (by decide) rfl (kd_3_1 hk) hi1 dX3_goesBefore_5 ?_
  refine v_aload_n C dX3_goesBefore_6 rfl 0 rfl ?_
  refine g_3_counts C hk mF_X3_24 dX3_goesBefore_7 ?_
  refine v_iload_n C dX3_goesBefore_10 rfl 2 rfl ?_
  obtain ⟨hi2, h⟩ := h
  refine v_iald C (c0 := 20) (by decide) rfl (kd_3_1 hk) hi2 dX3_goesBefore_11 ?_
  refine v_icmp_lt C (tgt := 45) dX3_goesBefore_12 (by decide) (fun hc => ?_) (fun hc => ?_)
  · replace h := h.1 hc
    refine v_iconst C (v := 1) dX3_goesBefore_45 rfl ?_
    refine v_goto C (tgt := 50) dX3_goesBefore_46 (by decide) ?_
    exact v_zret C dX3_goesBefore_50 hret hlk rfl h
  · replace h := h.2 hc
    refine v_aload_n C dX3_goesBefore_15 rfl 0 rfl ?_
    refine g_3_counts C hk mF_X3_24 dX3_goesBefore_16 ?_
    refine v_iload_n C dX3_goesBefore_19 rfl 1 rfl ?_
    obtain ⟨hi3, h⟩ := h
    refine v_iald C (c0 := 20) (by decide) rfl (kd_3_1 hk) hi3 dX3_goesBefore_20 ?_
    refine v_aload_n C dX3_goesBefore_21 rfl 0 rfl ?_
    refine g_3_counts C hk mF_X3_24 dX3_goesBefore_22 ?_
    refine v_iload_n C dX3_goesBefore_25 rfl 2 rfl ?_
    obtain ⟨hi4, h⟩ := h
    refine v_iald C (c0 := 20) (by decide) rfl (kd_3_1 hk) hi4 dX3_goesBefore_26 ?_
    refine v_icmp_ne C (tgt := 49) dX3_goesBefore_27 (by decide) (fun hc => ?_) (fun hc => ?_)
    · replace h := h.2 hc
      refine v_iconst C (v := 0) dX3_goesBefore_49 rfl ?_
      exact v_zret C dX3_goesBefore_50 hret hlk rfl h
    · replace h := h.1 hc
      refine v_aload_n C dX3_goesBefore_30 rfl 0 rfl ?_
      refine g_3_times C hk mF_X3_31 dX3_goesBefore_31 ?_
      refine v_iload_n C dX3_goesBefore_34 rfl 1 rfl ?_
      obtain ⟨hi5, h⟩ := h
      refine v_iald C (c0 := 20) (by decide) rfl (kd_3_3 hk) hi5 dX3_goesBefore_35 ?_
      refine v_aload_n C dX3_goesBefore_36 rfl 0 rfl ?_
      refine g_3_times C hk mF_X3_31 dX3_goesBefore_37 ?_
      refine v_iload_n C dX3_goesBefore_40 rfl 2 rfl ?_
      obtain ⟨hi6, h⟩ := h
      refine v_iald C (c0 := 20) (by decide) rfl (kd_3_3 hk) hi6 dX3_goesBefore_41 ?_
      refine v_icmp_ge C (tgt := 49) dX3_goesBefore_42 (by decide) (fun hc => ?_) (fun hc => ?_)
      · replace h := h.1 hc
        refine v_iconst C (v := 0) dX3_goesBefore_49 rfl ?_
        exact v_zret C dX3_goesBefore_50 hret hlk rfl h
      · replace h := h.2 hc
        refine v_iconst C (v := 1) dX3_goesBefore_45 rfl ?_
        refine v_goto C (tgt := 50) dX3_goesBefore_46 (by decide) ?_
        exact v_zret C dX3_goesBefore_50 hret hlk rfl h
theorem hd_X3_goesBefore : yX3_goesBefore.cls ≠ "java/lang/invoke/MethodHandle" ∧ yX3_goesBefore.cls ≠ "java/lang/invoke/VarHandle" ∧ (parseMethodDescriptor yX3_goesBefore.desc).map (fun d => d.parameters.length) = some 2 := by decide +kernel
theorem k_X3_goesBefore {p : Program} {l : Launch} {e : Env} {R : Room} {s : State} {m : MethodId} {args : Array Value} {below : List Frame} {meth : Method} {c : Code} {nL cells slots : Nat} {Q : State → Prop} {A : Nat → Prop} {L : Ly} {own : String} {cc : ByteArray} {σ : Mem} {pc idx : Nat} {lv : List (Nat × Value)} {st : List Value} {K : Int32 → Mem → Prop} (C : Cx p R s m args meth c own cc nL cells slots A L) (k : Nat) (a1 : Int32) (a2 : Int32) (hk : kd k = 3) (h : w_X3_goesBefore k a1 a2 σ K) (hml : Cond.methodLink own idx yX3_goesBefore ∈ wA) (hR : rm_X3_goesBefore.frames + 1 ≤ R.frames ∧ 8 + (3 + 11) + rm_X3_goesBefore.locals ≤ R.locals) (hsum : (st.map fun v => v.category).sum ≤ 8) (d : decode cc pc = .ok (.invokevirtual idx, 3)) (kk : ∀ r σ1, K r σ1 → V p l e R s m args below meth c nL cells slots Q A L σ1 (pc + 3) lv (.int r :: st)) : V p l e R s m args below meth c nL cells slots Q A L σ pc lv (.int a2 :: .int a1 :: .ref (lad L k) :: st) := v_callVi C [.int a1, .int a2] (fun sz => c_X3_goesBefore l L k a1 a2 σ _ hk h sz) mC_X3_goesBefore mZ_X3 hd_X3_goesBefore mI_X3_goesBefore mS_X3_goesBefore rfl rfl (c0 := 3) (ci := 3) (by decide) rfl rfl rfl hk hml hR rfl hsum d kk
-- ===== RX3.nextEvicted
abbrev rm_X3_nextEvicted : Room := { frames := 1, cells := 0, slots := 0, locals := 22 }
def w_X3_nextEvicted_4 (k : Nat) (K : Int32 → Mem → Prop)  : Nat → Int32 → Int32 → Mem → Prop
  | 0, _, _, _ => False
  | n + 1, x1, x2, σ => (br (26 ≤ x2) (K x1 σ) (w_X3_has k x2 σ (fun r2 σ1 => (br (r2 = 0) (w_X3_nextEvicted_4 k K  n x1 (x2 + 1) σ1) (br (x1 = (-1)) (w_X3_nextEvicted_4 k K  n x2 (x2 + 1) σ1) (w_X3_goesBefore k x2 x1 σ1 (fun r4 σ3 => (br (r4 = 0) (w_X3_nextEvicted_4 k K  n x1 (x2 + 1) σ3) (w_X3_nextEvicted_4 k K  n x2 (x2 + 1) σ3)))))))))
set_option maxHeartbeats 4000000 in
set_option maxRecDepth 100000 in
theorem b_X3_nextEvicted_4 {p : Program} {l : Launch} {e : Env} {s : State} {m : MethodId} {args : Array Value} {below : List Frame} {meth : Method} {c : Code} {L : Ly} {sz : Nat} (C : Cx p rm_X3_nextEvicted s m args meth c RX3 cX3_nextEvicted 3 0 0 (mA L sz) L) (hret : meth.sig.returnType = (some .int)) (hlk : meth.locks = false) (k : Nat) (hk : kd k = 3) (K : Int32 → Mem → Prop)  : ∀ (n : Nat) (x1 : Int32) (x2 : Int32) (σ : Mem), w_X3_nextEvicted_4 k K  n x1 x2 σ → V p l e rm_X3_nextEvicted s m args below meth c 3 0 0 (MQ below (va_Qi K (mE L) (mA L sz)) args s 0 0 (mA L sz)) (mA L sz) L σ 4 [(0, .ref (lad L k)), (1, .int x1), (2, .int x2)] [] := by
  intro n
  induction n with
  | zero => intro x1 x2 σ  h; exact h.elim
  | succ n ih =>
    intro x1 x2 σ  h
    rw [w_X3_nextEvicted_4] at h
    refine v_iload_n C dX3_nextEvicted_4 rfl 2 rfl ?_
    refine v_bipush C (v := 26) dX3_nextEvicted_5 rfl ?_
    refine v_icmp_ge C (tgt := 40) dX3_nextEvicted_7 (by decide) (fun hc => ?_) (fun hc => ?_)
    · replace h := h.1 hc
      refine v_iload_n C dX3_nextEvicted_40 rfl 1 rfl ?_
      exact v_iret C dX3_nextEvicted_41 hret hlk h
    · replace h := h.2 hc
      refine v_aload_n C dX3_nextEvicted_10 rfl 0 rfl ?_
      refine v_iload_n C dX3_nextEvicted_11 rfl 2 rfl ?_
      refine k_X3_has C k x2 hk h mM_X3_43 ⟨Nat.le_of_ble_eq_true rfl, Nat.le_of_ble_eq_true rfl⟩ (Nat.le_of_ble_eq_true rfl) dX3_nextEvicted_12 (fun r2 σ1 h => ?_)
      refine v_if_eq C (tgt := 34) dX3_nextEvicted_15 (by decide) (fun hc => ?_) (fun hc => ?_)
      · replace h := h.1 hc
        refine v_iinc C [(2, .int (x2 + 1)), (0, .ref (lad L k)), (1, .int x1)] dX3_nextEvicted_34 2 rfl rfl (by decide) rfl ?_
        refine v_goto C (tgt := 4) dX3_nextEvicted_37 (by decide) ?_
        refine v_sub [1, 2, 0] rfl ?_
        exact ih _ _ _  h
      · replace h := h.2 hc
        refine v_iload_n C dX3_nextEvicted_18 rfl 1 rfl ?_
        refine v_iconst C (v := (-1)) dX3_nextEvicted_19 rfl ?_
        refine v_icmp_eq C (tgt := 32) dX3_nextEvicted_20 (by decide) (fun hc => ?_) (fun hc => ?_)
        · replace h := h.1 hc
          refine v_iload_n C dX3_nextEvicted_32 rfl 2 rfl ?_
          refine v_istore_n C [(1, .int x2), (0, .ref (lad L k)), (2, .int x2)] dX3_nextEvicted_33 rfl (by decide) rfl ?_
          refine v_iinc C [(2, .int (x2 + 1)), (1, .int x2), (0, .ref (lad L k))] dX3_nextEvicted_34 2 rfl rfl (by decide) rfl ?_
          refine v_goto C (tgt := 4) dX3_nextEvicted_37 (by decide) ?_
          refine v_sub [2, 1, 0] rfl ?_
          exact ih _ _ _  h
        · replace h := h.2 hc
          refine v_aload_n C dX3_nextEvicted_23 rfl 0 rfl ?_
          refine v_iload_n C dX3_nextEvicted_24 rfl 2 rfl ?_
          refine v_iload_n C dX3_nextEvicted_25 rfl 1 rfl ?_
          refine k_X3_goesBefore C k x2 x1 hk h mM_X3_57 ⟨Nat.le_of_ble_eq_true rfl, Nat.le_of_ble_eq_true rfl⟩ (Nat.le_of_ble_eq_true rfl) dX3_nextEvicted_26 (fun r4 σ3 h => ?_)
          refine v_if_eq C (tgt := 34) dX3_nextEvicted_29 (by decide) (fun hc => ?_) (fun hc => ?_)
          · replace h := h.1 hc
            refine v_iinc C [(2, .int (x2 + 1)), (0, .ref (lad L k)), (1, .int x1)] dX3_nextEvicted_34 2 rfl rfl (by decide) rfl ?_
            refine v_goto C (tgt := 4) dX3_nextEvicted_37 (by decide) ?_
            refine v_sub [1, 2, 0] rfl ?_
            exact ih _ _ _  h
          · replace h := h.2 hc
            refine v_iload_n C dX3_nextEvicted_32 rfl 2 rfl ?_
            refine v_istore_n C [(1, .int x2), (0, .ref (lad L k)), (2, .int x2)] dX3_nextEvicted_33 rfl (by decide) rfl ?_
            refine v_iinc C [(2, .int (x2 + 1)), (1, .int x2), (0, .ref (lad L k))] dX3_nextEvicted_34 2 rfl rfl (by decide) rfl ?_
            refine v_goto C (tgt := 4) dX3_nextEvicted_37 (by decide) ?_
            refine v_sub [2, 1, 0] rfl ?_
            exact ih _ _ _  h
def w_X3_nextEvicted (k : Nat) (σ : Mem) (K : Int32 → Mem → Prop) : Prop := (∃ n5, w_X3_nextEvicted_4 k K  n5 (-1) 0 σ)
set_option maxHeartbeats 4000000 in
set_option maxRecDepth 100000 in
theorem c_X3_nextEvicted (l : Launch) (L : Ly) (k : Nat) (σ : Mem) (K : Int32 → Mem → Prop) (hk : kd k = 3) (h : w_X3_nextEvicted k σ K) (sz : Nat) : Met l yX3_nextEvicted (.code yX3_nextEvicted cX3_nextEvicted 3 (some .int) :: wA) rm_X3_nextEvicted (va_Pc [.ref (lad L k)] (mB L sz σ)) (va_Qi K (mE L) (mA L sz)) 0 0 (mA L sz) := by
  refine v_start (own := RX3) [(0, .ref (lad L k))] (by decide) rfl (Nat.le_of_ble_eq_true rfl) rfl (fun p e s m args below meth c C hret hlk => ?_)
  unfold w_X3_nextEvicted at h
  refine v_iconst C (v := (-1)) dX3_nextEvicted_0 rfl ?_
  refine v_istore_n C [(1, .int (-1)), (0, .ref (lad L k))] dX3_nextEvicted_1 rfl (by decide) rfl ?_
  refine v_iconst C (v := 0) dX3_nextEvicted_2 rfl ?_
  refine v_istore_n C [(2, .int 0), (1, .int (-1)), (0, .ref (lad L k))] dX3_nextEvicted_3 rfl (by decide) rfl ?_
  obtain ⟨n5, h⟩ := h
  refine v_sub [2, 1, 0] rfl ?_
  exact b_X3_nextEvicted_4 C hret hlk k hk K   n5 _ _ _  h
theorem hd_X3_nextEvicted : yX3_nextEvicted.cls ≠ "java/lang/invoke/MethodHandle" ∧ yX3_nextEvicted.cls ≠ "java/lang/invoke/VarHandle" ∧ (parseMethodDescriptor yX3_nextEvicted.desc).map (fun d => d.parameters.length) = some 0 := by decide +kernel
theorem k_X3_nextEvicted {p : Program} {l : Launch} {e : Env} {R : Room} {s : State} {m : MethodId} {args : Array Value} {below : List Frame} {meth : Method} {c : Code} {nL cells slots : Nat} {Q : State → Prop} {A : Nat → Prop} {L : Ly} {own : String} {cc : ByteArray} {σ : Mem} {pc idx : Nat} {lv : List (Nat × Value)} {st : List Value} {K : Int32 → Mem → Prop} (C : Cx p R s m args meth c own cc nL cells slots A L) (k : Nat) (hk : kd k = 3) (h : w_X3_nextEvicted k σ K) (hml : Cond.methodLink own idx yX3_nextEvicted ∈ wA) (hR : rm_X3_nextEvicted.frames + 1 ≤ R.frames ∧ 8 + (3 + 11) + rm_X3_nextEvicted.locals ≤ R.locals) (hsum : (st.map fun v => v.category).sum ≤ 8) (d : decode cc pc = .ok (.invokevirtual idx, 3)) (kk : ∀ r σ1, K r σ1 → V p l e R s m args below meth c nL cells slots Q A L σ1 (pc + 3) lv (.int r :: st)) : V p l e R s m args below meth c nL cells slots Q A L σ pc lv (.ref (lad L k) :: st) := v_callVi C [] (fun sz => c_X3_nextEvicted l L k σ _ hk h sz) mC_X3_nextEvicted mZ_X3 hd_X3_nextEvicted mI_X3_nextEvicted mS_X3_nextEvicted rfl rfl (c0 := 3) (ci := 3) (by decide) rfl rfl rfl hk hml hR rfl hsum d kk
-- ===== RX3.takeCounter
abbrev rm_X3_takeCounter : Room := { frames := 1, cells := 0, slots := 0, locals := 21 }
def w_X3_takeCounter (k : Nat) (a1 : Int32) (σ : Mem) (K : Mem → Prop) : Prop := (vp_in a1 26 ∧ (∀ σ2 : Mem, σ2 = mu σ k 1 (if (σ k 1) < (σ (k + 1) (ix a1)) then (σ (k + 1) (ix a1)) else (σ k 1)) → (∀ σ3 : Mem, σ3 = mu σ2 k 3 ((σ2 k 3) &&& ((1 <<< (a1 &&& 31)) ^^^ (-1))) → (K σ3))))
set_option maxHeartbeats 4000000 in
set_option maxRecDepth 100000 in
theorem c_X3_takeCounter (l : Launch) (L : Ly) (k : Nat) (a1 : Int32) (σ : Mem) (K : Mem → Prop) (hk : kd k = 3) (h : w_X3_takeCounter k a1 σ K) (sz : Nat) : Met l yX3_takeCounter (.code yX3_takeCounter cX3_takeCounter 2 none :: wA) rm_X3_takeCounter (va_Pc [.ref (lad L k), .int a1] (mB L sz σ)) (va_Qv K (mE L) (mA L sz)) 0 0 (mA L sz) := by
  refine v_start (own := RX3) [(0, .ref (lad L k)), (1, .int a1)] (by decide) rfl (Nat.le_of_ble_eq_true rfl) rfl (fun p e s m args below meth c C hret hlk => ?_)
  unfold w_X3_takeCounter at h
  refine v_aload_n C dX3_takeCounter_0 rfl 0 rfl ?_
  refine v_aload_n C dX3_takeCounter_1 rfl 0 rfl ?_
  refine g_3_floor C hk mF_X3_15 dX3_takeCounter_2 ?_
  refine v_aload_n C dX3_takeCounter_5 rfl 0 rfl ?_
  refine g_3_counts C hk mF_X3_24 dX3_takeCounter_6 ?_
  refine v_iload_n C dX3_takeCounter_9 rfl 1 rfl ?_
  obtain ⟨hi1, h⟩ := h
  refine v_iald C (c0 := 20) (by decide) rfl (kd_3_1 hk) hi1 dX3_takeCounter_10 ?_
  refine v_mmax C mM_X3_68 (by decide) (Nat.le_of_ble_eq_true rfl) dX3_takeCounter_11 ?_
  refine p_3_floor C hk mF_X3_15 dX3_takeCounter_14 (fun σ2 eσ2 => ?_)
  replace h := h σ2 eσ2
  refine v_aload_n C dX3_takeCounter_17 rfl 0 rfl ?_
  refine v_dup C dX3_takeCounter_18 rfl ?_
  refine g_3_held C hk mF_X3_21 dX3_takeCounter_19 ?_
  refine v_iconst C (v := 1) dX3_takeCounter_22 rfl ?_
  refine v_iload_n C dX3_takeCounter_23 rfl 1 rfl ?_
  refine v_ishl C dX3_takeCounter_24 ?_
  refine v_iconst C (v := (-1)) dX3_takeCounter_25 rfl ?_
  refine v_ixor C dX3_takeCounter_26 ?_
  refine v_iand C dX3_takeCounter_27 ?_
  refine p_3_held C hk mF_X3_21 dX3_takeCounter_28 (fun σ3 eσ3 => ?_)
  replace h := h σ3 eσ3
  exact v_vret C dX3_takeCounter_31 hret hlk h
theorem hd_X3_takeCounter : yX3_takeCounter.cls ≠ "java/lang/invoke/MethodHandle" ∧ yX3_takeCounter.cls ≠ "java/lang/invoke/VarHandle" ∧ (parseMethodDescriptor yX3_takeCounter.desc).map (fun d => d.parameters.length) = some 1 := by decide +kernel
theorem k_X3_takeCounter {p : Program} {l : Launch} {e : Env} {R : Room} {s : State} {m : MethodId} {args : Array Value} {below : List Frame} {meth : Method} {c : Code} {nL cells slots : Nat} {Q : State → Prop} {A : Nat → Prop} {L : Ly} {own : String} {cc : ByteArray} {σ : Mem} {pc idx : Nat} {lv : List (Nat × Value)} {st : List Value} {K : Mem → Prop} (C : Cx p R s m args meth c own cc nL cells slots A L) (k : Nat) (a1 : Int32) (hk : kd k = 3) (h : w_X3_takeCounter k a1 σ K) (hml : Cond.methodLink own idx yX3_takeCounter ∈ wA) (hR : rm_X3_takeCounter.frames + 1 ≤ R.frames ∧ 8 + (2 + 11) + rm_X3_takeCounter.locals ≤ R.locals) (hsum : (st.map fun v => v.category).sum ≤ 8) (d : decode cc pc = .ok (.invokevirtual idx, 3)) (kk : ∀ σ1, K σ1 → V p l e R s m args below meth c nL cells slots Q A L σ1 (pc + 3) lv st) : V p l e R s m args below meth c nL cells slots Q A L σ pc lv (.int a1 :: .ref (lad L k) :: st) := v_callVv C [.int a1] (fun sz => c_X3_takeCounter l L k a1 σ _ hk h sz) mC_X3_takeCounter mZ_X3 hd_X3_takeCounter mI_X3_takeCounter mS_X3_takeCounter rfl rfl (c0 := 3) (ci := 3) (by decide) rfl rfl rfl hk hml hR rfl hsum d kk
-- ===== RX3.evictNext
abbrev rm_X3_evictNext : Room := { frames := 2, cells := 0, slots := 0, locals := 44 }
def w_X3_evictNext (k : Nat) (σ : Mem) (K : Int32 → Mem → Prop) : Prop := (w_X3_nextEvicted k σ (fun r2 σ1 => (br (r2 = (-1)) (K r2 σ1) (w_X3_takeCounter k r2 σ1 (fun σ3 => (K r2 σ3))))))
set_option maxHeartbeats 4000000 in
set_option maxRecDepth 100000 in
theorem c_X3_evictNext (l : Launch) (L : Ly) (k : Nat) (σ : Mem) (K : Int32 → Mem → Prop) (hk : kd k = 3) (h : w_X3_evictNext k σ K) (sz : Nat) : Met l yX3_evictNext (.code yX3_evictNext cX3_evictNext 2 (some .int) :: wA) rm_X3_evictNext (va_Pc [.ref (lad L k)] (mB L sz σ)) (va_Qi K (mE L) (mA L sz)) 0 0 (mA L sz) := by
  refine v_start (own := RX3) [(0, .ref (lad L k))] (by decide) rfl (Nat.le_of_ble_eq_true rfl) rfl (fun p e s m args below meth c C hret hlk => ?_)
  unfold w_X3_evictNext at h
  refine v_aload_n C dX3_evictNext_0 rfl 0 rfl ?_
  refine k_X3_nextEvicted C k hk h mM_X3_61 ⟨Nat.le_of_ble_eq_true rfl, Nat.le_of_ble_eq_true rfl⟩ (Nat.le_of_ble_eq_true rfl) dX3_evictNext_1 (fun r2 σ1 h => ?_)
  refine v_istore_n C [(1, .int r2), (0, .ref (lad L k))] dX3_evictNext_4 rfl (by decide) rfl ?_
  refine v_iload_n C dX3_evictNext_5 rfl 0 rfl ?_
  refine v_iconst C (v := (-1)) dX3_evictNext_6 rfl ?_
  refine v_icmp_eq C (tgt := 15) dX3_evictNext_7 (by decide) (fun hc => ?_) (fun hc => ?_)
  · replace h := h.1 hc
    refine v_iload_n C dX3_evictNext_15 rfl 0 rfl ?_
    exact v_iret C dX3_evictNext_16 hret hlk h
  · replace h := h.2 hc
    refine v_aload_n C dX3_evictNext_10 rfl 1 rfl ?_
    refine v_iload_n C dX3_evictNext_11 rfl 0 rfl ?_
    refine k_X3_takeCounter C k r2 hk h mM_X3_64 ⟨Nat.le_of_ble_eq_true rfl, Nat.le_of_ble_eq_true rfl⟩ (Nat.le_of_ble_eq_true rfl) dX3_evictNext_12 (fun σ3 h => ?_)
    refine v_iload_n C dX3_evictNext_15 rfl 0 rfl ?_
    exact v_iret C dX3_evictNext_16 hret hlk h
theorem hd_X3_evictNext : yX3_evictNext.cls ≠ "java/lang/invoke/MethodHandle" ∧ yX3_evictNext.cls ≠ "java/lang/invoke/VarHandle" ∧ (parseMethodDescriptor yX3_evictNext.desc).map (fun d => d.parameters.length) = some 0 := by decide +kernel
theorem k_X3_evictNext {p : Program} {l : Launch} {e : Env} {R : Room} {s : State} {m : MethodId} {args : Array Value} {below : List Frame} {meth : Method} {c : Code} {nL cells slots : Nat} {Q : State → Prop} {A : Nat → Prop} {L : Ly} {own : String} {cc : ByteArray} {σ : Mem} {pc idx : Nat} {lv : List (Nat × Value)} {st : List Value} {K : Int32 → Mem → Prop} (C : Cx p R s m args meth c own cc nL cells slots A L) (k : Nat) (hk : kd k = 3) (h : w_X3_evictNext k σ K) (hml : Cond.methodLink own idx yX3_evictNext ∈ wA) (hR : rm_X3_evictNext.frames + 1 ≤ R.frames ∧ 8 + (2 + 11) + rm_X3_evictNext.locals ≤ R.locals) (hsum : (st.map fun v => v.category).sum ≤ 8) (d : decode cc pc = .ok (.invokevirtual idx, 3)) (kk : ∀ r σ1, K r σ1 → V p l e R s m args below meth c nL cells slots Q A L σ1 (pc + 3) lv (.int r :: st)) : V p l e R s m args below meth c nL cells slots Q A L σ pc lv (.ref (lad L k) :: st) := v_callVi C [] (fun sz => c_X3_evictNext l L k σ _ hk h sz) mC_X3_evictNext mZ_X3 hd_X3_evictNext mI_X3_evictNext mS_X3_evictNext rfl rfl (c0 := 3) (ci := 3) (by decide) rfl rfl rfl hk hml hR rfl hsum d kk
-- ===== RX3.receive
abbrev rm_X3_receive : Room := { frames := 3, cells := 0, slots := 0, locals := 65 }
def w_X3_receive_58 (k : Nat) (a1 : Int32) (a2 : Int32) (a3 : Int32) (K : Int32 → Mem → Prop)  (x4 : Int32) (σ : Mem) : Prop := (vp_in a1 26 ∧ ∀ σ10 : Mem, σ10 = mu σ (k + 1) (ix a1) ((σ k 1) + a2) → (vp_in a1 26 ∧ ∀ σ12 : Mem, σ12 = mu σ10 (k + 2) (ix a1) (σ10 k 1) → (∀ σ13 : Mem, σ13 = mu σ12 k 3 ((σ12 k 3) ||| (1 <<< (a1 &&& 31))) → (vp_in a1 26 ∧ ∀ σ15 : Mem, σ15 = mu σ13 (k + 3) (ix a1) a3 → (K x4 σ15)))))
set_option maxHeartbeats 4000000 in
set_option maxRecDepth 100000 in
theorem b_X3_receive_58 {p : Program} {l : Launch} {e : Env} {s : State} {m : MethodId} {args : Array Value} {below : List Frame} {meth : Method} {c : Code} {L : Ly} {sz : Nat} (C : Cx p rm_X3_receive s m args meth c RX3 cX3_receive 5 0 0 (mA L sz) L) (hret : meth.sig.returnType = (some .int)) (hlk : meth.locks = false) (k : Nat) (a1 : Int32) (a2 : Int32) (a3 : Int32) (hk : kd k = 3) (K : Int32 → Mem → Prop)  (x4 : Int32) (σ : Mem)  (h : w_X3_receive_58 k a1 a2 a3 K  x4 σ) : V p l e rm_X3_receive s m args below meth c 5 0 0 (MQ below (va_Qi K (mE L) (mA L sz)) args s 0 0 (mA L sz)) (mA L sz) L σ 58 [(0, .ref (lad L k)), (1, .int a1), (2, .int a2), (3, .int a3), (4, .int x4)] [] := by
  unfold w_X3_receive_58 at h
  refine v_aload_n C dX3_receive_58 rfl 0 rfl ?_
  refine g_3_counts C hk mF_X3_24 dX3_receive_59 ?_
  refine v_iload_n C dX3_receive_62 rfl 1 rfl ?_
  refine v_aload_n C dX3_receive_63 rfl 0 rfl ?_
  refine g_3_floor C hk mF_X3_15 dX3_receive_64 ?_
  refine v_iload_n C dX3_receive_67 rfl 2 rfl ?_
  refine v_iadd C dX3_receive_68 ?_
  obtain ⟨hi9, h⟩ := h
  refine v_iast C (c0 := 20) (by decide) (fun _ => rfl) (kd_3_1 hk) hi9 dX3_receive_69 (fun σ10 eσ10 => ?_)
  replace h := h σ10 eσ10
  refine v_aload_n C dX3_receive_70 rfl 0 rfl ?_
  refine g_3_slacks C hk mF_X3_28 dX3_receive_71 ?_
  refine v_iload_n C dX3_receive_74 rfl 1 rfl ?_
  refine v_aload_n C dX3_receive_75 rfl 0 rfl ?_
  refine g_3_floor C hk mF_X3_15 dX3_receive_76 ?_
  obtain ⟨hi11, h⟩ := h
  refine v_iast C (c0 := 20) (by decide) (fun _ => rfl) (kd_3_2 hk) hi11 dX3_receive_79 (fun σ12 eσ12 => ?_)
  replace h := h σ12 eσ12
  refine v_aload_n C dX3_receive_80 rfl 0 rfl ?_
  refine v_dup C dX3_receive_81 rfl ?_
  refine g_3_held C hk mF_X3_21 dX3_receive_82 ?_
  refine v_iconst C (v := 1) dX3_receive_85 rfl ?_
  refine v_iload_n C dX3_receive_86 rfl 1 rfl ?_
  refine v_ishl C dX3_receive_87 ?_
  refine v_ior C dX3_receive_88 ?_
  refine p_3_held C hk mF_X3_21 dX3_receive_89 (fun σ13 eσ13 => ?_)
  replace h := h σ13 eσ13
  refine v_aload_n C dX3_receive_92 rfl 0 rfl ?_
  refine g_3_times C hk mF_X3_31 dX3_receive_93 ?_
  refine v_iload_n C dX3_receive_96 rfl 1 rfl ?_
  refine v_iload_n C dX3_receive_97 rfl 3 rfl ?_
  obtain ⟨hi14, h⟩ := h
  refine v_iast C (c0 := 20) (by decide) (fun _ => rfl) (kd_3_3 hk) hi14 dX3_receive_98 (fun σ15 eσ15 => ?_)
  replace h := h σ15 eσ15
  refine v_iload C dX3_receive_99 4 rfl ?_
  exact v_iret C dX3_receive_101 hret hlk h
def w_X3_receive (k : Nat) (a1 : Int32) (a2 : Int32) (a3 : Int32) (σ : Mem) (K : Int32 → Mem → Prop) : Prop := (∀ σ1 : Mem, σ1 = mu σ k 2 ((σ k 2) + a2) → (vp_in a1 26 ∧ (vp_in a1 26 ∧ ∀ σ4 : Mem, σ4 = mu σ1 (k + 4) (ix a1) ((σ1 (k + 4) (ix a1)) + a2) → (w_X3_has k a1 σ4 (fun r6 σ5 => (br (r6 = 0) (w_X3_needsRoomFor k a1 σ5 (fun r8 σ7 => (br (r8 = 0) (w_X3_receive_58 k a1 a2 a3 K  (-1) σ7) (w_X3_evictNext k σ7 (fun r17 σ16 => (w_X3_receive_58 k a1 a2 a3 K  r17 σ16)))))) (vp_in a1 26 ∧ (vp_in a1 26 ∧ ∀ σ20 : Mem, σ20 = mu σ5 (k + 1) (ix a1) ((σ5 (k + 1) (ix a1)) + a2) → (vp_in a1 26 ∧ ∀ σ22 : Mem, σ22 = mu σ20 (k + 3) (ix a1) a3 → (K (-1) σ22))))))))))
set_option maxHeartbeats 4000000 in
set_option maxRecDepth 100000 in
theorem c_X3_receive (l : Launch) (L : Ly) (k : Nat) (a1 : Int32) (a2 : Int32) (a3 : Int32) (σ : Mem) (K : Int32 → Mem → Prop) (hk : kd k = 3) (h : w_X3_receive k a1 a2 a3 σ K) (sz : Nat) : Met l yX3_receive (.code yX3_receive cX3_receive 5 (some .int) :: wA) rm_X3_receive (va_Pc [.ref (lad L k), .int a1, .int a2, .int a3] (mB L sz σ)) (va_Qi K (mE L) (mA L sz)) 0 0 (mA L sz) := by
  refine v_start (own := RX3) [(0, .ref (lad L k)), (1, .int a1), (2, .int a2), (3, .int a3)] (by decide) rfl (Nat.le_of_ble_eq_true rfl) rfl (fun p e s m args below meth c C hret hlk => ?_)
  unfold w_X3_receive at h
  refine v_iconst C (v := (-1)) dX3_receive_0 rfl ?_
  refine v_istore C [(4, .int (-1)), (0, .ref (lad L k)), (1, .int a1), (2, .int a2), (3, .int a3)] dX3_receive_1 (by decide) rfl ?_
  refine v_aload_n C dX3_receive_3 rfl 1 rfl ?_
  refine v_dup C dX3_receive_4 rfl ?_
  refine g_3_sum C hk mF_X3_18 dX3_receive_5 ?_
  refine v_iload_n C dX3_receive_8 rfl 3 rfl ?_
  refine v_iadd C dX3_receive_9 ?_
  refine p_3_sum C hk mF_X3_18 dX3_receive_10 (fun σ1 eσ1 => ?_)
  replace h := h σ1 eσ1
  refine v_aload_n C dX3_receive_13 rfl 1 rfl ?_
  refine g_3_came C hk mF_X3_34 dX3_receive_14 ?_
  refine v_iload_n C dX3_receive_17 rfl 2 rfl ?_
  refine v_dup2 C dX3_receive_18 rfl rfl ?_
  obtain ⟨hi2, h⟩ := h
  refine v_iald C (c0 := 20) (by decide) rfl (kd_3_4 hk) hi2 dX3_receive_19 ?_
  refine v_iload_n C dX3_receive_20 rfl 3 rfl ?_
  refine v_iadd C dX3_receive_21 ?_
  obtain ⟨hi3, h⟩ := h
  refine v_iast C (c0 := 20) (by decide) (fun _ => rfl) (kd_3_4 hk) hi3 dX3_receive_22 (fun σ4 eσ4 => ?_)
  replace h := h σ4 eσ4
  refine v_aload_n C dX3_receive_23 rfl 1 rfl ?_
  refine v_iload_n C dX3_receive_24 rfl 2 rfl ?_
  refine k_X3_has C k a1 hk h mM_X3_43 ⟨Nat.le_of_ble_eq_true rfl, Nat.le_of_ble_eq_true rfl⟩ (Nat.le_of_ble_eq_true rfl) dX3_receive_25 (fun r6 σ5 h => ?_)
  refine v_if_eq C (tgt := 44) dX3_receive_28 (by decide) (fun hc => ?_) (fun hc => ?_)
  · replace h := h.1 hc
    refine v_aload_n C dX3_receive_44 rfl 1 rfl ?_
    refine v_iload_n C dX3_receive_45 rfl 2 rfl ?_
    refine k_X3_needsRoomFor C k a1 hk h mM_X3_51 ⟨Nat.le_of_ble_eq_true rfl, Nat.le_of_ble_eq_true rfl⟩ (Nat.le_of_ble_eq_true rfl) dX3_receive_46 (fun r8 σ7 h => ?_)
    refine v_if_eq C (tgt := 58) dX3_receive_49 (by decide) (fun hc => ?_) (fun hc => ?_)
    · replace h := h.1 hc
      refine v_sub [1, 2, 3, 4, 0] rfl ?_
      exact b_X3_receive_58 C hret hlk k a1 a2 a3 hk K   _ _  h
    · replace h := h.2 hc
      refine v_aload_n C dX3_receive_52 rfl 1 rfl ?_
      refine k_X3_evictNext C k hk h mM_X3_54 ⟨Nat.le_of_ble_eq_true rfl, Nat.le_of_ble_eq_true rfl⟩ (Nat.le_of_ble_eq_true rfl) dX3_receive_53 (fun r17 σ16 h => ?_)
      refine v_istore C [(4, .int r17), (0, .ref (lad L k)), (1, .int a1), (2, .int a2), (3, .int a3)] dX3_receive_56 (by decide) rfl ?_
      refine v_sub [1, 2, 3, 4, 0] rfl ?_
      exact b_X3_receive_58 C hret hlk k a1 a2 a3 hk K   _ _  h
  · replace h := h.2 hc
    refine v_aload_n C dX3_receive_31 rfl 1 rfl ?_
    refine g_3_counts C hk mF_X3_24 dX3_receive_32 ?_
    refine v_iload_n C dX3_receive_35 rfl 2 rfl ?_
    refine v_dup2 C dX3_receive_36 rfl rfl ?_
    obtain ⟨hi18, h⟩ := h
    refine v_iald C (c0 := 20) (by decide) rfl (kd_3_1 hk) hi18 dX3_receive_37 ?_
    refine v_iload_n C dX3_receive_38 rfl 3 rfl ?_
    refine v_iadd C dX3_receive_39 ?_
    obtain ⟨hi19, h⟩ := h
    refine v_iast C (c0 := 20) (by decide) (fun _ => rfl) (kd_3_1 hk) hi19 dX3_receive_40 (fun σ20 eσ20 => ?_)
    replace h := h σ20 eσ20
    refine v_goto C (tgt := 92) dX3_receive_41 (by decide) ?_
    refine v_aload_n C dX3_receive_92 rfl 1 rfl ?_
    refine g_3_times C hk mF_X3_31 dX3_receive_93 ?_
    refine v_iload_n C dX3_receive_96 rfl 2 rfl ?_
    refine v_iload_n C dX3_receive_97 rfl 4 rfl ?_
    obtain ⟨hi21, h⟩ := h
    refine v_iast C (c0 := 20) (by decide) (fun _ => rfl) (kd_3_3 hk) hi21 dX3_receive_98 (fun σ22 eσ22 => ?_)
    replace h := h σ22 eσ22
    refine v_iload C dX3_receive_99 0 rfl ?_
    exact v_iret C dX3_receive_101 hret hlk h
theorem hd_X3_receive : yX3_receive.cls ≠ "java/lang/invoke/MethodHandle" ∧ yX3_receive.cls ≠ "java/lang/invoke/VarHandle" ∧ (parseMethodDescriptor yX3_receive.desc).map (fun d => d.parameters.length) = some 3 := by decide +kernel
theorem k_X3_receive {p : Program} {l : Launch} {e : Env} {R : Room} {s : State} {m : MethodId} {args : Array Value} {below : List Frame} {meth : Method} {c : Code} {nL cells slots : Nat} {Q : State → Prop} {A : Nat → Prop} {L : Ly} {own : String} {cc : ByteArray} {σ : Mem} {pc idx : Nat} {lv : List (Nat × Value)} {st : List Value} {K : Int32 → Mem → Prop} (C : Cx p R s m args meth c own cc nL cells slots A L) (k : Nat) (a1 : Int32) (a2 : Int32) (a3 : Int32) (hk : kd k = 3) (h : w_X3_receive k a1 a2 a3 σ K) (hml : Cond.methodLink own idx yX3_receive ∈ wA) (hR : rm_X3_receive.frames + 1 ≤ R.frames ∧ 8 + (5 + 11) + rm_X3_receive.locals ≤ R.locals) (hsum : (st.map fun v => v.category).sum ≤ 8) (d : decode cc pc = .ok (.invokevirtual idx, 3)) (kk : ∀ r σ1, K r σ1 → V p l e R s m args below meth c nL cells slots Q A L σ1 (pc + 3) lv (.int r :: st)) : V p l e R s m args below meth c nL cells slots Q A L σ pc lv (.int a3 :: .int a2 :: .int a1 :: .ref (lad L k) :: st) := v_callVi C [.int a1, .int a2, .int a3] (fun sz => c_X3_receive l L k a1 a2 a3 σ _ hk h sz) mC_X3_receive mZ_X3 hd_X3_receive mI_X3_receive mS_X3_receive rfl rfl (c0 := 3) (ci := 3) (by decide) rfl rfl rfl hk hml hR rfl hsum d kk
-- ===== RX3.wipe
abbrev rm_X3_wipe : Room := { frames := 0, cells := 0, slots := 0, locals := 0 }
def w_X3_wipe_17 (k : Nat) (K : Mem → Prop)  : Nat → Int32 → Mem → Prop
  | 0, _, _ => False
  | n + 1, x1, σ => (br (26 ≤ x1) (K σ) (vp_in x1 26 ∧ ∀ σ5 : Mem, σ5 = mu σ (k + 4) (ix x1) 0 → (w_X3_wipe_17 k K  n (x1 + 1) σ5)))
set_option maxHeartbeats 4000000 in
set_option maxRecDepth 100000 in
theorem b_X3_wipe_17 {p : Program} {l : Launch} {e : Env} {s : State} {m : MethodId} {args : Array Value} {below : List Frame} {meth : Method} {c : Code} {L : Ly} {sz : Nat} (C : Cx p rm_X3_wipe s m args meth c RX3 cX3_wipe 2 0 0 (mA L sz) L) (hret : meth.sig.returnType = none) (hlk : meth.locks = false) (k : Nat) (hk : kd k = 3) (K : Mem → Prop)  : ∀ (n : Nat) (x1 : Int32) (σ : Mem), w_X3_wipe_17 k K  n x1 σ → V p l e rm_X3_wipe s m args below meth c 2 0 0 (MQ below (va_Qv K (mE L) (mA L sz)) args s 0 0 (mA L sz)) (mA L sz) L σ 17 [(0, .ref (lad L k)), (1, .int x1)] [] := by
  intro n
  induction n with
  | zero => intro x1 σ  h; exact h.elim
  | succ n ih =>
    intro x1 σ  h
    rw [w_X3_wipe_17] at h
    refine v_iload_n C dX3_wipe_17 rfl 1 rfl ?_
    refine v_bipush C (v := 26) dX3_wipe_18 rfl ?_
    refine v_icmp_ge C (tgt := 36) dX3_wipe_20 (by decide) (fun hc => ?_) (fun hc => ?_)
    · replace h := h.1 hc
      exact v_vret C dX3_wipe_36 hret hlk h
    · replace h := h.2 hc
      refine v_aload_n C dX3_wipe_23 rfl 0 rfl ?_
      refine g_3_came C hk mF_X3_34 dX3_wipe_24 ?_
      refine v_iload_n C dX3_wipe_27 rfl 1 rfl ?_
      refine v_iconst C (v := 0) dX3_wipe_28 rfl ?_
      obtain ⟨hi4, h⟩ := h
      refine v_iast C (c0 := 20) (by decide) (fun _ => rfl) (kd_3_4 hk) hi4 dX3_wipe_29 (fun σ5 eσ5 => ?_)
      replace h := h σ5 eσ5
      refine v_iinc C [(1, .int (x1 + 1)), (0, .ref (lad L k))] dX3_wipe_30 1 rfl rfl (by decide) rfl ?_
      refine v_goto C (tgt := 17) dX3_wipe_33 (by decide) ?_
      refine v_sub [1, 0] rfl ?_
      exact ih _ _  h
def w_X3_wipe (k : Nat) (σ : Mem) (K : Mem → Prop) : Prop := (∀ σ1 : Mem, σ1 = mu σ k 1 0 → (∀ σ2 : Mem, σ2 = mu σ1 k 2 0 → (∀ σ3 : Mem, σ3 = mu σ2 k 3 0 → (∃ n6, w_X3_wipe_17 k K  n6 0 σ3))))
set_option maxHeartbeats 4000000 in
set_option maxRecDepth 100000 in
theorem c_X3_wipe (l : Launch) (L : Ly) (k : Nat) (σ : Mem) (K : Mem → Prop) (hk : kd k = 3) (h : w_X3_wipe k σ K) (sz : Nat) : Met l yX3_wipe (.code yX3_wipe cX3_wipe 2 none :: wA) rm_X3_wipe (va_Pc [.ref (lad L k)] (mB L sz σ)) (va_Qv K (mE L) (mA L sz)) 0 0 (mA L sz) := by
  refine v_start (own := RX3) [(0, .ref (lad L k))] (by decide) rfl (Nat.le_of_ble_eq_true rfl) rfl (fun p e s m args below meth c C hret hlk => ?_)
  unfold w_X3_wipe at h
  refine v_aload_n C dX3_wipe_0 rfl 0 rfl ?_
  refine v_iconst C (v := 0) dX3_wipe_1 rfl ?_
  refine p_3_floor C hk mF_X3_15 dX3_wipe_2 (fun σ1 eσ1 => ?_)
  replace h := h σ1 eσ1
  refine v_aload_n C dX3_wipe_5 rfl 0 rfl ?_
  refine v_iconst C (v := 0) dX3_wipe_6 rfl ?_
  refine p_3_sum C hk mF_X3_18 dX3_wipe_7 (fun σ2 eσ2 => ?_)
  replace h := h σ2 eσ2
  refine v_aload_n C dX3_wipe_10 rfl 0 rfl ?_
  refine v_iconst C (v := 0) dX3_wipe_11 rfl ?_
  refine p_3_held C hk mF_X3_21 dX3_wipe_12 (fun σ3 eσ3 => ?_)
  replace h := h σ3 eσ3
  refine v_iconst C (v := 0) dX3_wipe_15 rfl ?_
  refine v_istore_n C [(1, .int 0), (0, .ref (lad L k))] dX3_wipe_16 rfl (by decide) rfl ?_
  obtain ⟨n6, h⟩ := h
  refine v_sub [1, 0] rfl ?_
  exact b_X3_wipe_17 C hret hlk k hk K   n6 _ _  h
theorem hd_X3_wipe : yX3_wipe.cls ≠ "java/lang/invoke/MethodHandle" ∧ yX3_wipe.cls ≠ "java/lang/invoke/VarHandle" ∧ (parseMethodDescriptor yX3_wipe.desc).map (fun d => d.parameters.length) = some 0 := by decide +kernel
theorem k_X3_wipe {p : Program} {l : Launch} {e : Env} {R : Room} {s : State} {m : MethodId} {args : Array Value} {below : List Frame} {meth : Method} {c : Code} {nL cells slots : Nat} {Q : State → Prop} {A : Nat → Prop} {L : Ly} {own : String} {cc : ByteArray} {σ : Mem} {pc idx : Nat} {lv : List (Nat × Value)} {st : List Value} {K : Mem → Prop} (C : Cx p R s m args meth c own cc nL cells slots A L) (k : Nat) (hk : kd k = 3) (h : w_X3_wipe k σ K) (hml : Cond.methodLink own idx yX3_wipe ∈ wA) (hR : rm_X3_wipe.frames + 1 ≤ R.frames ∧ 8 + (2 + 11) + rm_X3_wipe.locals ≤ R.locals) (hsum : (st.map fun v => v.category).sum ≤ 8) (d : decode cc pc = .ok (.invokevirtual idx, 3)) (kk : ∀ σ1, K σ1 → V p l e R s m args below meth c nL cells slots Q A L σ1 (pc + 3) lv st) : V p l e R s m args below meth c nL cells slots Q A L σ pc lv (.ref (lad L k) :: st) := v_callVv C [] (fun sz => c_X3_wipe l L k σ _ hk h sz) mC_X3_wipe mZ_X3 hd_X3_wipe mI_X3_wipe mS_X3_wipe rfl rfl (c0 := 3) (ci := 3) (by decide) rfl rfl rfl hk hml hR rfl hsum d kk
-- ===== RX3.upper
abbrev rm_X3_upper : Room := { frames := 1, cells := 0, slots := 0, locals := 21 }
def w_X3_upper (k : Nat) (a1 : Int32) (σ : Mem) (K : Int32 → Mem → Prop) : Prop := (w_X3_has k a1 σ (fun r2 σ1 => (br (r2 = 0) (K (σ1 k 1) σ1) (vp_in a1 26 ∧ (K (σ1 (k + 1) (ix a1)) σ1)))))
set_option maxHeartbeats 4000000 in
set_option maxRecDepth 100000 in
theorem c_X3_upper (l : Launch) (L : Ly) (k : Nat) (a1 : Int32) (σ : Mem) (K : Int32 → Mem → Prop) (hk : kd k = 3) (h : w_X3_upper k a1 σ K) (sz : Nat) : Met l yX3_upper (.code yX3_upper cX3_upper 2 (some .int) :: wA) rm_X3_upper (va_Pc [.ref (lad L k), .int a1] (mB L sz σ)) (va_Qi K (mE L) (mA L sz)) 0 0 (mA L sz) := by
  refine v_start (own := RX3) [(0, .ref (lad L k)), (1, .int a1)] (by decide) rfl (Nat.le_of_ble_eq_true rfl) rfl (fun p e s m args below meth c C hret hlk => ?_)
  unfold w_X3_upper at h
  refine v_aload_n C dX3_upper_0 rfl 0 rfl ?_
  refine v_iload_n C dX3_upper_1 rfl 1 rfl ?_
  refine k_X3_has C k a1 hk h mM_X3_43 ⟨Nat.le_of_ble_eq_true rfl, Nat.le_of_ble_eq_true rfl⟩ (Nat.le_of_ble_eq_true rfl) dX3_upper_2 (fun r2 σ1 h => ?_)
  refine v_if_eq C (tgt := 17) dX3_upper_5 (by decide) (fun hc => ?_) (fun hc => ?_)
  · replace h := h.1 hc
    refine v_aload_n C dX3_upper_17 rfl 0 rfl ?_
    refine g_3_floor C hk mF_X3_15 dX3_upper_18 ?_
    exact v_iret C dX3_upper_21 hret hlk h
  · replace h := h.2 hc
    refine v_aload_n C dX3_upper_8 rfl 0 rfl ?_
    refine g_3_counts C hk mF_X3_24 dX3_upper_9 ?_
    refine v_iload_n C dX3_upper_12 rfl 1 rfl ?_
    obtain ⟨hi3, h⟩ := h
    refine v_iald C (c0 := 20) (by decide) rfl (kd_3_1 hk) hi3 dX3_upper_13 ?_
    refine v_goto C (tgt := 21) dX3_upper_14 (by decide) ?_
    exact v_iret C dX3_upper_21 hret hlk h
theorem hd_X3_upper : yX3_upper.cls ≠ "java/lang/invoke/MethodHandle" ∧ yX3_upper.cls ≠ "java/lang/invoke/VarHandle" ∧ (parseMethodDescriptor yX3_upper.desc).map (fun d => d.parameters.length) = some 1 := by decide +kernel
theorem k_X3_upper {p : Program} {l : Launch} {e : Env} {R : Room} {s : State} {m : MethodId} {args : Array Value} {below : List Frame} {meth : Method} {c : Code} {nL cells slots : Nat} {Q : State → Prop} {A : Nat → Prop} {L : Ly} {own : String} {cc : ByteArray} {σ : Mem} {pc idx : Nat} {lv : List (Nat × Value)} {st : List Value} {K : Int32 → Mem → Prop} (C : Cx p R s m args meth c own cc nL cells slots A L) (k : Nat) (a1 : Int32) (hk : kd k = 3) (h : w_X3_upper k a1 σ K) (hml : Cond.methodLink own idx yX3_upper ∈ wA) (hR : rm_X3_upper.frames + 1 ≤ R.frames ∧ 8 + (2 + 11) + rm_X3_upper.locals ≤ R.locals) (hsum : (st.map fun v => v.category).sum ≤ 8) (d : decode cc pc = .ok (.invokevirtual idx, 3)) (kk : ∀ r σ1, K r σ1 → V p l e R s m args below meth c nL cells slots Q A L σ1 (pc + 3) lv (.int r :: st)) : V p l e R s m args below meth c nL cells slots Q A L σ pc lv (.int a1 :: .ref (lad L k) :: st) := v_callVi C [.int a1] (fun sz => c_X3_upper l L k a1 σ _ hk h sz) mC_X3_upper mZ_X3 hd_X3_upper mI_X3_upper mS_X3_upper rfl rfl (c0 := 3) (ci := 3) (by decide) rfl rfl rfl hk hml hR rfl hsum d kk
-- ===== RX3.slackToMerge
abbrev rm_X3_slackToMerge : Room := { frames := 1, cells := 0, slots := 0, locals := 21 }
def w_X3_slackToMerge (k : Nat) (a1 : Int32) (σ : Mem) (K : Int32 → Mem → Prop) : Prop := (w_X3_has k a1 σ (fun r2 σ1 => (br (r2 = 0) (K (σ1 k 1) σ1) (vp_in a1 26 ∧ (K (σ1 (k + 2) (ix a1)) σ1)))))
set_option maxHeartbeats 4000000 in
set_option maxRecDepth 100000 in
theorem c_X3_slackToMerge (l : Launch) (L : Ly) (k : Nat) (a1 : Int32) (σ : Mem) (K : Int32 → Mem → Prop) (hk : kd k = 3) (h : w_X3_slackToMerge k a1 σ K) (sz : Nat) : Met l yX3_slackToMerge (.code yX3_slackToMerge cX3_slackToMerge 2 (some .int) :: wA) rm_X3_slackToMerge (va_Pc [.ref (lad L k), .int a1] (mB L sz σ)) (va_Qi K (mE L) (mA L sz)) 0 0 (mA L sz) := by
  refine v_start (own := RX3) [(0, .ref (lad L k)), (1, .int a1)] (by decide) rfl (Nat.le_of_ble_eq_true rfl) rfl (fun p e s m args below meth c C hret hlk => ?_)
  unfold w_X3_slackToMerge at h
  refine v_aload_n C dX3_slackToMerge_0 rfl 0 rfl ?_
  refine v_iload_n C dX3_slackToMerge_1 rfl 1 rfl ?_
  refine k_X3_has C k a1 hk h mM_X3_43 ⟨Nat.le_of_ble_eq_true rfl, Nat.le_of_ble_eq_true rfl⟩ (Nat.le_of_ble_eq_true rfl) dX3_slackToMerge_2 (fun r2 σ1 h => ?_)
  refine v_if_eq C (tgt := 17) dX3_slackToMerge_5 (by decide) (fun hc => ?_) (fun hc => ?_)
  · replace h := h.1 hc
    refine v_aload_n C dX3_slackToMerge_17 rfl 0 rfl ?_
    refine g_3_floor C hk mF_X3_15 dX3_slackToMerge_18 ?_
    exact v_iret C dX3_slackToMerge_21 hret hlk h
  · replace h := h.2 hc
    refine v_aload_n C dX3_slackToMerge_8 rfl 0 rfl ?_
    refine g_3_slacks C hk mF_X3_28 dX3_slackToMerge_9 ?_
    refine v_iload_n C dX3_slackToMerge_12 rfl 1 rfl ?_
    obtain ⟨hi3, h⟩ := h
    refine v_iald C (c0 := 20) (by decide) rfl (kd_3_2 hk) hi3 dX3_slackToMerge_13 ?_
    refine v_goto C (tgt := 21) dX3_slackToMerge_14 (by decide) ?_
    exact v_iret C dX3_slackToMerge_21 hret hlk h
theorem hd_X3_slackToMerge : yX3_slackToMerge.cls ≠ "java/lang/invoke/MethodHandle" ∧ yX3_slackToMerge.cls ≠ "java/lang/invoke/VarHandle" ∧ (parseMethodDescriptor yX3_slackToMerge.desc).map (fun d => d.parameters.length) = some 1 := by decide +kernel
theorem k_X3_slackToMerge {p : Program} {l : Launch} {e : Env} {R : Room} {s : State} {m : MethodId} {args : Array Value} {below : List Frame} {meth : Method} {c : Code} {nL cells slots : Nat} {Q : State → Prop} {A : Nat → Prop} {L : Ly} {own : String} {cc : ByteArray} {σ : Mem} {pc idx : Nat} {lv : List (Nat × Value)} {st : List Value} {K : Int32 → Mem → Prop} (C : Cx p R s m args meth c own cc nL cells slots A L) (k : Nat) (a1 : Int32) (hk : kd k = 3) (h : w_X3_slackToMerge k a1 σ K) (hml : Cond.methodLink own idx yX3_slackToMerge ∈ wA) (hR : rm_X3_slackToMerge.frames + 1 ≤ R.frames ∧ 8 + (2 + 11) + rm_X3_slackToMerge.locals ≤ R.locals) (hsum : (st.map fun v => v.category).sum ≤ 8) (d : decode cc pc = .ok (.invokevirtual idx, 3)) (kk : ∀ r σ1, K r σ1 → V p l e R s m args below meth c nL cells slots Q A L σ1 (pc + 3) lv (.int r :: st)) : V p l e R s m args below meth c nL cells slots Q A L σ pc lv (.int a1 :: .ref (lad L k) :: st) := v_callVi C [.int a1] (fun sz => c_X3_slackToMerge l L k a1 σ _ hk h sz) mC_X3_slackToMerge mZ_X3 hd_X3_slackToMerge mI_X3_slackToMerge mS_X3_slackToMerge rfl rfl (c0 := 3) (ci := 3) (by decide) rfl rfl rfl hk hml hR rfl hsum d kk
-- ===== RX3.nextLeftOut
abbrev rm_X3_nextLeftOut : Room := { frames := 1, cells := 0, slots := 0, locals := 21 }
def w_X3_nextLeftOut_4 (k : Nat) (K : Int32 → Mem → Prop)  : Nat → Int32 → Int32 → Mem → Prop
  | 0, _, _, _ => False
  | n + 1, x1, x2, σ => (br (26 ≤ x2) (K x1 σ) (w_X3_has k x2 σ (fun r2 σ1 => (br (r2 = 0) (w_X3_nextLeftOut_4 k K  n x1 (x2 + 1) σ1) (br (x1 = (-1)) (w_X3_nextLeftOut_4 k K  n x2 (x2 + 1) σ1) (vp_in x2 26 ∧ (vp_in x1 26 ∧ (br ((σ1 (k + 1) (ix x1)) < (σ1 (k + 1) (ix x2))) (w_X3_nextLeftOut_4 k K  n x1 (x2 + 1) σ1) (w_X3_nextLeftOut_4 k K  n x2 (x2 + 1) σ1)))))))))
set_option maxHeartbeats 4000000 in
set_option maxRecDepth 100000 in
theorem b_X3_nextLeftOut_4 {p : Program} {l : Launch} {e : Env} {s : State} {m : MethodId} {args : Array Value} {below : List Frame} {meth : Method} {c : Code} {L : Ly} {sz : Nat} (C : Cx p rm_X3_nextLeftOut s m args meth c RX3 cX3_nextLeftOut 3 0 0 (mA L sz) L) (hret : meth.sig.returnType = (some .int)) (hlk : meth.locks = false) (k : Nat) (hk : kd k = 3) (K : Int32 → Mem → Prop)  : ∀ (n : Nat) (x1 : Int32) (x2 : Int32) (σ : Mem), w_X3_nextLeftOut_4 k K  n x1 x2 σ → V p l e rm_X3_nextLeftOut s m args below meth c 3 0 0 (MQ below (va_Qi K (mE L) (mA L sz)) args s 0 0 (mA L sz)) (mA L sz) L σ 4 [(0, .ref (lad L k)), (1, .int x1), (2, .int x2)] [] := by
  intro n
  induction n with
  | zero => intro x1 x2 σ  h; exact h.elim
  | succ n ih =>
    intro x1 x2 σ  h
    rw [w_X3_nextLeftOut_4] at h
    refine v_iload_n C dX3_nextLeftOut_4 rfl 2 rfl ?_
    refine v_bipush C (v := 26) dX3_nextLeftOut_5 rfl ?_
    refine v_icmp_ge C (tgt := 46) dX3_nextLeftOut_7 (by decide) (fun hc => ?_) (fun hc => ?_)
    · replace h := h.1 hc
      refine v_iload_n C dX3_nextLeftOut_46 rfl 1 rfl ?_
      exact v_iret C dX3_nextLeftOut_47 hret hlk h
    · replace h := h.2 hc
      refine v_aload_n C dX3_nextLeftOut_10 rfl 0 rfl ?_
      refine v_iload_n C dX3_nextLeftOut_11 rfl 2 rfl ?_
      refine k_X3_has C k x2 hk h mM_X3_43 ⟨Nat.le_of_ble_eq_true rfl, Nat.le_of_ble_eq_true rfl⟩ (Nat.le_of_ble_eq_true rfl) dX3_nextLeftOut_12 (fun r2 σ1 h => ?_)
      refine v_if_eq C (tgt := 40) dX3_nextLeftOut_15 (by decide) (fun hc => ?_) (fun hc => ?_)
      · replace h := h.1 hc
        refine v_iinc C [(2, .int (x2 + 1)), (0, .ref (lad L k)), (1, .int x1)] dX3_nextLeftOut_40 2 rfl rfl (by decide) rfl ?_
        refine v_goto C (tgt := 4) dX3_nextLeftOut_43 (by decide) ?_
        refine v_sub [1, 2, 0] rfl ?_
        exact ih _ _ _  h
      · replace h := h.2 hc
        refine v_iload_n C dX3_nextLeftOut_18 rfl 1 rfl ?_
        refine v_iconst C (v := (-1)) dX3_nextLeftOut_19 rfl ?_
        refine v_icmp_eq C (tgt := 38) dX3_nextLeftOut_20 (by decide) (fun hc => ?_) (fun hc => ?_)
        · replace h := h.1 hc
          refine v_iload_n C dX3_nextLeftOut_38 rfl 2 rfl ?_
          refine v_istore_n C [(1, .int x2), (0, .ref (lad L k)), (2, .int x2)] dX3_nextLeftOut_39 rfl (by decide) rfl ?_
          refine v_iinc C [(2, .int (x2 + 1)), (1, .int x2), (0, .ref (lad L k))] dX3_nextLeftOut_40 2 rfl rfl (by decide) rfl ?_
          refine v_goto C (tgt := 4) dX3_nextLeftOut_43 (by decide) ?_
          refine v_sub [2, 1, 0] rfl ?_
          exact ih _ _ _  h
        · replace h := h.2 hc
          refine v_aload_n C dX3_nextLeftOut_23 rfl 0 rfl ?_
          refine g_3_counts C hk mF_X3_24 dX3_nextLeftOut_24 ?_
          refine v_iload_n C dX3_nextLeftOut_27 rfl 2 rfl ?_
          obtain ⟨hi3, h⟩ := h
          refine v_iald C (c0 := 20) (by decide) rfl (kd_3_1 hk) hi3 dX3_nextLeftOut_28 ?_
          refine v_aload_n C dX3_nextLeftOut_29 rfl 0 rfl ?_
          refine g_3_counts C hk mF_X3_24 dX3_nextLeftOut_30 ?_
          refine v_iload_n C dX3_nextLeftOut_33 rfl 1 rfl ?_
          obtain ⟨hi4, h⟩ := h
          refine v_iald C (c0 := 20) (by decide) rfl (kd_3_1 hk) hi4 dX3_nextLeftOut_34 ?_
          refine v_icmp_gt C (tgt := 40) dX3_nextLeftOut_35 (by decide) (fun hc => ?_) (fun hc => ?_)
          · replace h := h.1 hc
            refine v_iinc C [(2, .int (x2 + 1)), (0, .ref (lad L k)), (1, .int x1)] dX3_nextLeftOut_40 2 rfl rfl (by decide) rfl ?_
            refine v_goto C (tgt := 4) dX3_nextLeftOut_43 (by decide) ?_
            refine v_sub [1, 2, 0] rfl ?_
            exact ih _ _ _  h
          · replace h := h.2 hc
            refine v_iload_n C dX3_nextLeftOut_38 rfl 2 rfl ?_
            refine v_istore_n C [(1, .int x2), (0, .ref (lad L k)), (2, .int x2)] dX3_nextLeftOut_39 rfl (by decide) rfl ?_
            refine v_iinc C [(2, .int (x2 + 1)), (1, .int x2), (0, .ref (lad L k))] dX3_nextLeftOut_40 2 rfl rfl (by decide) rfl ?_
            refine v_goto C (tgt := 4) dX3_nextLeftOut_43 (by decide) ?_
            refine v_sub [2, 1, 0] rfl ?_
            exact ih _ _ _  h
def w_X3_nextLeftOut (k : Nat) (σ : Mem) (K : Int32 → Mem → Prop) : Prop := (∃ n5, w_X3_nextLeftOut_4 k K  n5 (-1) 0 σ)
set_option maxHeartbeats 4000000 in
set_option maxRecDepth 100000 in
theorem c_X3_nextLeftOut (l : Launch) (L : Ly) (k : Nat) (σ : Mem) (K : Int32 → Mem → Prop) (hk : kd k = 3) (h : w_X3_nextLeftOut k σ K) (sz : Nat) : Met l yX3_nextLeftOut (.code yX3_nextLeftOut cX3_nextLeftOut 3 (some .int) :: wA) rm_X3_nextLeftOut (va_Pc [.ref (lad L k)] (mB L sz σ)) (va_Qi K (mE L) (mA L sz)) 0 0 (mA L sz) := by
  refine v_start (own := RX3) [(0, .ref (lad L k))] (by decide) rfl (Nat.le_of_ble_eq_true rfl) rfl (fun p e s m args below meth c C hret hlk => ?_)
  unfold w_X3_nextLeftOut at h
  refine v_iconst C (v := (-1)) dX3_nextLeftOut_0 rfl ?_
  refine v_istore_n C [(1, .int (-1)), (0, .ref (lad L k))] dX3_nextLeftOut_1 rfl (by decide) rfl ?_
  refine v_iconst C (v := 0) dX3_nextLeftOut_2 rfl ?_
  refine v_istore_n C [(2, .int 0), (1, .int (-1)), (0, .ref (lad L k))] dX3_nextLeftOut_3 rfl (by decide) rfl ?_
  obtain ⟨n5, h⟩ := h
  refine v_sub [2, 1, 0] rfl ?_
  exact b_X3_nextLeftOut_4 C hret hlk k hk K   n5 _ _ _  h
theorem hd_X3_nextLeftOut : yX3_nextLeftOut.cls ≠ "java/lang/invoke/MethodHandle" ∧ yX3_nextLeftOut.cls ≠ "java/lang/invoke/VarHandle" ∧ (parseMethodDescriptor yX3_nextLeftOut.desc).map (fun d => d.parameters.length) = some 0 := by decide +kernel
theorem k_X3_nextLeftOut {p : Program} {l : Launch} {e : Env} {R : Room} {s : State} {m : MethodId} {args : Array Value} {below : List Frame} {meth : Method} {c : Code} {nL cells slots : Nat} {Q : State → Prop} {A : Nat → Prop} {L : Ly} {own : String} {cc : ByteArray} {σ : Mem} {pc idx : Nat} {lv : List (Nat × Value)} {st : List Value} {K : Int32 → Mem → Prop} (C : Cx p R s m args meth c own cc nL cells slots A L) (k : Nat) (hk : kd k = 3) (h : w_X3_nextLeftOut k σ K) (hml : Cond.methodLink own idx yX3_nextLeftOut ∈ wA) (hR : rm_X3_nextLeftOut.frames + 1 ≤ R.frames ∧ 8 + (3 + 11) + rm_X3_nextLeftOut.locals ≤ R.locals) (hsum : (st.map fun v => v.category).sum ≤ 8) (d : decode cc pc = .ok (.invokevirtual idx, 3)) (kk : ∀ r σ1, K r σ1 → V p l e R s m args below meth c nL cells slots Q A L σ1 (pc + 3) lv (.int r :: st)) : V p l e R s m args below meth c nL cells slots Q A L σ pc lv (.ref (lad L k) :: st) := v_callVi C [] (fun sz => c_X3_nextLeftOut l L k σ _ hk h sz) mC_X3_nextLeftOut mZ_X3 hd_X3_nextLeftOut mI_X3_nextLeftOut mS_X3_nextLeftOut rfl rfl (c0 := 3) (ci := 3) (by decide) rfl rfl rfl hk hml hR rfl hsum d kk
-- ===== RX3.leaveOut
abbrev rm_X3_leaveOut : Room := { frames := 2, cells := 0, slots := 0, locals := 43 }
def w_X3_leaveOut_4 (k : Nat) (K : Int32 → Mem → Prop)  : Nat → Int32 → Int32 → Mem → Prop
  | 0, _, _, _ => False
  | n + 1, x1, x2, σ => (br (26 ≤ x2) (K x1 σ) (w_X3_counters k σ (fun r2 σ1 => (br (r2 ≤ (σ1 k 0)) (K x1 σ1) (w_X3_nextLeftOut k σ1 (fun r4 σ3 => (br (r4 = (-1)) (w_X3_leaveOut_4 k K  n x1 (x2 + 1) σ3) (w_X3_takeCounter k r4 σ3 (fun σ5 => (w_X3_leaveOut_4 k K  n (x1 + 1) (x2 + 1) σ5))))))))))
set_option maxHeartbeats 4000000 in
set_option maxRecDepth 100000 in
theorem b_X3_leaveOut_4 {p : Program} {l : Launch} {e : Env} {s : State} {m : MethodId} {args : Array Value} {below : List Frame} {meth : Method} {c : Code} {L : Ly} {sz : Nat} (C : Cx p rm_X3_leaveOut s m args meth c RX3 cX3_leaveOut 4 0 0 (mA L sz) L) (hret : meth.sig.returnType = (some .int)) (hlk : meth.locks = false) (k : Nat) (hk : kd k = 3) (K : Int32 → Mem → Prop)  : ∀ (n : Nat) (x1 : Int32) (x2 : Int32) (σ : Mem), w_X3_leaveOut_4 k K  n x1 x2 σ → V p l e rm_X3_leaveOut s m args below meth c 4 0 0 (MQ below (va_Qi K (mE L) (mA L sz)) args s 0 0 (mA L sz)) (mA L sz) L σ 4 [(0, .ref (lad L k)), (1, .int x1), (2, .int x2)] [] := by
  intro n
  induction n with
  | zero => intro x1 x2 σ  h; exact h.elim
  | succ n ih =>
    intro x1 x2 σ  h
    rw [w_X3_leaveOut_4] at h
    refine v_iload_n C dX3_leaveOut_4 rfl 2 rfl ?_
    refine v_bipush C (v := 26) dX3_leaveOut_5 rfl ?_
    refine v_icmp_ge C (tgt := 45) dX3_leaveOut_7 (by decide) (fun hc => ?_) (fun hc => ?_)
    · replace h := h.1 hc
      refine v_iload_n C dX3_leaveOut_45 rfl 1 rfl ?_
      exact v_iret C dX3_leaveOut_46 hret hlk h
    · replace h := h.2 hc
      refine v_aload_n C dX3_leaveOut_10 rfl 0 rfl ?_
      refine k_X3_counters C k hk h mM_X3_47 ⟨Nat.le_of_ble_eq_true rfl, Nat.le_of_ble_eq_true rfl⟩ (Nat.le_of_ble_eq_true rfl) dX3_leaveOut_11 (fun r2 σ1 h => ?_)
      refine v_aload_n C dX3_leaveOut_14 rfl 0 rfl ?_
      refine g_3_size C hk mF_X3_9 dX3_leaveOut_15 ?_
      refine v_icmp_le C (tgt := 45) dX3_leaveOut_18 (by decide) (fun hc => ?_) (fun hc => ?_)
      · replace h := h.1 hc
        refine v_iload_n C dX3_leaveOut_45 rfl 1 rfl ?_
        exact v_iret C dX3_leaveOut_46 hret hlk h
      · replace h := h.2 hc
        refine v_aload_n C dX3_leaveOut_21 rfl 0 rfl ?_
        refine k_X3_nextLeftOut C k hk h mM_X3_83 ⟨Nat.le_of_ble_eq_true rfl, Nat.le_of_ble_eq_true rfl⟩ (Nat.le_of_ble_eq_true rfl) dX3_leaveOut_22 (fun r4 σ3 h => ?_)
        refine v_istore_n C [(3, .int r4), (0, .ref (lad L k)), (1, .int x1), (2, .int x2)] dX3_leaveOut_25 rfl (by decide) rfl ?_
        refine v_iload_n C dX3_leaveOut_26 rfl 0 rfl ?_
        refine v_iconst C (v := (-1)) dX3_leaveOut_27 rfl ?_
        refine v_icmp_eq C (tgt := 39) dX3_leaveOut_28 (by decide) (fun hc => ?_) (fun hc => ?_)
        · replace h := h.1 hc
          refine v_iinc C [(2, .int (x2 + 1)), (3, .int r4), (0, .ref (lad L k)), (1, .int x1)] dX3_leaveOut_39 3 rfl rfl (by decide) rfl ?_
          refine v_goto C (tgt := 4) dX3_leaveOut_42 (by decide) ?_
          refine v_sub [2, 3, 0] rfl ?_
          exact ih _ _ _  h
        · replace h := h.2 hc
          refine v_aload_n C dX3_leaveOut_31 rfl 1 rfl ?_
          refine v_iload_n C dX3_leaveOut_32 rfl 0 rfl ?_
          refine k_X3_takeCounter C k r4 hk h mM_X3_64 ⟨Nat.le_of_ble_eq_true rfl, Nat.le_of_ble_eq_true rfl⟩ (Nat.le_of_ble_eq_true rfl) dX3_leaveOut_33 (fun σ5 h => ?_)
          refine v_iinc C [(1, .int (x1 + 1)), (3, .int r4), (0, .ref (lad L k)), (2, .int x2)] dX3_leaveOut_36 2 rfl rfl (by decide) rfl ?_
          refine v_iinc C [(2, .int (x2 + 1)), (1, .int (x1 + 1)), (3, .int r4), (0, .ref (lad L k))] dX3_leaveOut_39 3 rfl rfl (by decide) rfl ?_
          refine v_goto C (tgt := 4) dX3_leaveOut_42 (by decide) ?_
          refine v_sub [3, 1, 0] rfl ?_
          exact ih _ _ _  h
def w_X3_leaveOut (k : Nat) (σ : Mem) (K : Int32 → Mem → Prop) : Prop := (∃ n6, w_X3_leaveOut_4 k K  n6 0 0 σ)
set_option maxHeartbeats 4000000 in
set_option maxRecDepth 100000 in
theorem c_X3_leaveOut (l : Launch) (L : Ly) (k : Nat) (σ : Mem) (K : Int32 → Mem → Prop) (hk : kd k = 3) (h : w_X3_leaveOut k σ K) (sz : Nat) : Met l yX3_leaveOut (.code yX3_leaveOut cX3_leaveOut 4 (some .int) :: wA) rm_X3_leaveOut (va_Pc [.ref (lad L k)] (mB L sz σ)) (va_Qi K (mE L) (mA L sz)) 0 0 (mA L sz) := by
  refine v_start (own := RX3) [(0, .ref (lad L k))] (by decide) rfl (Nat.le_of_ble_eq_true rfl) rfl (fun p e s m args below meth c C hret hlk => ?_)
  unfold w_X3_leaveOut at h
  refine v_iconst C (v := 0) dX3_leaveOut_0 rfl ?_
  refine v_istore_n C [(1, .int 0), (0, .ref (lad L k))] dX3_leaveOut_1 rfl (by decide) rfl ?_
  refine v_iconst C (v := 0) dX3_leaveOut_2 rfl ?_
  refine v_istore_n C [(2, .int 0), (1, .int 0), (0, .ref (lad L k))] dX3_leaveOut_3 rfl (by decide) rfl ?_
  obtain ⟨n6, h⟩ := h
  refine v_sub [2, 1, 0] rfl ?_
  exact b_X3_leaveOut_4 C hret hlk k hk K   n6 _ _ _  h
theorem hd_X3_leaveOut : yX3_leaveOut.cls ≠ "java/lang/invoke/MethodHandle" ∧ yX3_leaveOut.cls ≠ "java/lang/invoke/VarHandle" ∧ (parseMethodDescriptor yX3_leaveOut.desc).map (fun d => d.parameters.length) = some 0 := by decide +kernel
theorem k_X3_leaveOut {p : Program} {l : Launch} {e : Env} {R : Room} {s : State} {m : MethodId} {args : Array Value} {below : List Frame} {meth : Method} {c : Code} {nL cells slots : Nat} {Q : State → Prop} {A : Nat → Prop} {L : Ly} {own : String} {cc : ByteArray} {σ : Mem} {pc idx : Nat} {lv : List (Nat × Value)} {st : List Value} {K : Int32 → Mem → Prop} (C : Cx p R s m args meth c own cc nL cells slots A L) (k : Nat) (hk : kd k = 3) (h : w_X3_leaveOut k σ K) (hml : Cond.methodLink own idx yX3_leaveOut ∈ wA) (hR : rm_X3_leaveOut.frames + 1 ≤ R.frames ∧ 8 + (4 + 11) + rm_X3_leaveOut.locals ≤ R.locals) (hsum : (st.map fun v => v.category).sum ≤ 8) (d : decode cc pc = .ok (.invokevirtual idx, 3)) (kk : ∀ r σ1, K r σ1 → V p l e R s m args below meth c nL cells slots Q A L σ1 (pc + 3) lv (.int r :: st)) : V p l e R s m args below meth c nL cells slots Q A L σ pc lv (.ref (lad L k) :: st) := v_callVi C [] (fun sz => c_X3_leaveOut l L k σ _ hk h sz) mC_X3_leaveOut mZ_X3 hd_X3_leaveOut mI_X3_leaveOut mS_X3_leaveOut rfl rfl (c0 := 3) (ci := 3) (by decide) rfl rfl rfl hk hml hR rfl hsum d kk
-- ===== RX3.absorb
abbrev rm_X3_absorb : Room := { frames := 3, cells := 0, slots := 0, locals := 66 }
def w_X3_absorb_13 (k : Nat) (o1 : Nat) (a2 : Int32) (K : Int32 → Mem → Prop)  : Nat → Int32 → Int32 → Mem → Prop
  | 0, _, _, _ => False
  | n + 1, x3, x4, σ => (br (26 ≤ x4) (∀ σ2 : Mem, σ2 = mu σ k 3 x3 → (∀ σ3 : Mem, σ3 = mu σ2 k 1 ((σ2 k 1) + (σ2 o1 1)) → (∀ σ4 : Mem, σ4 = mu σ3 k 2 ((σ3 k 2) + (σ3 o1 2)) → (w_X3_leaveOut k σ4 (fun r6 σ5 => (K r6 σ5)))))) (br (((x3 >>> (x4 &&& 31)) &&& 1) = 0) (vp_in x4 26 ∧ (vp_in x4 26 ∧ (vp_in x4 26 ∧ ∀ σ10 : Mem, σ10 = mu σ (k + 4) (ix x4) ((σ (k + 4) (ix x4)) + (σ (o1 + 4) (ix x4))) → (w_X3_absorb_13 k o1 a2 K  n x3 (x4 + 1) σ10)))) (w_X3_upper k x4 σ (fun r12 σ11 => (w_X3_upper o1 x4 σ11 (fun r14 σ13 => (∀ v15 : Int32, v15 = (r12 + r14) → (w_X3_slackToMerge k x4 σ13 (fun r17 σ16 => (w_X3_slackToMerge o1 x4 σ16 (fun r19 σ18 => (∀ v20 : Int32, v20 = (r17 + r19) → (vp_in x4 26 ∧ ∀ σ22 : Mem, σ22 = mu σ18 (k + 1) (ix x4) v15 → (vp_in x4 26 ∧ ∀ σ24 : Mem, σ24 = mu σ22 (k + 2) (ix x4) v20 → (vp_in x4 26 ∧ ∀ σ26 : Mem, σ26 = mu σ24 (k + 3) (ix x4) a2 → (vp_in x4 26 ∧ (vp_in x4 26 ∧ (vp_in x4 26 ∧ ∀ σ30 : Mem, σ30 = mu σ26 (k + 4) (ix x4) ((σ26 (k + 4) (ix x4)) + (σ26 (o1 + 4) (ix x4))) → (w_X3_absorb_13 k o1 a2 K  n x3 (x4 + 1) σ30)))))))))))))))))))
set_option maxHeartbeats 4000000 in
set_option maxRecDepth 100000 in
theorem b_X3_absorb_13 {p : Program} {l : Launch} {e : Env} {s : State} {m : MethodId} {args : Array Value} {below : List Frame} {meth : Method} {c : Code} {L : Ly} {sz : Nat} (C : Cx p rm_X3_absorb s m args meth c RX3 cX3_absorb 7 0 0 (mA L sz) L) (hret : meth.sig.returnType = (some .int)) (hlk : meth.locks = false) (k : Nat) (o1 : Nat) (a2 : Int32) (hk : kd k = 3) (ho1 : kd o1 = 3) (K : Int32 → Mem → Prop)  : ∀ (n : Nat) (x3 : Int32) (x4 : Int32) (σ : Mem), w_X3_absorb_13 k o1 a2 K  n x3 x4 σ → V p l e rm_X3_absorb s m args below meth c 7 0 0 (MQ below (va_Qi K (mE L) (mA L sz)) args s 0 0 (mA L sz)) (mA L sz) L σ 13 [(0, .ref (lad L k)), (1, .ref (lad L o1)), (2, .int a2), (3, .int x3), (4, .int x4)] [] := by
  intro n
  induction n with
  | zero => intro x3 x4 σ  h; exact h.elim
  | succ n ih =>
    intro x3 x4 σ  h
    rw [w_X3_absorb_13] at h
    refine v_iload C dX3_absorb_13 4 rfl ?_
    refine v_bipush C (v := 26) dX3_absorb_15 rfl ?_
    refine v_icmp_ge C (tgt := 108) dX3_absorb_17 (by decide) (fun hc => ?_) (fun hc => ?_)
    · replace h := h.1 hc
      refine v_aload_n C dX3_absorb_108 rfl 0 rfl ?_
      refine v_iload_n C dX3_absorb_109 rfl 3 rfl ?_
      refine p_3_held C hk mF_X3_21 dX3_absorb_110 (fun σ2 eσ2 => ?_)
      replace h := h σ2 eσ2
      refine v_aload_n C dX3_absorb_113 rfl 0 rfl ?_
      refine v_dup C dX3_absorb_114 rfl ?_
      refine g_3_floor C hk mF_X3_15 dX3_absorb_115 ?_
      refine v_aload_n C dX3_absorb_118 rfl 1 rfl ?_
      refine g_3_floor C ho1 mF_X3_15 dX3_absorb_119 ?_
      refine v_iadd C dX3_absorb_122 ?_
      refine p_3_floor C hk mF_X3_15 dX3_absorb_123 (fun σ3 eσ3 => ?_)
      replace h := h σ3 eσ3
      refine v_aload_n C dX3_absorb_126 rfl 0 rfl ?_
      refine v_dup C dX3_absorb_127 rfl ?_
      refine g_3_sum C hk mF_X3_18 dX3_absorb_128 ?_
      refine v_aload_n C dX3_absorb_131 rfl 1 rfl ?_
      refine g_3_sum C ho1 mF_X3_18 dX3_absorb_132 ?_
      refine v_iadd C dX3_absorb_135 ?_
      refine p_3_sum C hk mF_X3_18 dX3_absorb_136 (fun σ4 eσ4 => ?_)
      replace h := h σ4 eσ4
      refine v_aload_n C dX3_absorb_139 rfl 0 rfl ?_
      refine k_X3_leaveOut C k hk h mM_X3_80 ⟨Nat.le_of_ble_eq_true rfl, Nat.le_of_ble_eq_true rfl⟩ (Nat.le_of_ble_eq_true rfl) dX3_absorb_140 (fun r6 σ5 h => ?_)
      exact v_iret C dX3_absorb_143 hret hlk h
    · replace h := h.2 hc
      refine v_iload_n C dX3_absorb_20 rfl 3 rfl ?_
      refine v_iload C dX3_absorb_21 4 rfl ?_
      refine v_ishr C dX3_absorb_23 ?_
      refine v_iconst C (v := 1) dX3_absorb_24 rfl ?_
      refine v_iand C dX3_absorb_25 ?_
      refine v_if_eq C (tgt := 85) dX3_absorb_26 (by decide) (fun hc => ?_) (fun hc => ?_)
      · replace h := h.1 hc
        refine v_aload_n C dX3_absorb_85 rfl 0 rfl ?_
        refine g_3_came C hk mF_X3_34 dX3_absorb_86 ?_
        refine v_iload C dX3_absorb_89 4 rfl ?_
        refine v_dup2 C dX3_absorb_91 rfl rfl ?_
        obtain ⟨hi7, h⟩ := h
        refine v_iald C (c0 := 20) (by decide) rfl (kd_3_4 hk) hi7 dX3_absorb_92 ?_
        refine v_aload_n C dX3_absorb_93 rfl 1 rfl ?_
        refine g_3_came C ho1 mF_X3_34 dX3_absorb_94 ?_
        refine v_iload C dX3_absorb_97 4 rfl ?_
        obtain ⟨hi8, h⟩ := h
        refine v_iald C (c0 := 20) (by decide) rfl (kd_3_4 ho1) hi8 dX3_absorb_99 ?_
        refine v_iadd C dX3_absorb_100 ?_
        obtain ⟨hi9, h⟩ := h
        refine v_iast C (c0 := 20) (by decide) (fun _ => rfl) (kd_3_4 hk) hi9 dX3_absorb_101 (fun σ10 eσ10 => ?_)
        replace h := h σ10 eσ10
        refine v_iinc C [(4, .int (x4 + 1)), (0, .ref (lad L k)), (1, .ref (lad L o1)), (2, .int a2), (3, .int x3)] dX3_absorb_102 4 rfl rfl (by decide) rfl ?_
        refine v_goto C (tgt := 13) dX3_absorb_105 (by decide) ?_
        refine v_sub [1, 2, 3, 4, 0] rfl ?_
        exact ih _ _ _  h
      · replace h := h.2 hc
        refine v_aload_n C dX3_absorb_29 rfl 0 rfl ?_
        refine v_iload C dX3_absorb_30 4 rfl ?_
        refine k_X3_upper C k x4 hk h mM_X3_74 ⟨Nat.le_of_ble_eq_true rfl, Nat.le_of_ble_eq_true rfl⟩ (Nat.le_of_ble_eq_true rfl) dX3_absorb_32 (fun r12 σ11 h => ?_)
        refine v_aload_n C dX3_absorb_35 rfl 1 rfl ?_
        refine v_iload C dX3_absorb_36 4 rfl ?_
        refine k_X3_upper C o1 x4 ho1 h mM_X3_74 ⟨Nat.le_of_ble_eq_true rfl, Nat.le_of_ble_eq_true rfl⟩ (Nat.le_of_ble_eq_true rfl) dX3_absorb_38 (fun r14 σ13 h => ?_)
        refine v_iadd C dX3_absorb_41 ?_
        refine v_nm (fun v15 ev15 => ?_)
        replace h := h v15 ev15
        refine v_istore C [(5, .int v15), (0, .ref (lad L k)), (1, .ref (lad L o1)), (2, .int a2), (3, .int x3), (4, .int x4)] dX3_absorb_42 (by decide) rfl ?_
        refine v_aload_n C dX3_absorb_44 rfl 1 rfl ?_
        refine v_iload C dX3_absorb_45 5 rfl ?_
        refine k_X3_slackToMerge C k x4 hk h mM_X3_77 ⟨Nat.le_of_ble_eq_true rfl, Nat.le_of_ble_eq_true rfl⟩ (Nat.le_of_ble_eq_true rfl) dX3_absorb_47 (fun r17 σ16 h => ?_)
        refine v_aload_n C dX3_absorb_50 rfl 2 rfl ?_
        refine v_iload C dX3_absorb_51 5 rfl ?_
        refine k_X3_slackToMerge C o1 x4 ho1 h mM_X3_77 ⟨Nat.le_of_ble_eq_true rfl, Nat.le_of_ble_eq_true rfl⟩ (Nat.le_of_ble_eq_true rfl) dX3_absorb_53 (fun r19 σ18 h => ?_)
        refine v_iadd C dX3_absorb_56 ?_
        refine v_nm (fun v20 ev20 => ?_)
        replace h := h v20 ev20
        refine v_istore C [(6, .int v20), (5, .int v15), (0, .ref (lad L k)), (1, .ref (lad L o1)), (2, .int a2), (3, .int x3), (4, .int x4)] dX3_absorb_57 (by decide) rfl ?_
        refine v_aload_n C dX3_absorb_59 rfl 2 rfl ?_
        refine g_3_counts C hk mF_X3_24 dX3_absorb_60 ?_
        refine v_iload C dX3_absorb_63 6 rfl ?_
        refine v_iload C dX3_absorb_65 1 rfl ?_
        obtain ⟨hi21, h⟩ := h
        refine v_iast C (c0 := 20) (by decide) (fun _ => rfl) (kd_3_1 hk) hi21 dX3_absorb_67 (fun σ22 eσ22 => ?_)
        replace h := h σ22 eσ22
        refine v_aload_n C dX3_absorb_68 rfl 2 rfl ?_
        refine g_3_slacks C hk mF_X3_28 dX3_absorb_69 ?_
        refine v_iload C dX3_absorb_72 6 rfl ?_
        refine v_iload C dX3_absorb_74 0 rfl ?_
        obtain ⟨hi23, h⟩ := h
        refine v_iast C (c0 := 20) (by decide) (fun _ => rfl) (kd_3_2 hk) hi23 dX3_absorb_76 (fun σ24 eσ24 => ?_)
        replace h := h σ24 eσ24
        refine v_aload_n C dX3_absorb_77 rfl 2 rfl ?_
        refine g_3_times C hk mF_X3_31 dX3_absorb_78 ?_
        refine v_iload C dX3_absorb_81 6 rfl ?_
        refine v_iload_n C dX3_absorb_83 rfl 4 rfl ?_
        obtain ⟨hi25, h⟩ := h
        refine v_iast C (c0 := 20) (by decide) (fun _ => rfl) (kd_3_3 hk) hi25 dX3_absorb_84 (fun σ26 eσ26 => ?_)
        replace h := h σ26 eσ26
        refine v_aload_n C dX3_absorb_85 rfl 2 rfl ?_
        refine g_3_came C hk mF_X3_34 dX3_absorb_86 ?_
        refine v_iload C dX3_absorb_89 6 rfl ?_
        refine v_dup2 C dX3_absorb_91 rfl rfl ?_
        obtain ⟨hi27, h⟩ := h
        refine v_iald C (c0 := 20) (by decide) rfl (kd_3_4 hk) hi27 dX3_absorb_92 ?_
        refine v_aload_n C dX3_absorb_93 rfl 3 rfl ?_
        refine g_3_came C ho1 mF_X3_34 dX3_absorb_94 ?_
        refine v_iload C dX3_absorb_97 6 rfl ?_
        obtain ⟨hi28, h⟩ := h
        refine v_iald C (c0 := 20) (by decide) rfl (kd_3_4 ho1) hi28 dX3_absorb_99 ?_
        refine v_iadd C dX3_absorb_100 ?_
        obtain ⟨hi29, h⟩ := h
        refine v_iast C (c0 := 20) (by decide) (fun _ => rfl) (kd_3_4 hk) hi29 dX3_absorb_101 (fun σ30 eσ30 => ?_)
        replace h := h σ30 eσ30
        refine v_iinc C [(4, .int (x4 + 1)), (6, .int v20), (5, .int v15), (0, .ref (lad L k)), (1, .ref (lad L o1)), (2, .int a2), (3, .int x3)] dX3_absorb_102 6 rfl rfl (by decide) rfl ?_
        refine v_goto C (tgt := 13) dX3_absorb_105 (by decide) ?_
        refine v_sub [3, 4, 5, 6, 0] rfl ?_
        exact ih _ _ _  h
def w_X3_absorb (k : Nat) (o1 : Nat) (a2 : Int32) (σ : Mem) (K : Int32 → Mem → Prop) : Prop := (∀ v1 : Int32, v1 = ((σ k 3) ||| (σ o1 3)) → (∃ n31, w_X3_absorb_13 k o1 a2 K  n31 v1 0 σ))
set_option maxHeartbeats 4000000 in
set_option maxRecDepth 100000 in
theorem c_X3_absorb (l : Launch) (L : Ly) (k : Nat) (o1 : Nat) (a2 : Int32) (σ : Mem) (K : Int32 → Mem → Prop) (hk : kd k = 3) (ho1 : kd o1 = 3) (h : w_X3_absorb k o1 a2 σ K) (sz : Nat) : Met l yX3_absorb (.code yX3_absorb cX3_absorb 7 (some .int) :: wA) rm_X3_absorb (va_Pc [.ref (lad L k), .ref (lad L o1), .int a2] (mB L sz σ)) (va_Qi K (mE L) (mA L sz)) 0 0 (mA L sz) := by
  refine v_start (own := RX3) [(0, .ref (lad L k)), (1, .ref (lad L o1)), (2, .int a2)] (by decide) rfl (Nat.le_of_ble_eq_true rfl) rfl (fun p e s m args below meth c C hret hlk => ?_)
  unfold w_X3_absorb at h
  refine v_aload_n C dX3_absorb_0 rfl 0 rfl ?_
  refine g_3_held C hk mF_X3_21 dX3_absorb_1 ?_
  refine v_aload_n C dX3_absorb_4 rfl 1 rfl ?_
  refine g_3_held C ho1 mF_X3_21 dX3_absorb_5 ?_
  refine v_ior C dX3_absorb_8 ?_
  refine v_nm (fun v1 ev1 => ?_)
  replace h := h v1 ev1
  refine v_istore_n C [(3, .int v1), (0, .ref (lad L k)), (1, .ref (lad L o1)), (2, .int a2)] dX3_absorb_9 rfl (by decide) rfl ?_
  refine v_iconst C (v := 0) dX3_absorb_10 rfl ?_
  refine v_istore C [(4, .int 0), (3, .int v1), (0, .ref (lad L k)), (1, .ref (lad L o1)), (2, .int a2)] dX3_absorb_11 (by decide) rfl ?_
  obtain ⟨n31, h⟩ := h
  refine v_sub [2, 3, 4, 1, 0] rfl ?_
  exact b_X3_absorb_13 C hret hlk k o1 a2 hk ho1 K   n31 _ _ _  h
theorem hd_X3_absorb : yX3_absorb.cls ≠ "java/lang/invoke/MethodHandle" ∧ yX3_absorb.cls ≠ "java/lang/invoke/VarHandle" ∧ (parseMethodDescriptor yX3_absorb.desc).map (fun d => d.parameters.length) = some 2 := by decide +kernel
theorem k_X3_absorb {p : Program} {l : Launch} {e : Env} {R : Room} {s : State} {m : MethodId} {args : Array Value} {below : List Frame} {meth : Method} {c : Code} {nL cells slots : Nat} {Q : State → Prop} {A : Nat → Prop} {L : Ly} {own : String} {cc : ByteArray} {σ : Mem} {pc idx : Nat} {lv : List (Nat × Value)} {st : List Value} {K : Int32 → Mem → Prop} (C : Cx p R s m args meth c own cc nL cells slots A L) (k : Nat) (o1 : Nat) (a2 : Int32) (hk : kd k = 3) (ho1 : kd o1 = 3) (h : w_X3_absorb k o1 a2 σ K) (hml : Cond.methodLink own idx yX3_absorb ∈ wA) (hR : rm_X3_absorb.frames + 1 ≤ R.frames ∧ 8 + (7 + 11) + rm_X3_absorb.locals ≤ R.locals) (hsum : (st.map fun v => v.category).sum ≤ 8) (d : decode cc pc = .ok (.invokevirtual idx, 3)) (kk : ∀ r σ1, K r σ1 → V p l e R s m args below meth c nL cells slots Q A L σ1 (pc + 3) lv (.int r :: st)) : V p l e R s m args below meth c nL cells slots Q A L σ pc lv (.int a2 :: .ref (lad L o1) :: .ref (lad L k) :: st) := v_callVi C [.ref (lad L o1), .int a2] (fun sz => c_X3_absorb l L k o1 a2 σ _ hk ho1 h sz) mC_X3_absorb mZ_X3 hd_X3_absorb mI_X3_absorb mS_X3_absorb rfl rfl (c0 := 3) (ci := 3) (by decide) rfl rfl rfl hk hml hR rfl hsum d kk
-- ===== RX3.lower
abbrev rm_X3_lower : Room := { frames := 1, cells := 0, slots := 0, locals := 21 }
def w_X3_lower (k : Nat) (a1 : Int32) (σ : Mem) (K : Int32 → Mem → Prop) : Prop := (w_X3_has k a1 σ (fun r2 σ1 => (br (r2 = 0) (K 0 σ1) (vp_in a1 26 ∧ (vp_in a1 26 ∧ (K ((σ1 (k + 1) (ix a1)) - (σ1 (k + 2) (ix a1))) σ1))))))
set_option maxHeartbeats 4000000 in
set_option maxRecDepth 100000 in
theorem c_X3_lower (l : Launch) (L : Ly) (k : Nat) (a1 : Int32) (σ : Mem) (K : Int32 → Mem → Prop) (hk : kd k = 3) (h : w_X3_lower k a1 σ K) (sz : Nat) : Met l yX3_lower (.code yX3_lower cX3_lower 2 (some .int) :: wA) rm_X3_lower (va_Pc [.ref (lad L k), .int a1] (mB L sz σ)) (va_Qi K (mE L) (mA L sz)) 0 0 (mA L sz) := by
  refine v_start (own := RX3) [(0, .ref (lad L k)), (1, .int a1)] (by decide) rfl (Nat.le_of_ble_eq_true rfl) rfl (fun p e s m args below meth c C hret hlk => ?_)
  unfold w_X3_lower at h
  refine v_aload_n C dX3_lower_0 rfl 0 rfl ?_
  refine v_iload_n C dX3_lower_1 rfl 1 rfl ?_
  refine k_X3_has C k a1 hk h mM_X3_43 ⟨Nat.le_of_ble_eq_true rfl, Nat.le_of_ble_eq_true rfl⟩ (Nat.le_of_ble_eq_true rfl) dX3_lower_2 (fun r2 σ1 h => ?_)
  refine v_if_eq C (tgt := 24) dX3_lower_5 (by decide) (fun hc => ?_) (fun hc => ?_)
  · replace h := h.1 hc
    refine v_iconst C (v := 0) dX3_lower_24 rfl ?_
    exact v_iret C dX3_lower_25 hret hlk h
  · replace h := h.2 hc
    refine v_aload_n C dX3_lower_8 rfl 0 rfl ?_
    refine g_3_counts C hk mF_X3_24 dX3_lower_9 ?_
    refine v_iload_n C dX3_lower_12 rfl 1 rfl ?_
    obtain ⟨hi3, h⟩ := h
    refine v_iald C (c0 := 20) (by decide) rfl (kd_3_1 hk) hi3 dX3_lower_13 ?_
    refine v_aload_n C dX3_lower_14 rfl 0 rfl ?_
    refine g_3_slacks C hk mF_X3_28 dX3_lower_15 ?_
    refine v_iload_n C dX3_lower_18 rfl 1 rfl ?_
    obtain ⟨hi4, h⟩ := h
    refine v_iald C (c0 := 20) (by decide) rfl (kd_3_2 hk) hi4 dX3_lower_19 ?_
    refine v_isub C dX3_lower_20 ?_
    refine v_goto C (tgt := 25) dX3_lower_21 (by decide) ?_
    exact v_iret C dX3_lower_25 hret hlk h
theorem hd_X3_lower : yX3_lower.cls ≠ "java/lang/invoke/MethodHandle" ∧ yX3_lower.cls ≠ "java/lang/invoke/VarHandle" ∧ (parseMethodDescriptor yX3_lower.desc).map (fun d => d.parameters.length) = some 1 := by decide +kernel
theorem k_X3_lower {p : Program} {l : Launch} {e : Env} {R : Room} {s : State} {m : MethodId} {args : Array Value} {below : List Frame} {meth : Method} {c : Code} {nL cells slots : Nat} {Q : State → Prop} {A : Nat → Prop} {L : Ly} {own : String} {cc : ByteArray} {σ : Mem} {pc idx : Nat} {lv : List (Nat × Value)} {st : List Value} {K : Int32 → Mem → Prop} (C : Cx p R s m args meth c own cc nL cells slots A L) (k : Nat) (a1 : Int32) (hk : kd k = 3) (h : w_X3_lower k a1 σ K) (hml : Cond.methodLink own idx yX3_lower ∈ wA) (hR : rm_X3_lower.frames + 1 ≤ R.frames ∧ 8 + (2 + 11) + rm_X3_lower.locals ≤ R.locals) (hsum : (st.map fun v => v.category).sum ≤ 8) (d : decode cc pc = .ok (.invokevirtual idx, 3)) (kk : ∀ r σ1, K r σ1 → V p l e R s m args below meth c nL cells slots Q A L σ1 (pc + 3) lv (.int r :: st)) : V p l e R s m args below meth c nL cells slots Q A L σ pc lv (.int a1 :: .ref (lad L k) :: st) := v_callVi C [.int a1] (fun sz => c_X3_lower l L k a1 σ _ hk h sz) mC_X3_lower mZ_X3 hd_X3_lower mI_X3_lower mS_X3_lower rfl rfl (c0 := 3) (ci := 3) (by decide) rfl rfl rfl hk hml hR rfl hsum d kk
-- ===== RX3.greatestSlack
abbrev rm_X3_greatestSlack : Room := { frames := 1, cells := 0, slots := 0, locals := 21 }
def w_X3_greatestSlack_4 (k : Nat) (K : Int32 → Mem → Prop)  : Nat → Int32 → Int32 → Mem → Prop
  | 0, _, _, _ => False
  | n + 1, x1, x2, σ => (br (26 ≤ x2) (K x1 σ) (w_X3_has k x2 σ (fun r2 σ1 => (br (r2 = 0) (w_X3_greatestSlack_4 k K  n x1 (x2 + 1) σ1) (vp_in x2 26 ∧ (∀ v4 : Int32, v4 = (if x1 < (σ1 (k + 2) (ix x2)) then (σ1 (k + 2) (ix x2)) else x1) → (w_X3_greatestSlack_4 k K  n v4 (x2 + 1) σ1)))))))
set_option maxHeartbeats 4000000 in
set_option maxRecDepth 100000 in
theorem b_X3_greatestSlack_4 {p : Program} {l : Launch} {e : Env} {s : State} {m : MethodId} {args : Array Value} {below : List Frame} {meth : Method} {c : Code} {L : Ly} {sz : Nat} (C : Cx p rm_X3_greatestSlack s m args meth c RX3 cX3_greatestSlack 3 0 0 (mA L sz) L) (hret : meth.sig.returnType = (some .int)) (hlk : meth.locks = false) (k : Nat) (hk : kd k = 3) (K : Int32 → Mem → Prop)  : ∀ (n : Nat) (x1 : Int32) (x2 : Int32) (σ : Mem), w_X3_greatestSlack_4 k K  n x1 x2 σ → V p l e rm_X3_greatestSlack s m args below meth c 3 0 0 (MQ below (va_Qi K (mE L) (mA L sz)) args s 0 0 (mA L sz)) (mA L sz) L σ 4 [(0, .ref (lad L k)), (1, .int x1), (2, .int x2)] [] := by
  intro n
  induction n with
  | zero => intro x1 x2 σ  h; exact h.elim
  | succ n ih =>
    intro x1 x2 σ  h
    rw [w_X3_greatestSlack_4] at h
    refine v_iload_n C dX3_greatestSlack_4 rfl 2 rfl ?_
    refine v_bipush C (v := 26) dX3_greatestSlack_5 rfl ?_
    refine v_icmp_ge C (tgt := 35) dX3_greatestSlack_7 (by decide) (fun hc => ?_) (fun hc => ?_)
    · replace h := h.1 hc
      refine v_iload_n C dX3_greatestSlack_35 rfl 1 rfl ?_
      exact v_iret C dX3_greatestSlack_36 hret hlk h
    · replace h := h.2 hc
      refine v_aload_n C dX3_greatestSlack_10 rfl 0 rfl ?_
      refine v_iload_n C dX3_greatestSlack_11 rfl 2 rfl ?_
      refine k_X3_has C k x2 hk h mM_X3_43 ⟨Nat.le_of_ble_eq_true rfl, Nat.le_of_ble_eq_true rfl⟩ (Nat.le_of_ble_eq_true rfl) dX3_greatestSlack_12 (fun r2 σ1 h => ?_)
      refine v_if_eq C (tgt := 29) dX3_greatestSlack_15 (by decide) (fun hc => ?_) (fun hc => ?_)
      · replace h := h.1 hc
        refine v_iinc C [(2, .int (x2 + 1)), (0, .ref (lad L k)), (1, .int x1)] dX3_greatestSlack_29 2 rfl rfl (by decide) rfl ?_
        refine v_goto C (tgt := 4) dX3_greatestSlack_32 (by decide) ?_
        refine v_sub [1, 2, 0] rfl ?_
        exact ih _ _ _  h
      · replace h := h.2 hc
        refine v_iload_n C dX3_greatestSlack_18 rfl 1 rfl ?_
        refine v_aload_n C dX3_greatestSlack_19 rfl 0 rfl ?_
        refine g_3_slacks C hk mF_X3_28 dX3_greatestSlack_20 ?_
        refine v_iload_n C dX3_greatestSlack_23 rfl 2 rfl ?_
        obtain ⟨hi3, h⟩ := h
        refine v_iald C (c0 := 20) (by decide) rfl (kd_3_2 hk) hi3 dX3_greatestSlack_24 ?_
        refine v_mmax C mM_X3_68 (by decide) (Nat.le_of_ble_eq_true rfl) dX3_greatestSlack_25 ?_
        refine v_nm (fun v4 ev4 => ?_)
        replace h := h v4 ev4
        refine v_istore_n C [(1, .int v4), (0, .ref (lad L k)), (2, .int x2)] dX3_greatestSlack_28 rfl (by decide) rfl ?_
        refine v_iinc C [(2, .int (x2 + 1)), (1, .int v4), (0, .ref (lad L k))] dX3_greatestSlack_29 2 rfl rfl (by decide) rfl ?_
        refine v_goto C (tgt := 4) dX3_greatestSlack_32 (by decide) ?_
        refine v_sub [2, 1, 0] rfl ?_
        exact ih _ _ _  h
def w_X3_greatestSlack (k : Nat) (σ : Mem) (K : Int32 → Mem → Prop) : Prop := (∃ n5, w_X3_greatestSlack_4 k K  n5 0 0 σ)
set_option maxHeartbeats 4000000 in
set_option maxRecDepth 100000 in
theorem c_X3_greatestSlack (l : Launch) (L : Ly) (k : Nat) (σ : Mem) (K : Int32 → Mem → Prop) (hk : kd k = 3) (h : w_X3_greatestSlack k σ K) (sz : Nat) : Met l yX3_greatestSlack (.code yX3_greatestSlack cX3_greatestSlack 3 (some .int) :: wA) rm_X3_greatestSlack (va_Pc [.ref (lad L k)] (mB L sz σ)) (va_Qi K (mE L) (mA L sz)) 0 0 (mA L sz) := by
  refine v_start (own := RX3) [(0, .ref (lad L k))] (by decide) rfl (Nat.le_of_ble_eq_true rfl) rfl (fun p e s m args below meth c C hret hlk => ?_)
  unfold w_X3_greatestSlack at h
  refine v_iconst C (v := 0) dX3_greatestSlack_0 rfl ?_
  refine v_istore_n C [(1, .int 0), (0, .ref (lad L k))] dX3_greatestSlack_1 rfl (by decide) rfl ?_
  refine v_iconst C (v := 0) dX3_greatestSlack_2 rfl ?_
  refine v_istore_n C [(2, .int 0), (1, .int 0), (0, .ref (lad L k))] dX3_greatestSlack_3 rfl (by decide) rfl ?_
  obtain ⟨n5, h⟩ := h
  refine v_sub [2, 1, 0] rfl ?_
  exact b_X3_greatestSlack_4 C hret hlk k hk K   n5 _ _ _  h
theorem hd_X3_greatestSlack : yX3_greatestSlack.cls ≠ "java/lang/invoke/MethodHandle" ∧ yX3_greatestSlack.cls ≠ "java/lang/invoke/VarHandle" ∧ (parseMethodDescriptor yX3_greatestSlack.desc).map (fun d => d.parameters.length) = some 0 := by decide +kernel
theorem k_X3_greatestSlack {p : Program} {l : Launch} {e : Env} {R : Room} {s : State} {m : MethodId} {args : Array Value} {below : List Frame} {meth : Method} {c : Code} {nL cells slots : Nat} {Q : State → Prop} {A : Nat → Prop} {L : Ly} {own : String} {cc : ByteArray} {σ : Mem} {pc idx : Nat} {lv : List (Nat × Value)} {st : List Value} {K : Int32 → Mem → Prop} (C : Cx p R s m args meth c own cc nL cells slots A L) (k : Nat) (hk : kd k = 3) (h : w_X3_greatestSlack k σ K) (hml : Cond.methodLink own idx yX3_greatestSlack ∈ wA) (hR : rm_X3_greatestSlack.frames + 1 ≤ R.frames ∧ 8 + (3 + 11) + rm_X3_greatestSlack.locals ≤ R.locals) (hsum : (st.map fun v => v.category).sum ≤ 8) (d : decode cc pc = .ok (.invokevirtual idx, 3)) (kk : ∀ r σ1, K r σ1 → V p l e R s m args below meth c nL cells slots Q A L σ1 (pc + 3) lv (.int r :: st)) : V p l e R s m args below meth c nL cells slots Q A L σ pc lv (.ref (lad L k) :: st) := v_callVi C [] (fun sz => c_X3_greatestSlack l L k σ _ hk h sz) mC_X3_greatestSlack mZ_X3 hd_X3_greatestSlack mI_X3_greatestSlack mS_X3_greatestSlack rfl rfl (c0 := 3) (ci := 3) (by decide) rfl rfl rfl hk hml hR rfl hsum d kk
-- ===== RX3.lettersThatCame
abbrev rm_X3_lettersThatCame : Room := { frames := 0, cells := 0, slots := 0, locals := 0 }
def w_X3_lettersThatCame_4 (k : Nat) (K : Int32 → Mem → Prop)  : Nat → Int32 → Int32 → Mem → Prop
  | 0, _, _, _ => False
  | n + 1, x1, x2, σ => (br (26 ≤ x2) (K x1 σ) (vp_in x2 26 ∧ (br ((σ (k + 4) (ix x2)) ≤ 0) (w_X3_lettersThatCame_4 k K  n x1 (x2 + 1) σ) (∀ v2 : Int32, v2 = (x1 ||| (1 <<< (x2 &&& 31))) → (w_X3_lettersThatCame_4 k K  n v2 (x2 + 1) σ)))))
set_option maxHeartbeats 4000000 in
set_option maxRecDepth 100000 in
theorem b_X3_lettersThatCame_4 {p : Program} {l : Launch} {e : Env} {s : State} {m : MethodId} {args : Array Value} {below : List Frame} {meth : Method} {c : Code} {L : Ly} {sz : Nat} (C : Cx p rm_X3_lettersThatCame s m args meth c RX3 cX3_lettersThatCame 3 0 0 (mA L sz) L) (hret : meth.sig.returnType = (some .int)) (hlk : meth.locks = false) (k : Nat) (hk : kd k = 3) (K : Int32 → Mem → Prop)  : ∀ (n : Nat) (x1 : Int32) (x2 : Int32) (σ : Mem), w_X3_lettersThatCame_4 k K  n x1 x2 σ → V p l e rm_X3_lettersThatCame s m args below meth c 3 0 0 (MQ below (va_Qi K (mE L) (mA L sz)) args s 0 0 (mA L sz)) (mA L sz) L σ 4 [(0, .ref (lad L k)), (1, .int x1), (2, .int x2)] [] := by
  intro n
  induction n with
  | zero => intro x1 x2 σ  h; exact h.elim
  | succ n ih =>
    intro x1 x2 σ  h
    rw [w_X3_lettersThatCame_4] at h
    refine v_iload_n C dX3_lettersThatCame_4 rfl 2 rfl ?_
    refine v_bipush C (v := 26) dX3_lettersThatCame_5 rfl ?_
    refine v_icmp_ge C (tgt := 31) dX3_lettersThatCame_7 (by decide) (fun hc => ?_) (fun hc => ?_)
    · replace h := h.1 hc
      refine v_iload_n C dX3_lettersThatCame_31 rfl 1 rfl ?_
      exact v_iret C dX3_lettersThatCame_32 hret hlk h
    · replace h := h.2 hc
      refine v_aload_n C dX3_lettersThatCame_10 rfl 0 rfl ?_
      refine g_3_came C hk mF_X3_34 dX3_lettersThatCame_11 ?_
      refine v_iload_n C dX3_lettersThatCame_14 rfl 2 rfl ?_
      obtain ⟨hi1, h⟩ := h
      refine v_iald C (c0 := 20) (by decide) rfl (kd_3_4 hk) hi1 dX3_lettersThatCame_15 ?_
      refine v_if_le C (tgt := 25) dX3_lettersThatCame_16 (by decide) (fun hc => ?_) (fun hc => ?_)
      · replace h := h.1 hc
        refine v_iinc C [(2, .int (x2 + 1)), (0, .ref (lad L k)), (1, .int x1)] dX3_lettersThatCame_25 2 rfl rfl (by decide) rfl ?_
        refine v_goto C (tgt := 4) dX3_lettersThatCame_28 (by decide) ?_
        refine v_sub [1, 2, 0] rfl ?_
        exact ih _ _ _  h
      · replace h := h.2 hc
        refine v_iload_n C dX3_lettersThatCame_19 rfl 1 rfl ?_
        refine v_iconst C (v := 1) dX3_lettersThatCame_20 rfl ?_
        refine v_iload_n C dX3_lettersThatCame_21 rfl 2 rfl ?_
        refine v_ishl C dX3_lettersThatCame_22 ?_
        refine v_ior C dX3_lettersThatCame_23 ?_
        refine v_nm (fun v2 ev2 => ?_)
        replace h := h v2 ev2
        refine v_istore_n C [(1, .int v2), (0, .ref (lad L k)), (2, .int x2)] dX3_lettersThatCame_24 rfl (by decide) rfl ?_
        refine v_iinc C [(2, .int (x2 + 1)), (1, .int v2), (0, .ref (lad L k))] dX3_lettersThatCame_25 2 rfl rfl (by decide) rfl ?_
        refine v_goto C (tgt := 4) dX3_lettersThatCame_28 (by decide) ?_
        refine v_sub [2, 1, 0] rfl ?_
        exact ih _ _ _  h
def w_X3_lettersThatCame (k : Nat) (σ : Mem) (K : Int32 → Mem → Prop) : Prop := (∃ n3, w_X3_lettersThatCame_4 k K  n3 0 0 σ)
set_option maxHeartbeats 4000000 in
set_option maxRecDepth 100000 in
theorem c_X3_lettersThatCame (l : Launch) (L : Ly) (k : Nat) (σ : Mem) (K : Int32 → Mem → Prop) (hk : kd k = 3) (h : w_X3_lettersThatCame k σ K) (sz : Nat) : Met l yX3_lettersThatCame (.code yX3_lettersThatCame cX3_lettersThatCame 3 (some .int) :: wA) rm_X3_lettersThatCame (va_Pc [.ref (lad L k)] (mB L sz σ)) (va_Qi K (mE L) (mA L sz)) 0 0 (mA L sz) := by
  refine v_start (own := RX3) [(0, .ref (lad L k))] (by decide) rfl (Nat.le_of_ble_eq_true rfl) rfl (fun p e s m args below meth c C hret hlk => ?_)
  unfold w_X3_lettersThatCame at h
  refine v_iconst C (v := 0) dX3_lettersThatCame_0 rfl ?_
  refine v_istore_n C [(1, .int 0), (0, .ref (lad L k))] dX3_lettersThatCame_1 rfl (by decide) rfl ?_
  refine v_iconst C (v := 0) dX3_lettersThatCame_2 rfl ?_
  refine v_istore_n C [(2, .int 0), (1, .int 0), (0, .ref (lad L k))] dX3_lettersThatCame_3 rfl (by decide) rfl ?_
  obtain ⟨n3, h⟩ := h
  refine v_sub [2, 1, 0] rfl ?_
  exact b_X3_lettersThatCame_4 C hret hlk k hk K   n3 _ _ _  h
theorem hd_X3_lettersThatCame : yX3_lettersThatCame.cls ≠ "java/lang/invoke/MethodHandle" ∧ yX3_lettersThatCame.cls ≠ "java/lang/invoke/VarHandle" ∧ (parseMethodDescriptor yX3_lettersThatCame.desc).map (fun d => d.parameters.length) = some 0 := by decide +kernel
theorem k_X3_lettersThatCame {p : Program} {l : Launch} {e : Env} {R : Room} {s : State} {m : MethodId} {args : Array Value} {below : List Frame} {meth : Method} {c : Code} {nL cells slots : Nat} {Q : State → Prop} {A : Nat → Prop} {L : Ly} {own : String} {cc : ByteArray} {σ : Mem} {pc idx : Nat} {lv : List (Nat × Value)} {st : List Value} {K : Int32 → Mem → Prop} (C : Cx p R s m args meth c own cc nL cells slots A L) (k : Nat) (hk : kd k = 3) (h : w_X3_lettersThatCame k σ K) (hml : Cond.methodLink own idx yX3_lettersThatCame ∈ wA) (hR : rm_X3_lettersThatCame.frames + 1 ≤ R.frames ∧ 8 + (3 + 11) + rm_X3_lettersThatCame.locals ≤ R.locals) (hsum : (st.map fun v => v.category).sum ≤ 8) (d : decode cc pc = .ok (.invokevirtual idx, 3)) (kk : ∀ r σ1, K r σ1 → V p l e R s m args below meth c nL cells slots Q A L σ1 (pc + 3) lv (.int r :: st)) : V p l e R s m args below meth c nL cells slots Q A L σ pc lv (.ref (lad L k) :: st) := v_callVi C [] (fun sz => c_X3_lettersThatCame l L k σ _ hk h sz) mC_X3_lettersThatCame mZ_X3 hd_X3_lettersThatCame mI_X3_lettersThatCame mS_X3_lettersThatCame rfl rfl (c0 := 3) (ci := 3) (by decide) rfl rfl rfl hk hml hR rfl hsum d kk
-- ===== RX3.placeOf
abbrev rm_X3_placeOf : Room := { frames := 1, cells := 0, slots := 0, locals := 21 }
def w_X3_placeOf_4 (k : Nat) (a1 : Int32) (K : Int32 → Mem → Prop)  : Nat → Int32 → Int32 → Mem → Prop
  | 0, _, _, _ => False
  | n + 1, x2, x3, σ => (br (26 ≤ x3) (K x2 σ) (w_X3_has k x3 σ (fun r2 σ1 => (br (r2 = 0) (w_X3_placeOf_4 k a1 K  n x2 (x3 + 1) σ1) (vp_in x3 26 ∧ (vp_in a1 26 ∧ (br ((σ1 (k + 1) (ix a1)) < (σ1 (k + 1) (ix x3))) (w_X3_placeOf_4 k a1 K  n (x2 + 1) (x3 + 1) σ1) (vp_in x3 26 ∧ (vp_in a1 26 ∧ (br ((σ1 (k + 1) (ix x3)) = (σ1 (k + 1) (ix a1))) (br (a1 ≤ x3) (w_X3_placeOf_4 k a1 K  n x2 (x3 + 1) σ1) (w_X3_placeOf_4 k a1 K  n (x2 + 1) (x3 + 1) σ1)) (w_X3_placeOf_4 k a1 K  n x2 (x3 + 1) σ1)))))))))))
set_option maxHeartbeats 4000000 in
set_option maxRecDepth 100000 in
theorem b_X3_placeOf_4 {p : Program} {l : Launch} {e : Env} {s : State} {m : MethodId} {args : Array Value} {below : List Frame} {meth : Method} {c : Code} {L : Ly} {sz : Nat} (C : Cx p rm_X3_placeOf s m args meth c RX3 cX3_placeOf 4 0 0 (mA L sz) L) (hret : meth.sig.returnType = (some .int)) (hlk : meth.locks = false) (k : Nat) (a1 : Int32) (hk : kd k = 3) (K : Int32 → Mem → Prop)  : ∀ (n : Nat) (x2 : Int32) (x3 : Int32) (σ : Mem), w_X3_placeOf_4 k a1 K  n x2 x3 σ → V p l e rm_X3_placeOf s m args below meth c 4 0 0 (MQ below (va_Qi K (mE L) (mA L sz)) args s 0 0 (mA L sz)) (mA L sz) L σ 4 [(0, .ref (lad L k)), (1, .int a1), (2, .int x2), (3, .int x3)] [] := by
  intro n
  induction n with
  | zero => intro x2 x3 σ  h; exact h.elim
  | succ n ih =>
    intro x2 x3 σ  h
    rw [w_X3_placeOf_4] at h
    refine v_iload_n C dX3_placeOf_4 rfl 3 rfl ?_
    refine v_bipush C (v := 26) dX3_placeOf_5 rfl ?_
    refine v_icmp_ge C (tgt := 62) dX3_placeOf_7 (by decide) (fun hc => ?_) (fun hc => ?_)
    · replace h := h.1 hc
      refine v_iload_n C dX3_placeOf_62 rfl 2 rfl ?_
      exact v_iret C dX3_placeOf_63 hret hlk h
    · replace h := h.2 hc
      refine v_aload_n C dX3_placeOf_10 rfl 0 rfl ?_
      refine v_iload_n C dX3_placeOf_11 rfl 3 rfl ?_
      refine k_X3_has C k x3 hk h mM_X3_43 ⟨Nat.le_of_ble_eq_true rfl, Nat.le_of_ble_eq_true rfl⟩ (Nat.le_of_ble_eq_true rfl) dX3_placeOf_12 (fun r2 σ1 h => ?_)
      refine v_if_eq C (tgt := 56) dX3_placeOf_15 (by decide) (fun hc => ?_) (fun hc => ?_)
      · replace h := h.1 hc
        refine v_iinc C [(3, .int (x3 + 1)), (0, .ref (lad L k)), (1, .int a1), (2, .int x2)] dX3_placeOf_56 3 rfl rfl (by decide) rfl ?_
        refine v_goto C (tgt := 4) dX3_placeOf_59 (by decide) ?_
        refine v_sub [1, 2, 3, 0] rfl ?_
        exact ih _ _ _  h
      · replace h := h.2 hc
        refine v_aload_n C dX3_placeOf_18 rfl 0 rfl ?_
        refine g_3_counts C hk mF_X3_24 dX3_placeOf_19 ?_
        refine v_iload_n C dX3_placeOf_22 rfl 3 rfl ?_
        obtain ⟨hi3, h⟩ := h
        refine v_iald C (c0 := 20) (by decide) rfl (kd_3_1 hk) hi3 dX3_placeOf_23 ?_
        refine v_aload_n C dX3_placeOf_24 rfl 0 rfl ?_
        refine g_3_counts C hk mF_X3_24 dX3_placeOf_25 ?_
        refine v_iload_n C dX3_placeOf_28 rfl 1 rfl ?_
        obtain ⟨hi4, h⟩ := h
        refine v_iald C (c0 := 20) (by decide) rfl (kd_3_1 hk) hi4 dX3_placeOf_29 ?_
        refine v_icmp_gt C (tgt := 53) dX3_placeOf_30 (by decide) (fun hc => ?_) (fun hc => ?_)
        · replace h := h.1 hc
          refine v_iinc C [(2, .int (x2 + 1)), (0, .ref (lad L k)), (1, .int a1), (3, .int x3)] dX3_placeOf_53 2 rfl rfl (by decide) rfl ?_
          refine v_iinc C [(3, .int (x3 + 1)), (2, .int (x2 + 1)), (0, .ref (lad L k)), (1, .int a1)] dX3_placeOf_56 3 rfl rfl (by decide) rfl ?_
          refine v_goto C (tgt := 4) dX3_placeOf_59 (by decide) ?_
          refine v_sub [2, 3, 1, 0] rfl ?_
          exact ih _ _ _  h
        · replace h := h.2 hc
          refine v_aload_n C dX3_placeOf_33 rfl 0 rfl ?_
          refine g_3_counts C hk mF_X3_24 dX3_placeOf_34 ?_
          refine v_iload_n C dX3_placeOf_37 rfl 3 rfl ?_
          obtain ⟨hi5, h⟩ := h
          refine v_iald C (c0 := 20) (by decide) rfl (kd_3_1 hk) hi5 dX3_placeOf_38 ?_
          refine v_aload_n C dX3_placeOf_39 rfl 0 rfl ?_
          refine g_3_counts C hk mF_X3_24 dX3_placeOf_40 ?_
          refine v_iload_n C dX3_placeOf_43 rfl 1 rfl ?_
          obtain ⟨hi6, h⟩ := h
          refine v_iald C (c0 := 20) (by decide) rfl (kd_3_1 hk) hi6 dX3_placeOf_44 ?_
          refine v_icmp_ne C (tgt := 56) dX3_placeOf_45 (by decide) (fun hc => ?_) (fun hc => ?_)
          · replace h := h.2 hc
            refine v_iinc C [(3, .int (x3 + 1)), (0, .ref (lad L k)), (1, .int a1), (2, .int x2)] dX3_placeOf_56 3 rfl rfl (by decide) rfl ?_
            refine v_goto C (tgt := 4) dX3_placeOf_59 (by decide) ?_
            refine v_sub [1, 2, 3, 0] rfl ?_
            exact ih _ _ _  h
          · replace h := h.1 hc
            refine v_iload_n C dX3_placeOf_48 rfl 3 rfl ?_
            refine v_iload_n C dX3_placeOf_49 rfl 1 rfl ?_
            refine v_icmp_ge C (tgt := 56) dX3_placeOf_50 (by decide) (fun hc => ?_) (fun hc => ?_)
            · replace h := h.1 hc
              refine v_iinc C [(3, .int (x3 + 1)), (0, .ref (lad L k)), (1, .int a1), (2, .int x2)] dX3_placeOf_56 3 rfl rfl (by decide) rfl ?_
              refine v_goto C (tgt := 4) dX3_placeOf_59 (by decide) ?_
              refine v_sub [1, 2, 3, 0] rfl ?_
              exact ih _ _ _  h
            · replace h := h.2 hc
              refine v_iinc C [(2, .int (x2 + 1)), (0, .ref (lad L k)), (1, .int a1), (3, .int x3)] dX3_placeOf_53 2 rfl rfl (by decide) rfl ?_
              refine v_iinc C [(3, .int (x3 + 1)), (2, .int (x2 + 1)), (0, .ref (lad L k)), (1, .int a1)] dX3_placeOf_56 3 rfl rfl (by decide) rfl ?_
              refine v_goto C (tgt := 4) dX3_placeOf_59 (by decide) ?_
              refine v_sub [2, 3, 1, 0] rfl ?_
              exact ih _ _ _  h
def w_X3_placeOf (k : Nat) (a1 : Int32) (σ : Mem) (K : Int32 → Mem → Prop) : Prop := (∃ n7, w_X3_placeOf_4 k a1 K  n7 0 0 σ)
set_option maxHeartbeats 4000000 in
set_option maxRecDepth 100000 in
theorem c_X3_placeOf (l : Launch) (L : Ly) (k : Nat) (a1 : Int32) (σ : Mem) (K : Int32 → Mem → Prop) (hk : kd k = 3) (h : w_X3_placeOf k a1 σ K) (sz : Nat) : Met l yX3_placeOf (.code yX3_placeOf cX3_placeOf 4 (some .int) :: wA) rm_X3_placeOf (va_Pc [.ref (lad L k), .int a1] (mB L sz σ)) (va_Qi K (mE L) (mA L sz)) 0 0 (mA L sz) := by
  refine v_start (own := RX3) [(0, .ref (lad L k)), (1, .int a1)] (by decide) rfl (Nat.le_of_ble_eq_true rfl) rfl (fun p e s m args below meth c C hret hlk => ?_)
  unfold w_X3_placeOf at h
  refine v_iconst C (v := 0) dX3_placeOf_0 rfl ?_
  refine v_istore_n C [(2, .int 0), (0, .ref (lad L k)), (1, .int a1)] dX3_placeOf_1 rfl (by decide) rfl ?_
  refine v_iconst C (v := 0) dX3_placeOf_2 rfl ?_
  refine v_istore_n C [(3, .int 0), (2, .int 0), (0, .ref (lad L k)), (1, .int a1)] dX3_placeOf_3 rfl (by decide) rfl ?_
  obtain ⟨n7, h⟩ := h
  refine v_sub [2, 3, 1, 0] rfl ?_
  exact b_X3_placeOf_4 C hret hlk k a1 hk K   n7 _ _ _  h
theorem hd_X3_placeOf : yX3_placeOf.cls ≠ "java/lang/invoke/MethodHandle" ∧ yX3_placeOf.cls ≠ "java/lang/invoke/VarHandle" ∧ (parseMethodDescriptor yX3_placeOf.desc).map (fun d => d.parameters.length) = some 1 := by decide +kernel
theorem k_X3_placeOf {p : Program} {l : Launch} {e : Env} {R : Room} {s : State} {m : MethodId} {args : Array Value} {below : List Frame} {meth : Method} {c : Code} {nL cells slots : Nat} {Q : State → Prop} {A : Nat → Prop} {L : Ly} {own : String} {cc : ByteArray} {σ : Mem} {pc idx : Nat} {lv : List (Nat × Value)} {st : List Value} {K : Int32 → Mem → Prop} (C : Cx p R s m args meth c own cc nL cells slots A L) (k : Nat) (a1 : Int32) (hk : kd k = 3) (h : w_X3_placeOf k a1 σ K) (hml : Cond.methodLink own idx yX3_placeOf ∈ wA) (hR : rm_X3_placeOf.frames + 1 ≤ R.frames ∧ 8 + (4 + 11) + rm_X3_placeOf.locals ≤ R.locals) (hsum : (st.map fun v => v.category).sum ≤ 8) (d : decode cc pc = .ok (.invokevirtual idx, 3)) (kk : ∀ r σ1, K r σ1 → V p l e R s m args below meth c nL cells slots Q A L σ1 (pc + 3) lv (.int r :: st)) : V p l e R s m args below meth c nL cells slots Q A L σ pc lv (.int a1 :: .ref (lad L k) :: st) := v_callVi C [.int a1] (fun sz => c_X3_placeOf l L k a1 σ _ hk h sz) mC_X3_placeOf mZ_X3 hd_X3_placeOf mI_X3_placeOf mS_X3_placeOf rfl rfl (c0 := 3) (ci := 3) (by decide) rfl rfl rfl hk hml hR rfl hsum d kk
-- ===== RX3.letterAt
abbrev rm_X3_letterAt : Room := { frames := 2, cells := 0, slots := 0, locals := 44 }
def w_X3_letterAt_2 (k : Nat) (a1 : Int32) (K : Int32 → Mem → Prop)  : Nat → Int32 → Mem → Prop
  | 0, _, _ => False
  | n + 1, x2, σ => (br (26 ≤ x2) (K (-1) σ) (w_X3_has k x2 σ (fun r2 σ1 => (br (r2 = 0) (w_X3_letterAt_2 k a1 K  n (x2 + 1) σ1) (w_X3_placeOf k x2 σ1 (fun r4 σ3 => (br (r4 = a1) (K x2 σ3) (w_X3_letterAt_2 k a1 K  n (x2 + 1) σ3))))))))
set_option maxHeartbeats 4000000 in
set_option maxRecDepth 100000 in
theorem b_X3_letterAt_2 {p : Program} {l : Launch} {e : Env} {s : State} {m : MethodId} {args : Array Value} {below : List Frame} {meth : Method} {c : Code} {L : Ly} {sz : Nat} (C : Cx p rm_X3_letterAt s m args meth c RX3 cX3_letterAt 3 0 0 (mA L sz) L) (hret : meth.sig.returnType = (some .int)) (hlk : meth.locks = false) (k : Nat) (a1 : Int32) (hk : kd k = 3) (K : Int32 → Mem → Prop)  : ∀ (n : Nat) (x2 : Int32) (σ : Mem), w_X3_letterAt_2 k a1 K  n x2 σ → V p l e rm_X3_letterAt s m args below meth c 3 0 0 (MQ below (va_Qi K (mE L) (mA L sz)) args s 0 0 (mA L sz)) (mA L sz) L σ 2 [(0, .ref (lad L k)), (1, .int a1), (2, .int x2)] [] := by
  intro n
  induction n with
  | zero => intro x2 σ  h; exact h.elim
  | succ n ih =>
    intro x2 σ  h
    rw [w_X3_letterAt_2] at h
    refine v_iload_n C dX3_letterAt_2 rfl 2 rfl ?_
    refine v_bipush C (v := 26) dX3_letterAt_3 rfl ?_
    refine v_icmp_ge C (tgt := 33) dX3_letterAt_5 (by decide) (fun hc => ?_) (fun hc => ?_)
    · replace h := h.1 hc
      refine v_iconst C (v := (-1)) dX3_letterAt_33 rfl ?_
      exact v_iret C dX3_letterAt_34 hret hlk h
    · replace h := h.2 hc
      refine v_aload_n C dX3_letterAt_8 rfl 0 rfl ?_
      refine v_iload_n C dX3_letterAt_9 rfl 2 rfl ?_
      refine k_X3_has C k x2 hk h mM_X3_43 ⟨Nat.le_of_ble_eq_true rfl, Nat.le_of_ble_eq_true rfl⟩ (Nat.le_of_ble_eq_true rfl) dX3_letterAt_10 (fun r2 σ1 h => ?_)
      refine v_if_eq C (tgt := 27) dX3_letterAt_13 (by decide) (fun hc => ?_) (fun hc => ?_)
      · replace h := h.1 hc
        refine v_iinc C [(2, .int (x2 + 1)), (0, .ref (lad L k)), (1, .int a1)] dX3_letterAt_27 2 rfl rfl (by decide) rfl ?_
        refine v_goto C (tgt := 2) dX3_letterAt_30 (by decide) ?_
        refine v_sub [1, 2, 0] rfl ?_
        exact ih _ _  h
      · replace h := h.2 hc
        refine v_aload_n C dX3_letterAt_16 rfl 0 rfl ?_
        refine v_iload_n C dX3_letterAt_17 rfl 2 rfl ?_
        refine k_X3_placeOf C k x2 hk h mM_X3_92 ⟨Nat.le_of_ble_eq_true rfl, Nat.le_of_ble_eq_true rfl⟩ (Nat.le_of_ble_eq_true rfl) dX3_letterAt_18 (fun r4 σ3 h => ?_)
        refine v_iload_n C dX3_letterAt_21 rfl 1 rfl ?_
        refine v_icmp_ne C (tgt := 27) dX3_letterAt_22 (by decide) (fun hc => ?_) (fun hc => ?_)
        · replace h := h.2 hc
          refine v_iinc C [(2, .int (x2 + 1)), (0, .ref (lad L k)), (1, .int a1)] dX3_letterAt_27 2 rfl rfl (by decide) rfl ?_
          refine v_goto C (tgt := 2) dX3_letterAt_30 (by decide) ?_
          refine v_sub [1, 2, 0] rfl ?_
          exact ih _ _  h
        · replace h := h.1 hc
          refine v_iload_n C dX3_letterAt_25 rfl 2 rfl ?_
          exact v_iret C dX3_letterAt_26 hret hlk h
def w_X3_letterAt (k : Nat) (a1 : Int32) (σ : Mem) (K : Int32 → Mem → Prop) : Prop := (∃ n5, w_X3_letterAt_2 k a1 K  n5 0 σ)
set_option maxHeartbeats 4000000 in
set_option maxRecDepth 100000 in
theorem c_X3_letterAt (l : Launch) (L : Ly) (k : Nat) (a1 : Int32) (σ : Mem) (K : Int32 → Mem → Prop) (hk : kd k = 3) (h : w_X3_letterAt k a1 σ K) (sz : Nat) : Met l yX3_letterAt (.code yX3_letterAt cX3_letterAt 3 (some .int) :: wA) rm_X3_letterAt (va_Pc [.ref (lad L k), .int a1] (mB L sz σ)) (va_Qi K (mE L) (mA L sz)) 0 0 (mA L sz) := by
  refine v_start (own := RX3) [(0, .ref (lad L k)), (1, .int a1)] (by decide) rfl (Nat.le_of_ble_eq_true rfl) rfl (fun p e s m args below meth c C hret hlk => ?_)
  unfold w_X3_letterAt at h
  refine v_iconst C (v := 0) dX3_letterAt_0 rfl ?_
  refine v_istore_n C [(2, .int 0), (0, .ref (lad L k)), (1, .int a1)] dX3_letterAt_1 rfl (by decide) rfl ?_
  obtain ⟨n5, h⟩ := h
  refine v_sub [1, 2, 0] rfl ?_
  exact b_X3_letterAt_2 C hret hlk k a1 hk K   n5 _ _  h
theorem hd_X3_letterAt : yX3_letterAt.cls ≠ "java/lang/invoke/MethodHandle" ∧ yX3_letterAt.cls ≠ "java/lang/invoke/VarHandle" ∧ (parseMethodDescriptor yX3_letterAt.desc).map (fun d => d.parameters.length) = some 1 := by decide +kernel
theorem k_X3_letterAt {p : Program} {l : Launch} {e : Env} {R : Room} {s : State} {m : MethodId} {args : Array Value} {below : List Frame} {meth : Method} {c : Code} {nL cells slots : Nat} {Q : State → Prop} {A : Nat → Prop} {L : Ly} {own : String} {cc : ByteArray} {σ : Mem} {pc idx : Nat} {lv : List (Nat × Value)} {st : List Value} {K : Int32 → Mem → Prop} (C : Cx p R s m args meth c own cc nL cells slots A L) (k : Nat) (a1 : Int32) (hk : kd k = 3) (h : w_X3_letterAt k a1 σ K) (hml : Cond.methodLink own idx yX3_letterAt ∈ wA) (hR : rm_X3_letterAt.frames + 1 ≤ R.frames ∧ 8 + (3 + 11) + rm_X3_letterAt.locals ≤ R.locals) (hsum : (st.map fun v => v.category).sum ≤ 8) (d : decode cc pc = .ok (.invokevirtual idx, 3)) (kk : ∀ r σ1, K r σ1 → V p l e R s m args below meth c nL cells slots Q A L σ1 (pc + 3) lv (.int r :: st)) : V p l e R s m args below meth c nL cells slots Q A L σ pc lv (.int a1 :: .ref (lad L k) :: st) := v_callVi C [.int a1] (fun sz => c_X3_letterAt l L k a1 σ _ hk h sz) mC_X3_letterAt mZ_X3 hd_X3_letterAt mI_X3_letterAt mS_X3_letterAt rfl rfl (c0 := 3) (ci := 3) (by decide) rfl rfl rfl hk hml hR rfl hsum d kk
-- ===== RX3.lettersAhead
abbrev rm_X3_lettersAhead : Room := { frames := 2, cells := 0, slots := 0, locals := 42 }
def w_X3_lettersAhead_50 (k : Nat) (a1 : Int32) (a2 : Int32) (K : Int32 → Mem → Prop) (A24 : Int32 → Int32 → Int32 → Mem → Prop) (x3 : Int32) (x4 : Int32) (x5 : Int32) (s0 : Int32) (σ : Mem) : Prop := (br (x5 = a1) (A24 x3 x4 (x5 + 1) σ) (br (s0 ≤ x3) (A24 x3 x4 (x5 + 1) σ) (A24 x3 (x4 + 1) (x5 + 1) σ)))
set_option maxHeartbeats 4000000 in
set_option maxRecDepth 100000 in
theorem b_X3_lettersAhead_50 {p : Program} {l : Launch} {e : Env} {s : State} {m : MethodId} {args : Array Value} {below : List Frame} {meth : Method} {c : Code} {L : Ly} {sz : Nat} (C : Cx p rm_X3_lettersAhead s m args meth c RX3 cX3_lettersAhead 7 0 0 (mA L sz) L) (hret : meth.sig.returnType = (some .int)) (hlk : meth.locks = false) (k : Nat) (a1 : Int32) (a2 : Int32) (hk : kd k = 3) (K : Int32 → Mem → Prop) (A24 : Int32 → Int32 → Int32 → Mem → Prop) (hA24 : ∀ (x3 : Int32) (x4 : Int32) (x5 : Int32) (σ : Mem), A24 x3 x4 x5 σ → V p l e rm_X3_lettersAhead s m args below meth c 7 0 0 (MQ below (va_Qi K (mE L) (mA L sz)) args s 0 0 (mA L sz)) (mA L sz) L σ 24 [(0, .ref (lad L k)), (1, .int a1), (2, .int a2), (3, .int x3), (4, .int x4), (5, .int x5)] []) (x3 : Int32) (x4 : Int32) (x5 : Int32) (s0 : Int32) (σ : Mem)  (h : w_X3_lettersAhead_50 k a1 a2 K A24 x3 x4 x5 s0 σ) : V p l e rm_X3_lettersAhead s m args below meth c 7 0 0 (MQ below (va_Qi K (mE L) (mA L sz)) args s 0 0 (mA L sz)) (mA L sz) L σ 50 [(0, .ref (lad L k)), (1, .int a1), (2, .int a2), (3, .int x3), (4, .int x4), (5, .int x5)] [.int s0] := by
  unfold w_X3_lettersAhead_50 at h
  refine v_istore C [(6, .int s0), (0, .ref (lad L k)), (1, .int a1), (2, .int a2), (3, .int x3), (4, .int x4), (5, .int x5)] dX3_lettersAhead_50 (by decide) rfl ?_
  refine v_iload C dX3_lettersAhead_52 6 rfl ?_
  refine v_iload_n C dX3_lettersAhead_54 rfl 2 rfl ?_
  refine v_icmp_eq C (tgt := 67) dX3_lettersAhead_55 (by decide) (fun hc => ?_) (fun hc => ?_)
  · replace h := h.1 hc
    refine v_iinc C [(5, .int (x5 + 1)), (6, .int s0), (0, .ref (lad L k)), (1, .int a1), (2, .int a2), (3, .int x3), (4, .int x4)] dX3_lettersAhead_67 6 rfl rfl (by decide) rfl ?_
    refine v_goto C (tgt := 24) dX3_lettersAhead_70 (by decide) ?_
    refine v_sub [2, 3, 4, 5, 6, 0] rfl ?_
    exact hA24 _ _ _ _  h
  · replace h := h.2 hc
    refine v_iload C dX3_lettersAhead_58 0 rfl ?_
    refine v_iload_n C dX3_lettersAhead_60 rfl 4 rfl ?_
    refine v_icmp_le C (tgt := 67) dX3_lettersAhead_61 (by decide) (fun hc => ?_) (fun hc => ?_)
    · replace h := h.1 hc
      refine v_iinc C [(5, .int (x5 + 1)), (6, .int s0), (0, .ref (lad L k)), (1, .int a1), (2, .int a2), (3, .int x3), (4, .int x4)] dX3_lettersAhead_67 6 rfl rfl (by decide) rfl ?_
      refine v_goto C (tgt := 24) dX3_lettersAhead_70 (by decide) ?_
      refine v_sub [2, 3, 4, 5, 6, 0] rfl ?_
      exact hA24 _ _ _ _  h
    · replace h := h.2 hc
      refine v_iinc C [(4, .int (x4 + 1)), (6, .int s0), (0, .ref (lad L k)), (1, .int a1), (2, .int a2), (3, .int x3), (5, .int x5)] dX3_lettersAhead_64 5 rfl rfl (by decide) rfl ?_
      refine v_iinc C [(5, .int (x5 + 1)), (4, .int (x4 + 1)), (6, .int s0), (0, .ref (lad L k)), (1, .int a1), (2, .int a2), (3, .int x3)] dX3_lettersAhead_67 6 rfl rfl (by decide) rfl ?_
      refine v_goto C (tgt := 24) dX3_lettersAhead_70 (by decide) ?_
      refine v_sub [3, 4, 5, 6, 1, 0] rfl ?_
      exact hA24 _ _ _ _  h
def w_X3_lettersAhead_24 (k : Nat) (a1 : Int32) (a2 : Int32) (K : Int32 → Mem → Prop)  : Nat → Int32 → Int32 → Int32 → Mem → Prop
  | 0, _, _, _, _ => False
  | n + 1, x3, x4, x5, σ => (br (26 ≤ x5) (K x4 σ) (br (a2 = 0) (w_X3_lower k x5 σ (fun r4 σ3 => (w_X3_lettersAhead_50 k a1 a2 K (w_X3_lettersAhead_24 k a1 a2 K  n) x3 x4 x5 r4 σ3))) (w_X3_upper k x5 σ (fun r6 σ5 => (w_X3_lettersAhead_50 k a1 a2 K (w_X3_lettersAhead_24 k a1 a2 K  n) x3 x4 x5 r6 σ5)))))
set_option maxHeartbeats 4000000 in
set_option maxRecDepth 100000 in
theorem b_X3_lettersAhead_24 {p : Program} {l : Launch} {e : Env} {s : State} {m : MethodId} {args : Array Value} {below : List Frame} {meth : Method} {c : Code} {L : Ly} {sz : Nat} (C : Cx p rm_X3_lettersAhead s m args meth c RX3 cX3_lettersAhead 7 0 0 (mA L sz) L) (hret : meth.sig.returnType = (some .int)) (hlk : meth.locks = false) (k : Nat) (a1 : Int32) (a2 : Int32) (hk : kd k = 3) (K : Int32 → Mem → Prop)  : ∀ (n : Nat) (x3 : Int32) (x4 : Int32) (x5 : Int32) (σ : Mem), w_X3_lettersAhead_24 k a1 a2 K  n x3 x4 x5 σ → V p l e rm_X3_lettersAhead s m args below meth c 7 0 0 (MQ below (va_Qi K (mE L) (mA L sz)) args s 0 0 (mA L sz)) (mA L sz) L σ 24 [(0, .ref (lad L k)), (1, .int a1), (2, .int a2), (3, .int x3), (4, .int x4), (5, .int x5)] [] := by
  intro n
  induction n with
  | zero => intro x3 x4 x5 σ  h; exact h.elim
  | succ n ih =>
    intro x3 x4 x5 σ  h
    rw [w_X3_lettersAhead_24] at h
    refine v_iload C dX3_lettersAhead_24 5 rfl ?_
    refine v_bipush C (v := 26) dX3_lettersAhead_26 rfl ?_
    refine v_icmp_ge C (tgt := 73) dX3_lettersAhead_28 (by decide) (fun hc => ?_) (fun hc => ?_)
    · replace h := h.1 hc
      refine v_iload C dX3_lettersAhead_73 4 rfl ?_
      exact v_iret C dX3_lettersAhead_75 hret hlk h
    · replace h := h.2 hc
      refine v_iload_n C dX3_lettersAhead_31 rfl 2 rfl ?_
      refine v_if_eq C (tgt := 44) dX3_lettersAhead_32 (by decide) (fun hc => ?_) (fun hc => ?_)
      · replace h := h.1 hc
        refine v_aload_n C dX3_lettersAhead_44 rfl 0 rfl ?_
        refine v_iload C dX3_lettersAhead_45 5 rfl ?_
        refine k_X3_lower C k x5 hk h mM_X3_95 ⟨Nat.le_of_ble_eq_true rfl, Nat.le_of_ble_eq_true rfl⟩ (Nat.le_of_ble_eq_true rfl) dX3_lettersAhead_47 (fun r4 σ3 h => ?_)
        refine v_sub [0, 1, 2, 3, 4, 5] rfl ?_
        exact b_X3_lettersAhead_50 C hret hlk k a1 a2 hk K _ ih _ _ _ _ _  h
      · replace h := h.2 hc
        refine v_aload_n C dX3_lettersAhead_35 rfl 0 rfl ?_
        refine v_iload C dX3_lettersAhead_36 5 rfl ?_
        refine k_X3_upper C k x5 hk h mM_X3_74 ⟨Nat.le_of_ble_eq_true rfl, Nat.le_of_ble_eq_true rfl⟩ (Nat.le_of_ble_eq_true rfl) dX3_lettersAhead_38 (fun r6 σ5 h => ?_)
        refine v_goto C (tgt := 50) dX3_lettersAhead_41 (by decide) ?_
        refine v_sub [0, 1, 2, 3, 4, 5] rfl ?_
        exact b_X3_lettersAhead_50 C hret hlk k a1 a2 hk K _ ih _ _ _ _ _  h
def w_X3_lettersAhead (k : Nat) (a1 : Int32) (a2 : Int32) (σ : Mem) (K : Int32 → Mem → Prop) : Prop := (br (a2 = 0) (w_X3_upper k a1 σ (fun r2 σ1 => (∃ n7, w_X3_lettersAhead_24 k a1 a2 K  n7 r2 0 0 σ1))) (w_X3_lower k a1 σ (fun r9 σ8 => (∃ n10, w_X3_lettersAhead_24 k a1 a2 K  n10 r9 0 0 σ8))))
set_option maxHeartbeats 4000000 in
set_option maxRecDepth 100000 in
theorem c_X3_lettersAhead (l : Launch) (L : Ly) (k : Nat) (a1 : Int32) (a2 : Int32) (σ : Mem) (K : Int32 → Mem → Prop) (hk : kd k = 3) (h : w_X3_lettersAhead k a1 a2 σ K) (sz : Nat) : Met l yX3_lettersAhead (.code yX3_lettersAhead cX3_lettersAhead 7 (some .int) :: wA) rm_X3_lettersAhead (va_Pc [.ref (lad L k), .int a1, .int a2] (mB L sz σ)) (va_Qi K (mE L) (mA L sz)) 0 0 (mA L sz) := by
  refine v_start (own := RX3) [(0, .ref (lad L k)), (1, .int a1), (2, .int a2)] (by decide) rfl (Nat.le_of_ble_eq_true rfl) rfl (fun p e s m args below meth c C hret hlk => ?_)
  unfold w_X3_lettersAhead at h
  refine v_iload_n C dX3_lettersAhead_0 rfl 2 rfl ?_
  refine v_if_eq C (tgt := 12) dX3_lettersAhead_1 (by decide) (fun hc => ?_) (fun hc => ?_)
  · replace h := h.1 hc
    refine v_aload_n C dX3_lettersAhead_12 rfl 0 rfl ?_
    refine v_iload_n C dX3_lettersAhead_13 rfl 1 rfl ?_
    refine k_X3_upper C k a1 hk h mM_X3_74 ⟨Nat.le_of_ble_eq_true rfl, Nat.le_of_ble_eq_true rfl⟩ (Nat.le_of_ble_eq_true rfl) dX3_lettersAhead_14 (fun r2 σ1 h => ?_)
    refine v_istore_n C [(3, .int r2), (0, .ref (lad L k)), (1, .int a1), (2, .int a2)] dX3_lettersAhead_17 rfl (by decide) rfl ?_
    refine v_iconst C (v := 0) dX3_lettersAhead_18 rfl ?_
    refine v_istore C [(4, .int 0), (3, .int r2), (0, .ref (lad L k)), (1, .int a1), (2, .int a2)] dX3_lettersAhead_19 (by decide) rfl ?_
    refine v_iconst C (v := 0) dX3_lettersAhead_21 rfl ?_
    refine v_istore C [(5, .int 0), (4, .int 0), (3, .int r2), (0, .ref (lad L k)), (1, .int a1), (2, .int a2)] dX3_lettersAhead_22 (by decide) rfl ?_
    obtain ⟨n7, h⟩ := h
    refine v_sub [3, 4, 5, 2, 1, 0] rfl ?_
    exact b_X3_lettersAhead_24 C hret hlk k a1 a2 hk K   n7 _ _ _ _  h
  · replace h := h.2 hc
    refine v_aload_n C dX3_lettersAhead_4 rfl 0 rfl ?_
    refine v_iload_n C dX3_lettersAhead_5 rfl 1 rfl ?_
    refine k_X3_lower C k a1 hk h mM_X3_95 ⟨Nat.le_of_ble_eq_true rfl, Nat.le_of_ble_eq_true rfl⟩ (Nat.le_of_ble_eq_true rfl) dX3_lettersAhead_6 (fun r9 σ8 h => ?_)
    refine v_goto C (tgt := 17) dX3_lettersAhead_9 (by decide) ?_
    refine v_istore_n C [(3, .int r9), (0, .ref (lad L k)), (1, .int a1), (2, .int a2)] dX3_lettersAhead_17 rfl (by decide) rfl ?_
    refine v_iconst C (v := 0) dX3_lettersAhead_18 rfl ?_
    refine v_istore C [(4, .int 0), (3, .int r9), (0, .ref (lad L k)), (1, .int a1), (2, .int a2)] dX3_lettersAhead_19 (by decide) rfl ?_
    refine v_iconst C (v := 0) dX3_lettersAhead_21 rfl ?_
    refine v_istore C [(5, .int 0), (4, .int 0), (3, .int r9), (0, .ref (lad L k)), (1, .int a1), (2, .int a2)] dX3_lettersAhead_22 (by decide) rfl ?_
    obtain ⟨n10, h⟩ := h
    refine v_sub [3, 4, 5, 2, 1, 0] rfl ?_
    exact b_X3_lettersAhead_24 C hret hlk k a1 a2 hk K   n10 _ _ _ _  h
theorem hd_X3_lettersAhead : yX3_lettersAhead.cls ≠ "java/lang/invoke/MethodHandle" ∧ yX3_lettersAhead.cls ≠ "java/lang/invoke/VarHandle" ∧ (parseMethodDescriptor yX3_lettersAhead.desc).map (fun d => d.parameters.length) = some 2 := by decide +kernel
theorem k_X3_lettersAhead {p : Program} {l : Launch} {e : Env} {R : Room} {s : State} {m : MethodId} {args : Array Value} {below : List Frame} {meth : Method} {c : Code} {nL cells slots : Nat} {Q : State → Prop} {A : Nat → Prop} {L : Ly} {own : String} {cc : ByteArray} {σ : Mem} {pc idx : Nat} {lv : List (Nat × Value)} {st : List Value} {K : Int32 → Mem → Prop} (C : Cx p R s m args meth c own cc nL cells slots A L) (k : Nat) (a1 : Int32) (a2 : Int32) (hk : kd k = 3) (h : w_X3_lettersAhead k a1 a2 σ K) (hml : Cond.methodLink own idx yX3_lettersAhead ∈ wA) (hR : rm_X3_lettersAhead.frames + 1 ≤ R.frames ∧ 8 + (7 + 11) + rm_X3_lettersAhead.locals ≤ R.locals) (hsum : (st.map fun v => v.category).sum ≤ 8) (d : decode cc pc = .ok (.invokevirtual idx, 3)) (kk : ∀ r σ1, K r σ1 → V p l e R s m args below meth c nL cells slots Q A L σ1 (pc + 3) lv (.int r :: st)) : V p l e R s m args below meth c nL cells slots Q A L σ pc lv (.int a2 :: .int a1 :: .ref (lad L k) :: st) := v_callVi C [.int a1, .int a2] (fun sz => c_X3_lettersAhead l L k a1 a2 σ _ hk h sz) mC_X3_lettersAhead mZ_X3 hd_X3_lettersAhead mI_X3_lettersAhead mS_X3_lettersAhead rfl rfl (c0 := 3) (ci := 3) (by decide) rfl rfl rfl hk hml hR rfl hsum d kk
end
