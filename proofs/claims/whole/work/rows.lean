section
-- ===== PART A: goes FIRST, ahead of the names: the tables' words, and 'selects' of the private methods out of them =====
/-- a private method of a class that the tables say can be made, by its rows of tables_1 -/
def lw_okq (q : MethodName × Nat) : Prop := (q.1.cls ≠ "java/lang/invoke/MethodHandle" ∧ q.1.cls ≠ "java/lang/invoke/VarHandle") ∧ Cond.instantiable q.1.cls q.2 ∈ tables_1 ∧ Cond.privateMethod q.1 ∈ tables_1 ∧ Cond.instanceMethod q.1 ∈ tables_1
theorem lw_p0 : lw_okq (⟨"SendForMore", "refuse", "(I)I"⟩, 18) := ⟨⟨by decide +kernel, by decide +kernel⟩, List.mem_of_getElem? (i := 17) (by decide +kernel), List.mem_of_getElem? (i := 281) (by decide +kernel), List.mem_of_getElem? (i := 282) (by decide +kernel)⟩
theorem lw_p1 : lw_okq (⟨"SendForMore", "keep", "(LSendForMore$Rule;)I"⟩, 18) := ⟨⟨by decide +kernel, by decide +kernel⟩, List.mem_of_getElem? (i := 17) (by decide +kernel), List.mem_of_getElem? (i := 356) (by decide +kernel), List.mem_of_getElem? (i := 357) (by decide +kernel)⟩
theorem lw_p2 : lw_okq (⟨"SendForMore", "isRule", "(I)Z"⟩, 18) := ⟨⟨by decide +kernel, by decide +kernel⟩, List.mem_of_getElem? (i := 17) (by decide +kernel), List.mem_of_getElem? (i := 411) (by decide +kernel), List.mem_of_getElem? (i := 412) (by decide +kernel)⟩
theorem lw_p3 : lw_okq (⟨"SendForMore", "isStart", "(III)Z"⟩, 18) := ⟨⟨by decide +kernel, by decide +kernel⟩, List.mem_of_getElem? (i := 17) (by decide +kernel), List.mem_of_getElem? (i := 529) (by decide +kernel), List.mem_of_getElem? (i := 530) (by decide +kernel)⟩
theorem lw_p4 : lw_okq (⟨"SendForMore$Shop", "reckonDemand", "(III)V"⟩, 10) := ⟨⟨by decide +kernel, by decide +kernel⟩, List.mem_of_getElem? (i := 31) (by decide +kernel), List.mem_of_getElem? (i := 551) (by decide +kernel), List.mem_of_getElem? (i := 552) (by decide +kernel)⟩
theorem lw_p5 : lw_okq (⟨"SendForMore$Walk", "begin", "(I)V"⟩, 8) := ⟨⟨by decide +kernel, by decide +kernel⟩, List.mem_of_getElem? (i := 119) (by decide +kernel), List.mem_of_getElem? (i := 572) (by decide +kernel), List.mem_of_getElem? (i := 573) (by decide +kernel)⟩
theorem lw_p6 : lw_okq (⟨"SendForMore$Walk", "passDay", "(LSendForMore$Book;)V"⟩, 8) := ⟨⟨by decide +kernel, by decide +kernel⟩, List.mem_of_getElem? (i := 119) (by decide +kernel), List.mem_of_getElem? (i := 598) (by decide +kernel), List.mem_of_getElem? (i := 599) (by decide +kernel)⟩
theorem lw_p7 : lw_okq (⟨"SendForMore$Walk", "passFrom", "(ILSendForMore$Book;I)V"⟩, 8) := ⟨⟨by decide +kernel, by decide +kernel⟩, List.mem_of_getElem? (i := 119) (by decide +kernel), List.mem_of_getElem? (i := 608) (by decide +kernel), List.mem_of_getElem? (i := 609) (by decide +kernel)⟩
theorem lw_p8 : lw_okq (⟨"SendForMore$Walk", "orderAt", "(I)I"⟩, 8) := ⟨⟨by decide +kernel, by decide +kernel⟩, List.mem_of_getElem? (i := 119) (by decide +kernel), List.mem_of_getElem? (i := 612) (by decide +kernel), List.mem_of_getElem? (i := 613) (by decide +kernel)⟩
theorem lw_p9 : lw_okq (⟨"SendForMore", "tell", "(JJ)I"⟩, 18) := ⟨⟨by decide +kernel, by decide +kernel⟩, List.mem_of_getElem? (i := 17) (by decide +kernel), List.mem_of_getElem? (i := 654) (by decide +kernel), List.mem_of_getElem? (i := 655) (by decide +kernel)⟩
theorem lw_p10 : lw_okq (⟨"SendForMore$Planner", "turnTo", "(LSendForMore$Book;I)V"⟩, 7) := ⟨⟨by decide +kernel, by decide +kernel⟩, List.mem_of_getElem? (i := 153) (by decide +kernel), List.mem_of_getElem? (i := 682) (by decide +kernel), List.mem_of_getElem? (i := 683) (by decide +kernel)⟩
theorem lw_p11 : lw_okq (⟨"SendForMore$Planner", "usefulOrder", "(II)I"⟩, 7) := ⟨⟨by decide +kernel, by decide +kernel⟩, List.mem_of_getElem? (i := 153) (by decide +kernel), List.mem_of_getElem? (i := 687) (by decide +kernel), List.mem_of_getElem? (i := 688) (by decide +kernel)⟩
theorem lw_p12 : lw_okq (⟨"SendForMore$Planner", "planDay", "(LSendForMore$Book;I)V"⟩, 7) := ⟨⟨by decide +kernel, by decide +kernel⟩, List.mem_of_getElem? (i := 153) (by decide +kernel), List.mem_of_getElem? (i := 691) (by decide +kernel), List.mem_of_getElem? (i := 692) (by decide +kernel)⟩
theorem lw_p13 : lw_okq (⟨"SendForMore$Planner", "choose", "(LSendForMore$Book;III)V"⟩, 7) := ⟨⟨by decide +kernel, by decide +kernel⟩, List.mem_of_getElem? (i := 153) (by decide +kernel), List.mem_of_getElem? (i := 696) (by decide +kernel), List.mem_of_getElem? (i := 697) (by decide +kernel)⟩
theorem lw_p14 : lw_okq (⟨"SendForMore$Planner", "priceOf", "(LSendForMore$Book;III)J"⟩, 7) := ⟨⟨by decide +kernel, by decide +kernel⟩, List.mem_of_getElem? (i := 153) (by decide +kernel), List.mem_of_getElem? (i := 700) (by decide +kernel), List.mem_of_getElem? (i := 701) (by decide +kernel)⟩
theorem lw_p15 : lw_okq (⟨"SendForMore$Planner", "laterAt", "(I)J"⟩, 7) := ⟨⟨by decide +kernel, by decide +kernel⟩, List.mem_of_getElem? (i := 153) (by decide +kernel), List.mem_of_getElem? (i := 712) (by decide +kernel), List.mem_of_getElem? (i := 713) (by decide +kernel)⟩
def lw_privs_1 : List (MethodName × Nat) := [(⟨"SendForMore", "refuse", "(I)I"⟩, 18), (⟨"SendForMore", "keep", "(LSendForMore$Rule;)I"⟩, 18), (⟨"SendForMore", "isRule", "(I)Z"⟩, 18), (⟨"SendForMore", "isStart", "(III)Z"⟩, 18), (⟨"SendForMore$Shop", "reckonDemand", "(III)V"⟩, 10), (⟨"SendForMore$Walk", "begin", "(I)V"⟩, 8), (⟨"SendForMore$Walk", "passDay", "(LSendForMore$Book;)V"⟩, 8), (⟨"SendForMore$Walk", "passFrom", "(ILSendForMore$Book;I)V"⟩, 8), (⟨"SendForMore$Walk", "orderAt", "(I)I"⟩, 8), (⟨"SendForMore", "tell", "(JJ)I"⟩, 18), (⟨"SendForMore$Planner", "turnTo", "(LSendForMore$Book;I)V"⟩, 7), (⟨"SendForMore$Planner", "usefulOrder", "(II)I"⟩, 7), (⟨"SendForMore$Planner", "planDay", "(LSendForMore$Book;I)V"⟩, 7), (⟨"SendForMore$Planner", "choose", "(LSendForMore$Book;III)V"⟩, 7), (⟨"SendForMore$Planner", "priceOf", "(LSendForMore$Book;III)J"⟩, 7), (⟨"SendForMore$Planner", "laterAt", "(I)J"⟩, 7)]
theorem lw_r1 : ∀ q ∈ lw_privs_1, lw_okq q := List.forall_mem_cons.mpr ⟨lw_p0, List.forall_mem_cons.mpr ⟨lw_p1, List.forall_mem_cons.mpr ⟨lw_p2, List.forall_mem_cons.mpr ⟨lw_p3, List.forall_mem_cons.mpr ⟨lw_p4, List.forall_mem_cons.mpr ⟨lw_p5, List.forall_mem_cons.mpr ⟨lw_p6, List.forall_mem_cons.mpr ⟨lw_p7, List.forall_mem_cons.mpr ⟨lw_p8, List.forall_mem_cons.mpr ⟨lw_p9, List.forall_mem_cons.mpr ⟨lw_p10, List.forall_mem_cons.mpr ⟨lw_p11, List.forall_mem_cons.mpr ⟨lw_p12, List.forall_mem_cons.mpr ⟨lw_p13, List.forall_mem_cons.mpr ⟨lw_p14, List.forall_mem_cons.mpr ⟨lw_p15, fun _ h => absurd h List.not_mem_nil⟩⟩⟩⟩⟩⟩⟩⟩⟩⟩⟩⟩⟩⟩⟩⟩
theorem lw_p16 : lw_okq (⟨"SendForMore", "seekPair", "(LSendForMore$Book;II)J"⟩, 18) := ⟨⟨by decide +kernel, by decide +kernel⟩, List.mem_of_getElem? (i := 17) (by decide +kernel), List.mem_of_getElem? (i := 720) (by decide +kernel), List.mem_of_getElem? (i := 721) (by decide +kernel)⟩
theorem lw_p17 : lw_okq (⟨"SendForMore$Spoiling", "passFrom", "(ILSendForMore$Book;)V"⟩, 6) := ⟨⟨by decide +kernel, by decide +kernel⟩, List.mem_of_getElem? (i := 183) (by decide +kernel), List.mem_of_getElem? (i := 755) (by decide +kernel), List.mem_of_getElem? (i := 756) (by decide +kernel)⟩
theorem lw_p18 : lw_okq (⟨"SendForMore$Spoiling", "give", "(I)V"⟩, 6) := ⟨⟨by decide +kernel, by decide +kernel⟩, List.mem_of_getElem? (i := 183) (by decide +kernel), List.mem_of_getElem? (i := 761) (by decide +kernel), List.mem_of_getElem? (i := 762) (by decide +kernel)⟩
theorem lw_p19 : lw_okq (⟨"SendForMore", "weightOfSeen", "(LSendForMore$Book;)J"⟩, 18) := ⟨⟨by decide +kernel, by decide +kernel⟩, List.mem_of_getElem? (i := 17) (by decide +kernel), List.mem_of_getElem? (i := 779) (by decide +kernel), List.mem_of_getElem? (i := 780) (by decide +kernel)⟩
theorem lw_p20 : lw_okq (⟨"SendForMore", "rulesThere", "()I"⟩, 18) := ⟨⟨by decide +kernel, by decide +kernel⟩, List.mem_of_getElem? (i := 17) (by decide +kernel), List.mem_of_getElem? (i := 796) (by decide +kernel), List.mem_of_getElem? (i := 797) (by decide +kernel)⟩
theorem lw_p21 : lw_okq (⟨"SendForMore", "digestBooks", "(J)J"⟩, 18) := ⟨⟨by decide +kernel, by decide +kernel⟩, List.mem_of_getElem? (i := 17) (by decide +kernel), List.mem_of_getElem? (i := 815) (by decide +kernel), List.mem_of_getElem? (i := 816) (by decide +kernel)⟩
theorem lw_p22 : lw_okq (⟨"SendForMore", "digestRules", "(J)J"⟩, 18) := ⟨⟨by decide +kernel, by decide +kernel⟩, List.mem_of_getElem? (i := 17) (by decide +kernel), List.mem_of_getElem? (i := 819) (by decide +kernel), List.mem_of_getElem? (i := 820) (by decide +kernel)⟩
theorem lw_p23 : lw_okq (⟨"SendForMore", "digestSheets", "(J)J"⟩, 18) := ⟨⟨by decide +kernel, by decide +kernel⟩, List.mem_of_getElem? (i := 17) (by decide +kernel), List.mem_of_getElem? (i := 823) (by decide +kernel), List.mem_of_getElem? (i := 824) (by decide +kernel)⟩
theorem lw_p24 : lw_okq (⟨"SendForMoreModel", "meets", "(I)I"⟩, 57) := ⟨⟨by decide +kernel, by decide +kernel⟩, List.mem_of_getElem? (i := 827) (by decide +kernel), List.mem_of_getElem? (i := 1035) (by decide +kernel), List.mem_of_getElem? (i := 1036) (by decide +kernel)⟩
theorem lw_p25 : lw_okq (⟨"SendForMoreModel", "allOf", "(I)I"⟩, 57) := ⟨⟨by decide +kernel, by decide +kernel⟩, List.mem_of_getElem? (i := 827) (by decide +kernel), List.mem_of_getElem? (i := 1052) (by decide +kernel), List.mem_of_getElem? (i := 1053) (by decide +kernel)⟩
theorem lw_p26 : lw_okq (⟨"SendForMoreModel", "add", "(IIIII)I"⟩, 57) := ⟨⟨by decide +kernel, by decide +kernel⟩, List.mem_of_getElem? (i := 827) (by decide +kernel), List.mem_of_getElem? (i := 1072) (by decide +kernel), List.mem_of_getElem? (i := 1073) (by decide +kernel)⟩
theorem lw_p27 : lw_okq (⟨"SendForMoreModel", "need", "(ZI)I"⟩, 57) := ⟨⟨by decide +kernel, by decide +kernel⟩, List.mem_of_getElem? (i := 827) (by decide +kernel), List.mem_of_getElem? (i := 1084) (by decide +kernel), List.mem_of_getElem? (i := 1085) (by decide +kernel)⟩
theorem lw_p28 : lw_okq (⟨"SendForMoreModel", "isRule", "(I)Z"⟩, 57) := ⟨⟨by decide +kernel, by decide +kernel⟩, List.mem_of_getElem? (i := 827) (by decide +kernel), List.mem_of_getElem? (i := 1088) (by decide +kernel), List.mem_of_getElem? (i := 1089) (by decide +kernel)⟩
theorem lw_p29 : lw_okq (⟨"SendForMoreModel", "toldOf", "(II)I"⟩, 57) := ⟨⟨by decide +kernel, by decide +kernel⟩, List.mem_of_getElem? (i := 827) (by decide +kernel), List.mem_of_getElem? (i := 1096) (by decide +kernel), List.mem_of_getElem? (i := 1097) (by decide +kernel)⟩
theorem lw_p30 : lw_okq (⟨"SendForMoreModel", "orders", "(II)I"⟩, 57) := ⟨⟨by decide +kernel, by decide +kernel⟩, List.mem_of_getElem? (i := 827) (by decide +kernel), List.mem_of_getElem? (i := 1108) (by decide +kernel), List.mem_of_getElem? (i := 1109) (by decide +kernel)⟩
theorem lw_p31 : lw_okq (⟨"SendForMoreModel", "needBoth", "(ZIIII)I"⟩, 57) := ⟨⟨by decide +kernel, by decide +kernel⟩, List.mem_of_getElem? (i := 827) (by decide +kernel), List.mem_of_getElem? (i := 1124) (by decide +kernel), List.mem_of_getElem? (i := 1125) (by decide +kernel)⟩
def lw_privs_2 : List (MethodName × Nat) := [(⟨"SendForMore", "seekPair", "(LSendForMore$Book;II)J"⟩, 18), (⟨"SendForMore$Spoiling", "passFrom", "(ILSendForMore$Book;)V"⟩, 6), (⟨"SendForMore$Spoiling", "give", "(I)V"⟩, 6), (⟨"SendForMore", "weightOfSeen", "(LSendForMore$Book;)J"⟩, 18), (⟨"SendForMore", "rulesThere", "()I"⟩, 18), (⟨"SendForMore", "digestBooks", "(J)J"⟩, 18), (⟨"SendForMore", "digestRules", "(J)J"⟩, 18), (⟨"SendForMore", "digestSheets", "(J)J"⟩, 18), (⟨"SendForMoreModel", "meets", "(I)I"⟩, 57), (⟨"SendForMoreModel", "allOf", "(I)I"⟩, 57), (⟨"SendForMoreModel", "add", "(IIIII)I"⟩, 57), (⟨"SendForMoreModel", "need", "(ZI)I"⟩, 57), (⟨"SendForMoreModel", "isRule", "(I)Z"⟩, 57), (⟨"SendForMoreModel", "toldOf", "(II)I"⟩, 57), (⟨"SendForMoreModel", "orders", "(II)I"⟩, 57), (⟨"SendForMoreModel", "needBoth", "(ZIIII)I"⟩, 57)]
theorem lw_r2 : ∀ q ∈ lw_privs_2, lw_okq q := List.forall_mem_cons.mpr ⟨lw_p16, List.forall_mem_cons.mpr ⟨lw_p17, List.forall_mem_cons.mpr ⟨lw_p18, List.forall_mem_cons.mpr ⟨lw_p19, List.forall_mem_cons.mpr ⟨lw_p20, List.forall_mem_cons.mpr ⟨lw_p21, List.forall_mem_cons.mpr ⟨lw_p22, List.forall_mem_cons.mpr ⟨lw_p23, List.forall_mem_cons.mpr ⟨lw_p24, List.forall_mem_cons.mpr ⟨lw_p25, List.forall_mem_cons.mpr ⟨lw_p26, List.forall_mem_cons.mpr ⟨lw_p27, List.forall_mem_cons.mpr ⟨lw_p28, List.forall_mem_cons.mpr ⟨lw_p29, List.forall_mem_cons.mpr ⟨lw_p30, List.forall_mem_cons.mpr ⟨lw_p31, fun _ h => absurd h List.not_mem_nil⟩⟩⟩⟩⟩⟩⟩⟩⟩⟩⟩⟩⟩⟩⟩⟩
theorem lw_p32 : lw_okq (⟨"SendForMoreModel", "isStart", "(II)Z"⟩, 57) := ⟨⟨by decide +kernel, by decide +kernel⟩, List.mem_of_getElem? (i := 827) (by decide +kernel), List.mem_of_getElem? (i := 1128) (by decide +kernel), List.mem_of_getElem? (i := 1129) (by decide +kernel)⟩
theorem lw_p33 : lw_okq (⟨"SendForMoreModel", "needBook", "(I)I"⟩, 57) := ⟨⟨by decide +kernel, by decide +kernel⟩, List.mem_of_getElem? (i := 827) (by decide +kernel), List.mem_of_getElem? (i := 1132) (by decide +kernel), List.mem_of_getElem? (i := 1133) (by decide +kernel)⟩
theorem lw_p34 : lw_okq (⟨"SendForMoreModel", "goThrough", "(IIIIZ)V"⟩, 57) := ⟨⟨by decide +kernel, by decide +kernel⟩, List.mem_of_getElem? (i := 827) (by decide +kernel), List.mem_of_getElem? (i := 1136) (by decide +kernel), List.mem_of_getElem? (i := 1137) (by decide +kernel)⟩
theorem lw_p35 : lw_okq (⟨"SendForMoreModel", "goOn", "(IIIZ)V"⟩, 57) := ⟨⟨by decide +kernel, by decide +kernel⟩, List.mem_of_getElem? (i := 827) (by decide +kernel), List.mem_of_getElem? (i := 1143) (by decide +kernel), List.mem_of_getElem? (i := 1144) (by decide +kernel)⟩
theorem lw_p36 : lw_okq (⟨"SendForMoreModel", "day", "(IIIII)V"⟩, 57) := ⟨⟨by decide +kernel, by decide +kernel⟩, List.mem_of_getElem? (i := 827) (by decide +kernel), List.mem_of_getElem? (i := 1147) (by decide +kernel), List.mem_of_getElem? (i := 1148) (by decide +kernel)⟩
theorem lw_p37 : lw_okq (⟨"SendForMoreModel", "put", "(IJ)V"⟩, 57) := ⟨⟨by decide +kernel, by decide +kernel⟩, List.mem_of_getElem? (i := 827) (by decide +kernel), List.mem_of_getElem? (i := 1151) (by decide +kernel), List.mem_of_getElem? (i := 1152) (by decide +kernel)⟩
theorem lw_p38 : lw_okq (⟨"SendForMoreModel", "tells", "(JJI)I"⟩, 57) := ⟨⟨by decide +kernel, by decide +kernel⟩, List.mem_of_getElem? (i := 827) (by decide +kernel), List.mem_of_getElem? (i := 1155) (by decide +kernel), List.mem_of_getElem? (i := 1156) (by decide +kernel)⟩
theorem lw_p39 : lw_okq (⟨"SendForMoreModel", "leastFrom", "(IIIIJ)J"⟩, 57) := ⟨⟨by decide +kernel, by decide +kernel⟩, List.mem_of_getElem? (i := 827) (by decide +kernel), List.mem_of_getElem? (i := 1170) (by decide +kernel), List.mem_of_getElem? (i := 1171) (by decide +kernel)⟩
theorem lw_p40 : lw_okq (⟨"SendForMoreModel", "goThroughPair", "(III)V"⟩, 57) := ⟨⟨by decide +kernel, by decide +kernel⟩, List.mem_of_getElem? (i := 827) (by decide +kernel), List.mem_of_getElem? (i := 1179) (by decide +kernel), List.mem_of_getElem? (i := 1180) (by decide +kernel)⟩
theorem lw_p41 : lw_okq (⟨"SendForMoreModel", "give", "(IZ)V"⟩, 57) := ⟨⟨by decide +kernel, by decide +kernel⟩, List.mem_of_getElem? (i := 827) (by decide +kernel), List.mem_of_getElem? (i := 1191) (by decide +kernel), List.mem_of_getElem? (i := 1192) (by decide +kernel)⟩
def lw_privs_3 : List (MethodName × Nat) := [(⟨"SendForMoreModel", "isStart", "(II)Z"⟩, 57), (⟨"SendForMoreModel", "needBook", "(I)I"⟩, 57), (⟨"SendForMoreModel", "goThrough", "(IIIIZ)V"⟩, 57), (⟨"SendForMoreModel", "goOn", "(IIIZ)V"⟩, 57), (⟨"SendForMoreModel", "day", "(IIIII)V"⟩, 57), (⟨"SendForMoreModel", "put", "(IJ)V"⟩, 57), (⟨"SendForMoreModel", "tells", "(JJI)I"⟩, 57), (⟨"SendForMoreModel", "leastFrom", "(IIIIJ)J"⟩, 57), (⟨"SendForMoreModel", "goThroughPair", "(III)V"⟩, 57), (⟨"SendForMoreModel", "give", "(IZ)V"⟩, 57)]
theorem lw_r3 : ∀ q ∈ lw_privs_3, lw_okq q := List.forall_mem_cons.mpr ⟨lw_p32, List.forall_mem_cons.mpr ⟨lw_p33, List.forall_mem_cons.mpr ⟨lw_p34, List.forall_mem_cons.mpr ⟨lw_p35, List.forall_mem_cons.mpr ⟨lw_p36, List.forall_mem_cons.mpr ⟨lw_p37, List.forall_mem_cons.mpr ⟨lw_p38, List.forall_mem_cons.mpr ⟨lw_p39, List.forall_mem_cons.mpr ⟨lw_p40, List.forall_mem_cons.mpr ⟨lw_p41, fun _ h => absurd h List.not_mem_nil⟩⟩⟩⟩⟩⟩⟩⟩⟩⟩
def lw_privs : List (MethodName × Nat) := lw_privs_1 ++ (lw_privs_2 ++ (lw_privs_3))
def lw_tbl : List Cond := k2_sels lw_privs ++ tables_1
theorem lw_privs_ok : ∀ q ∈ lw_privs, lw_okq q := by
  show ∀ q ∈ lw_privs_1 ++ (lw_privs_2 ++ (lw_privs_3)), lw_okq q
  exact List.forall_mem_append.mpr ⟨lw_r1, List.forall_mem_append.mpr ⟨lw_r2, lw_r3⟩⟩
end
section
def RX0 : String := "SendForMore$Base"
def TX0 : u_T := fun k => match k with
  | _ => ("SendForMore$Base", "top", "I", true)
def tyX0 : Nat → FieldType := fun k => match k with
  | _ => .int
theorem nmX0 : ∀ a, a < 1 → ∀ b, b < 1 → a ≠ b → (TX0 a).2.1 ≠ (TX0 b).2.1 := by decide +kernel
theorem tyX0_ok : ∀ k, k < 1 → parseFieldDescriptor (TX0 k).2.2.1 = some (tyX0 k) := by decide +kernel
abbrev cX0_init : ByteArray := prog_2_method_1_code
def yX0_init : MethodName := ⟨RX0, "<init>", "(I)V"⟩
abbrev cX0_kindNumber : ByteArray := prog_2_method_2_code
def yX0_kindNumber : MethodName := ⟨RX0, "kindNumber", "()I"⟩
abbrev cX0_wants : ByteArray := prog_2_method_3_code
def yX0_wants : MethodName := ⟨RX0, "wants", "(I)I"⟩
abbrev cX0_topMark : ByteArray := prog_2_method_4_code
def yX0_topMark : MethodName := ⟨RX0, "topMark", "()I"⟩
def RX1 : String := "SendForMore$Book"
def TX1 : u_T := fun k => match k with
  | 0 => ("SendForMore$Book", "there", "Z", false)
  | _ => ("SendForMore$Book", "weights", "[I", true)
def tyX1 : Nat → FieldType := fun k => match k with
  | 0 => .boolean
  | _ => .array .int
theorem nmX1 : ∀ a, a < 2 → ∀ b, b < 2 → a ≠ b → (TX1 a).2.1 ≠ (TX1 b).2.1 := by decide +kernel
theorem tyX1_ok : ∀ k, k < 2 → parseFieldDescriptor (TX1 k).2.2.1 = some (tyX1 k) := by decide +kernel
abbrev cX1_init : ByteArray := prog_3_method_1_code
def yX1_init : MethodName := ⟨RX1, "<init>", "()V"⟩
abbrev cX1_open : ByteArray := prog_3_method_2_code
def yX1_open : MethodName := ⟨RX1, "open", "()V"⟩
abbrev cX1_weightOf : ByteArray := prog_3_method_3_code
def yX1_weightOf : MethodName := ⟨RX1, "weightOf", "(I)I"⟩
abbrev cX1_weightOfAll : ByteArray := prog_3_method_4_code
def yX1_weightOfAll : MethodName := ⟨RX1, "weightOfAll", "()I"⟩
abbrev cX1_weightedDemands : ByteArray := prog_3_method_5_code
def yX1_weightedDemands : MethodName := ⟨RX1, "weightedDemands", "()I"⟩
def RX2 : String := "SendForMore$Lot"
def TX2 : u_T := fun k => match k with
  | 0 => ("SendForMore$Lot", "low", "I", true)
  | _ => ("SendForMore$Lot", "pieces", "I", true)
def tyX2 : Nat → FieldType := fun k => match k with
  | 0 => .int
  | _ => .int
theorem nmX2 : ∀ a, a < 2 → ∀ b, b < 2 → a ≠ b → (TX2 a).2.1 ≠ (TX2 b).2.1 := by decide +kernel
theorem tyX2_ok : ∀ k, k < 2 → parseFieldDescriptor (TX2 k).2.2.1 = some (tyX2 k) := by decide +kernel
abbrev cX2_init : ByteArray := prog_4_method_1_code
def yX2_init : MethodName := ⟨RX2, "<init>", "(II)V"⟩
abbrev cX2_kindNumber : ByteArray := prog_4_method_2_code
def yX2_kindNumber : MethodName := ⟨RX2, "kindNumber", "()I"⟩
abbrev cX2_wants : ByteArray := prog_4_method_3_code
def yX2_wants : MethodName := ⟨RX2, "wants", "(I)I"⟩
abbrev cX2_lowMark : ByteArray := prog_4_method_4_code
def yX2_lowMark : MethodName := ⟨RX2, "lowMark", "()I"⟩
abbrev cX2_lotSize : ByteArray := prog_4_method_5_code
def yX2_lotSize : MethodName := ⟨RX2, "lotSize", "()I"⟩
def RX3 : String := "SendForMore$Pair"
def TX3 : u_T := fun k => match k with
  | 0 => ("SendForMore$Base", "top", "I", true)
  | _ => ("SendForMore$Pair", "low", "I", true)
def tyX3 : Nat → FieldType := fun k => match k with
  | 0 => .int
  | _ => .int
theorem nmX3 : ∀ a, a < 2 → ∀ b, b < 2 → a ≠ b → (TX3 a).2.1 ≠ (TX3 b).2.1 := by decide +kernel
theorem tyX3_ok : ∀ k, k < 2 → parseFieldDescriptor (TX3 k).2.2.1 = some (tyX3 k) := by decide +kernel
abbrev cX3_init : ByteArray := prog_5_method_1_code
def yX3_init : MethodName := ⟨RX3, "<init>", "(II)V"⟩
abbrev cX3_kindNumber : ByteArray := prog_5_method_2_code
def yX3_kindNumber : MethodName := ⟨RX3, "kindNumber", "()I"⟩
abbrev cX3_wants : ByteArray := prog_5_method_3_code
def yX3_wants : MethodName := ⟨RX3, "wants", "(I)I"⟩
abbrev cX3_lowMark : ByteArray := prog_5_method_4_code
def yX3_lowMark : MethodName := ⟨RX3, "lowMark", "()I"⟩
abbrev cX3_pairWants : ByteArray := prog_5_method_5_code
def yX3_pairWants : MethodName := ⟨RX3, "pairWants", "(III)I"⟩
def RX4 : String := "SendForMore$Planner"
def TX4 : u_T := fun k => match k with
  | 0 => ("SendForMore$Planner", "shop", "LSendForMore$Shop;", true)
  | 1 => ("SendForMore$Planner", "now", "[J", false)
  | 2 => ("SendForMore$Planner", "later", "[J", false)
  | 3 => ("SendForMore$Planner", "rows", "J", false)
  | 4 => ("SendForMore$Planner", "laterRows", "J", false)
  | 5 => ("SendForMore$Planner", "least", "J", false)
  | _ => ("SendForMore$Planner", "chosen", "I", false)
def tyX4 : Nat → FieldType := fun k => match k with
  | 0 => .object "SendForMore$Shop"
  | 1 => .array .long
  | 2 => .array .long
  | 3 => .long
  | 4 => .long
  | 5 => .long
  | _ => .int
theorem nmX4 : ∀ a, a < 7 → ∀ b, b < 7 → a ≠ b → (TX4 a).2.1 ≠ (TX4 b).2.1 := by decide +kernel
theorem tyX4_ok : ∀ k, k < 7 → parseFieldDescriptor (TX4 k).2.2.1 = some (tyX4 k) := by decide +kernel
abbrev cX4_init : ByteArray := prog_6_method_1_code
def yX4_init : MethodName := ⟨RX4, "<init>", "(LSendForMore$Shop;)V"⟩
abbrev cX4_plan : ByteArray := prog_6_method_2_code
def yX4_plan : MethodName := ⟨RX4, "plan", "(LSendForMore$Book;II)V"⟩
abbrev cX4_turnTo : ByteArray := prog_6_method_3_code
def yX4_turnTo : MethodName := ⟨RX4, "turnTo", "(LSendForMore$Book;I)V"⟩
abbrev cX4_usefulOrder : ByteArray := prog_6_method_4_code
def yX4_usefulOrder : MethodName := ⟨RX4, "usefulOrder", "(II)I"⟩
abbrev cX4_planDay : ByteArray := prog_6_method_5_code
def yX4_planDay : MethodName := ⟨RX4, "planDay", "(LSendForMore$Book;I)V"⟩
abbrev cX4_choose : ByteArray := prog_6_method_6_code
def yX4_choose : MethodName := ⟨RX4, "choose", "(LSendForMore$Book;III)V"⟩
abbrev cX4_priceOf : ByteArray := prog_6_method_7_code
def yX4_priceOf : MethodName := ⟨RX4, "priceOf", "(LSendForMore$Book;III)J"⟩
abbrev cX4_laterAt : ByteArray := prog_6_method_8_code
def yX4_laterAt : MethodName := ⟨RX4, "laterAt", "(I)J"⟩
abbrev cX4_placeOf : ByteArray := prog_6_method_9_code
def yX4_placeOf : MethodName := ⟨RX4, "placeOf", "(II)I"⟩
def RX5 : String := "SendForMore$Rule"
def TX5 : u_T := fun k => match k with
  | _ => ("", "", "", false)
def tyX5 : Nat → FieldType := fun k => match k with
  | _ => .int
theorem nmX5 : ∀ a, a < 0 → ∀ b, b < 0 → a ≠ b → (TX5 a).2.1 ≠ (TX5 b).2.1 := by decide +kernel
theorem tyX5_ok : ∀ k, k < 0 → parseFieldDescriptor (TX5 k).2.2.1 = some (tyX5 k) := by decide +kernel
abbrev cX5_init : ByteArray := prog_7_method_1_code
def yX5_init : MethodName := ⟨RX5, "<init>", "()V"⟩
abbrev cX5_topMark : ByteArray := prog_7_method_4_code
def yX5_topMark : MethodName := ⟨RX5, "topMark", "()I"⟩
abbrev cX5_lowMark : ByteArray := prog_7_method_5_code
def yX5_lowMark : MethodName := ⟨RX5, "lowMark", "()I"⟩
abbrev cX5_lotSize : ByteArray := prog_7_method_6_code
def yX5_lotSize : MethodName := ⟨RX5, "lotSize", "()I"⟩
abbrev cX5_tableSize : ByteArray := prog_7_method_7_code
def yX5_tableSize : MethodName := ⟨RX5, "tableSize", "()I"⟩
def RX6 : String := "SendForMore$Shop"
def TX6 : u_T := fun k => match k with
  | 0 => ("SendForMore$Shop", "most", "I", false)
  | 1 => ("SendForMore$Shop", "lead", "I", false)
  | 2 => ("SendForMore$Shop", "owed", "Z", false)
  | 3 => ("SendForMore$Shop", "perOrder", "I", false)
  | 4 => ("SendForMore$Shop", "perPiece", "I", false)
  | 5 => ("SendForMore$Shop", "perLeft", "I", false)
  | 6 => ("SendForMore$Shop", "perLacking", "I", false)
  | 7 => ("SendForMore$Shop", "prices", "[I", true)
  | 8 => ("SendForMore$Shop", "met", "[I", true)
  | _ => ("SendForMore$Shop", "inHand", "[I", true)
def tyX6 : Nat → FieldType := fun k => match k with
  | 0 => .int
  | 1 => .int
  | 2 => .boolean
  | 3 => .int
  | 4 => .int
  | 5 => .int
  | 6 => .int
  | 7 => .array .int
  | 8 => .array .int
  | _ => .array .int
theorem nmX6 : ∀ a, a < 10 → ∀ b, b < 10 → a ≠ b → (TX6 a).2.1 ≠ (TX6 b).2.1 := by decide +kernel
theorem tyX6_ok : ∀ k, k < 10 → parseFieldDescriptor (TX6 k).2.2.1 = some (tyX6 k) := by decide +kernel
abbrev cX6_init : ByteArray := prog_8_method_1_code
def yX6_init : MethodName := ⟨RX6, "<init>", "()V"⟩
abbrev cX6_floor : ByteArray := prog_8_method_2_code
def yX6_floor : MethodName := ⟨RX6, "floor", "()I"⟩
abbrev cX6_filled : ByteArray := prog_8_method_3_code
def yX6_filled : MethodName := ⟨RX6, "filled", "(II)I"⟩
abbrev cX6_leftOf : ByteArray := prog_8_method_4_code
def yX6_leftOf : MethodName := ⟨RX6, "leftOf", "(II)I"⟩
abbrev cX6_orderPrice : ByteArray := prog_8_method_5_code
def yX6_orderPrice : MethodName := ⟨RX6, "orderPrice", "(I)I"⟩
abbrev cX6_reckon : ByteArray := prog_8_method_6_code
def yX6_reckon : MethodName := ⟨RX6, "reckon", "(LSendForMore$Book;)V"⟩
abbrev cX6_reckonDemand : ByteArray := prog_8_method_7_code
def yX6_reckonDemand : MethodName := ⟨RX6, "reckonDemand", "(III)V"⟩
abbrev cX6_priceFrom : ByteArray := prog_8_method_8_code
def yX6_priceFrom : MethodName := ⟨RX6, "priceFrom", "(I)I"⟩
abbrev cX6_metFrom : ByteArray := prog_8_method_9_code
def yX6_metFrom : MethodName := ⟨RX6, "metFrom", "(I)I"⟩
abbrev cX6_inHandFrom : ByteArray := prog_8_method_10_code
def yX6_inHandFrom : MethodName := ⟨RX6, "inHandFrom", "(I)I"⟩
abbrev cX6_isHand : ByteArray := prog_8_method_11_code
def yX6_isHand : MethodName := ⟨RX6, "isHand", "(I)Z"⟩
def RX7 : String := "SendForMore$Spoiling"
def TX7 : u_T := fun k => match k with
  | 0 => ("SendForMore$Spoiling", "spread", "LSendForMore$Spread;", true)
  | 1 => ("SendForMore$Spoiling", "pieces", "[I", true)
  | 2 => ("SendForMore$Spoiling", "upTo", "I", false)
  | 3 => ("SendForMore$Spoiling", "age", "I", false)
  | 4 => ("SendForMore$Spoiling", "newestFirst", "Z", false)
  | _ => ("SendForMore$Spoiling", "spoiled", "J", false)
def tyX7 : Nat → FieldType := fun k => match k with
  | 0 => .object "SendForMore$Spread"
  | 1 => .array .int
  | 2 => .int
  | 3 => .int
  | 4 => .boolean
  | _ => .long
theorem nmX7 : ∀ a, a < 6 → ∀ b, b < 6 → a ≠ b → (TX7 a).2.1 ≠ (TX7 b).2.1 := by decide +kernel
theorem tyX7_ok : ∀ k, k < 6 → parseFieldDescriptor (TX7 k).2.2.1 = some (tyX7 k) := by decide +kernel
abbrev cX7_init : ByteArray := prog_9_method_1_code
def yX7_init : MethodName := ⟨RX7, "<init>", "(LSendForMore$Spread;)V"⟩
abbrev cX7_begin : ByteArray := prog_9_method_2_code
def yX7_begin : MethodName := ⟨RX7, "begin", "(IIZ)V"⟩
abbrev cX7_follow : ByteArray := prog_9_method_3_code
def yX7_follow : MethodName := ⟨RX7, "follow", "(LSendForMore$Book;I)J"⟩
abbrev cX7_passFrom : ByteArray := prog_9_method_4_code
def yX7_passFrom : MethodName := ⟨RX7, "passFrom", "(ILSendForMore$Book;)V"⟩
abbrev cX7_give : ByteArray := prog_9_method_5_code
def yX7_give : MethodName := ⟨RX7, "give", "(I)V"⟩
def RX8 : String := "SendForMore$Spread"
def TX8 : u_T := fun k => match k with
  | 0 => ("SendForMore$Spread", "weights", "[J", false)
  | 1 => ("SendForMore$Spread", "nextWeights", "[J", false)
  | 2 => ("SendForMore$Spread", "places", "[I", false)
  | 3 => ("SendForMore$Spread", "nextPlaces", "[I", false)
  | 4 => ("SendForMore$Spread", "size", "I", false)
  | _ => ("SendForMore$Spread", "nextSize", "I", false)
def tyX8 : Nat → FieldType := fun k => match k with
  | 0 => .array .long
  | 1 => .array .long
  | 2 => .array .int
  | 3 => .array .int
  | 4 => .int
  | _ => .int
theorem nmX8 : ∀ a, a < 6 → ∀ b, b < 6 → a ≠ b → (TX8 a).2.1 ≠ (TX8 b).2.1 := by decide +kernel
theorem tyX8_ok : ∀ k, k < 6 → parseFieldDescriptor (TX8 k).2.2.1 = some (tyX8 k) := by decide +kernel
abbrev cX8_init : ByteArray := prog_10_method_1_code
def yX8_init : MethodName := ⟨RX8, "<init>", "()V"⟩
abbrev cX8_startAt : ByteArray := prog_10_method_2_code
def yX8_startAt : MethodName := ⟨RX8, "startAt", "(I)V"⟩
abbrev cX8_add : ByteArray := prog_10_method_3_code
def yX8_add : MethodName := ⟨RX8, "add", "(IJ)V"⟩
abbrev cX8_turnToTomorrow : ByteArray := prog_10_method_4_code
def yX8_turnToTomorrow : MethodName := ⟨RX8, "turnToTomorrow", "()V"⟩
abbrev cX8_places : ByteArray := prog_10_method_5_code
def yX8_places : MethodName := ⟨RX8, "places", "()I"⟩
abbrev cX8_placeAt : ByteArray := prog_10_method_6_code
def yX8_placeAt : MethodName := ⟨RX8, "placeAt", "(I)I"⟩
abbrev cX8_weightAt : ByteArray := prog_10_method_7_code
def yX8_weightAt : MethodName := ⟨RX8, "weightAt", "(I)J"⟩
abbrev cX8_weightOfAll : ByteArray := prog_10_method_8_code
def yX8_weightOfAll : MethodName := ⟨RX8, "weightOfAll", "()J"⟩
abbrev cX8_isPlace : ByteArray := prog_10_method_9_code
def yX8_isPlace : MethodName := ⟨RX8, "isPlace", "(I)Z"⟩
def RX9 : String := "SendForMore$Table"
def TX9 : u_T := fun k => match k with
  | _ => ("SendForMore$Table", "bytes", "[B", true)
def tyX9 : Nat → FieldType := fun k => match k with
  | _ => .array .byte
theorem nmX9 : ∀ a, a < 1 → ∀ b, b < 1 → a ≠ b → (TX9 a).2.1 ≠ (TX9 b).2.1 := by decide +kernel
theorem tyX9_ok : ∀ k, k < 1 → parseFieldDescriptor (TX9 k).2.2.1 = some (tyX9 k) := by decide +kernel
abbrev cX9_init : ByteArray := prog_11_method_1_code
def yX9_init : MethodName := ⟨RX9, "<init>", "([BI)V"⟩
abbrev cX9_kindNumber : ByteArray := prog_11_method_2_code
def yX9_kindNumber : MethodName := ⟨RX9, "kindNumber", "()I"⟩
abbrev cX9_wants : ByteArray := prog_11_method_3_code
def yX9_wants : MethodName := ⟨RX9, "wants", "(I)I"⟩
abbrev cX9_tableSize : ByteArray := prog_11_method_4_code
def yX9_tableSize : MethodName := ⟨RX9, "tableSize", "()I"⟩
def RX10 : String := "SendForMore$Walk"
def TX10 : u_T := fun k => match k with
  | 0 => ("SendForMore$Walk", "shop", "LSendForMore$Shop;", true)
  | 1 => ("SendForMore$Walk", "spread", "LSendForMore$Spread;", true)
  | 2 => ("SendForMore$Walk", "orders", "[I", true)
  | 3 => ("SendForMore$Walk", "reached", "[Z", true)
  | 4 => ("SendForMore$Walk", "unbroken", "Z", false)
  | 5 => ("SendForMore$Walk", "spent", "J", false)
  | 6 => ("SendForMore$Walk", "met", "J", false)
  | _ => ("SendForMore$Walk", "eveningsInHand", "J", false)
def tyX10 : Nat → FieldType := fun k => match k with
  | 0 => .object "SendForMore$Shop"
  | 1 => .object "SendForMore$Spread"
  | 2 => .array .int
  | 3 => .array .boolean
  | 4 => .boolean
  | 5 => .long
  | 6 => .long
  | _ => .long
theorem nmX10 : ∀ a, a < 8 → ∀ b, b < 8 → a ≠ b → (TX10 a).2.1 ≠ (TX10 b).2.1 := by decide +kernel
theorem tyX10_ok : ∀ k, k < 8 → parseFieldDescriptor (TX10 k).2.2.1 = some (tyX10 k) := by decide +kernel
abbrev cX10_init : ByteArray := prog_12_method_1_code
def yX10_init : MethodName := ⟨RX10, "<init>", "(LSendForMore$Shop;LSendForMore$Spread;)V"⟩
abbrev cX10_useRule : ByteArray := prog_12_method_2_code
def yX10_useRule : MethodName := ⟨RX10, "useRule", "(LSendForMore$Rule;)V"⟩
abbrev cX10_usePair : ByteArray := prog_12_method_3_code
def yX10_usePair : MethodName := ⟨RX10, "usePair", "(II)V"⟩
abbrev cX10_hasReached : ByteArray := prog_12_method_4_code
def yX10_hasReached : MethodName := ⟨RX10, "hasReached", "(I)Z"⟩
abbrev cX10_follow : ByteArray := prog_12_method_5_code
def yX10_follow : MethodName := ⟨RX10, "follow", "(LSendForMore$Book;IIJ)J"⟩
abbrev cX10_followUnbroken : ByteArray := prog_12_method_6_code
def yX10_followUnbroken : MethodName := ⟨RX10, "followUnbroken", "(LSendForMore$Book;II)J"⟩
abbrev cX10_begin : ByteArray := prog_12_method_7_code
def yX10_begin : MethodName := ⟨RX10, "begin", "(I)V"⟩
abbrev cX10_passDay : ByteArray := prog_12_method_8_code
def yX10_passDay : MethodName := ⟨RX10, "passDay", "(LSendForMore$Book;)V"⟩
abbrev cX10_passFrom : ByteArray := prog_12_method_9_code
def yX10_passFrom : MethodName := ⟨RX10, "passFrom", "(ILSendForMore$Book;I)V"⟩
abbrev cX10_orderAt : ByteArray := prog_12_method_10_code
def yX10_orderAt : MethodName := ⟨RX10, "orderAt", "(I)I"⟩
abbrev cX10_placeOf : ByteArray := prog_12_method_11_code
def yX10_placeOf : MethodName := ⟨RX10, "placeOf", "(II)I"⟩
def RX11 : String := "SendForMore"
def TX11 : u_T := fun k => match k with
  | 0 => ("SendForMore", "books", "[LSendForMore$Book;", true)
  | 1 => ("SendForMore", "sheetBytes", "[[B", true)
  | 2 => ("SendForMore", "sheetSizes", "[I", true)
  | 3 => ("SendForMore", "rules", "[LSendForMore$Rule;", true)
  | 4 => ("SendForMore", "rulesEver", "I", false)
  | 5 => ("SendForMore", "shop", "LSendForMore$Shop;", true)
  | 6 => ("SendForMore", "walk", "LSendForMore$Walk;", true)
  | 7 => ("SendForMore", "planner", "LSendForMore$Planner;", true)
  | 8 => ("SendForMore", "spoiling", "LSendForMore$Spoiling;", true)
  | 9 => ("SendForMore", "pairKnown", "Z", false)
  | 10 => ("SendForMore", "pairLow", "I", false)
  | 11 => ("SendForMore", "pairTop", "I", false)
  | 12 => ("SendForMore", "seen", "[I", true)
  | 13 => ("SendForMore", "seenCount", "I", false)
  | 14 => ("SendForMore", "upperNumber", "J", false)
  | 15 => ("SendForMore", "lowerNumber", "J", false)
  | 16 => ("SendForMore", "latestFinding", "I", false)
  | _ => ("SendForMore", "findingCounts", "[I", true)
def tyX11 : Nat → FieldType := fun k => match k with
  | 0 => .array (.object "SendForMore$Book")
  | 1 => .array (.array .byte)
  | 2 => .array .int
  | 3 => .array (.object "SendForMore$Rule")
  | 4 => .int
  | 5 => .object "SendForMore$Shop"
  | 6 => .object "SendForMore$Walk"
  | 7 => .object "SendForMore$Planner"
  | 8 => .object "SendForMore$Spoiling"
  | 9 => .boolean
  | 10 => .int
  | 11 => .int
  | 12 => .array .int
  | 13 => .int
  | 14 => .long
  | 15 => .long
  | 16 => .int
  | _ => .array .int
theorem nmX11 : ∀ a, a < 18 → ∀ b, b < 18 → a ≠ b → (TX11 a).2.1 ≠ (TX11 b).2.1 := by decide +kernel
theorem tyX11_ok : ∀ k, k < 18 → parseFieldDescriptor (TX11 k).2.2.1 = some (tyX11 k) := by decide +kernel
abbrev cX11_init : ByteArray := prog_1_method_1_code
def yX11_init : MethodName := ⟨RX11, "<init>", "()V"⟩
abbrev cX11_book : ByteArray := prog_1_method_2_code
def yX11_book : MethodName := ⟨RX11, "book", "(I)I"⟩
abbrev cX11_weigh : ByteArray := prog_1_method_3_code
def yX11_weigh : MethodName := ⟨RX11, "weigh", "(III)I"⟩
abbrev cX11_close : ByteArray := prog_1_method_4_code
def yX11_close : MethodName := ⟨RX11, "close", "(I)I"⟩
abbrev cX11_copy : ByteArray := prog_1_method_5_code
def yX11_copy : MethodName := ⟨RX11, "copy", "(IIIII)I"⟩
abbrev cX11_mean : ByteArray := prog_1_method_6_code
def yX11_mean : MethodName := ⟨RX11, "mean", "(I)I"⟩
abbrev cX11_sheet : ByteArray := prog_1_method_7_code
def yX11_sheet : MethodName := ⟨RX11, "sheet", "(II)I"⟩
abbrev cX11_lay : ByteArray := prog_1_method_8_code
def yX11_lay : MethodName := ⟨RX11, "lay", "(III)I"⟩
abbrev cX11_tear : ByteArray := prog_1_method_9_code
def yX11_tear : MethodName := ⟨RX11, "tear", "(I)I"⟩
abbrev cX11_table : ByteArray := prog_1_method_10_code
def yX11_table : MethodName := ⟨RX11, "table", "(I)I"⟩
abbrev cX11_rule : ByteArray := prog_1_method_11_code
def yX11_rule : MethodName := ⟨RX11, "rule", "(III)I"⟩
abbrev cX11_drop : ByteArray := prog_1_method_12_code
def yX11_drop : MethodName := ⟨RX11, "drop", "(I)I"⟩
abbrev cX11_told : ByteArray := prog_1_method_13_code
def yX11_told : MethodName := ⟨RX11, "told", "(II)I"⟩
abbrev cX11_mark : ByteArray := prog_1_method_14_code
def yX11_mark : MethodName := ⟨RX11, "mark", "(II)I"⟩
abbrev cX11_order : ByteArray := prog_1_method_15_code
def yX11_order : MethodName := ⟨RX11, "order", "(II)I"⟩
abbrev cX11_shop : ByteArray := prog_1_method_16_code
def yX11_shop : MethodName := ⟨RX11, "shop", "(IIZ)I"⟩
abbrev cX11_costs : ByteArray := prog_1_method_17_code
def yX11_costs : MethodName := ⟨RX11, "costs", "(IIII)I"⟩
abbrev cX11_cost : ByteArray := prog_1_method_18_code
def yX11_cost : MethodName := ⟨RX11, "cost", "(IIII)I"⟩
abbrev cX11_service : ByteArray := prog_1_method_19_code
def yX11_service : MethodName := ⟨RX11, "service", "(IIIII)I"⟩
abbrev cX11_best : ByteArray := prog_1_method_20_code
def yX11_best : MethodName := ⟨RX11, "best", "(III)I"⟩
abbrev cX11_bestPair : ByteArray := prog_1_method_21_code
def yX11_bestPair : MethodName := ⟨RX11, "bestPair", "(III)I"⟩
abbrev cX11_pairTold : ByteArray := prog_1_method_22_code
def yX11_pairTold : MethodName := ⟨RX11, "pairTold", "(I)I"⟩
abbrev cX11_spoilt : ByteArray := prog_1_method_23_code
def yX11_spoilt : MethodName := ⟨RX11, "spoilt", "(IIIIZ)I"⟩
abbrev cX11_see : ByteArray := prog_1_method_24_code
def yX11_see : MethodName := ⟨RX11, "see", "(I)I"⟩
abbrev cX11_forget : ByteArray := prog_1_method_25_code
def yX11_forget : MethodName := ⟨RX11, "forget", "()I"⟩
abbrev cX11_doubt : ByteArray := prog_1_method_26_code
def yX11_doubt : MethodName := ⟨RX11, "doubt", "(IIII)I"⟩
abbrev cX11_upper : ByteArray := prog_1_method_27_code
def yX11_upper : MethodName := ⟨RX11, "upper", "()J"⟩
abbrev cX11_lower : ByteArray := prog_1_method_28_code
def yX11_lower : MethodName := ⟨RX11, "lower", "()J"⟩
abbrev cX11_count : ByteArray := prog_1_method_29_code
def yX11_count : MethodName := ⟨RX11, "count", "(I)I"⟩
abbrev cX11_finding : ByteArray := prog_1_method_30_code
def yX11_finding : MethodName := ⟨RX11, "finding", "()I"⟩
abbrev cX11_findings : ByteArray := prog_1_method_31_code
def yX11_findings : MethodName := ⟨RX11, "findings", "(I)I"⟩
abbrev cX11_digest : ByteArray := prog_1_method_32_code
def yX11_digest : MethodName := ⟨RX11, "digest", "()J"⟩
abbrev cX11_isWithin : ByteArray := prog_1_method_33_code
def yX11_isWithin : MethodName := ⟨RX11, "isWithin", "(III)Z"⟩
abbrev cX11_isBook : ByteArray := prog_1_method_34_code
def yX11_isBook : MethodName := ⟨RX11, "isBook", "(I)Z"⟩
abbrev cX11_isDemand : ByteArray := prog_1_method_35_code
def yX11_isDemand : MethodName := ⟨RX11, "isDemand", "(I)Z"⟩
abbrev cX11_isSheet : ByteArray := prog_1_method_36_code
def yX11_isSheet : MethodName := ⟨RX11, "isSheet", "(I)Z"⟩
abbrev cX11_isPosition : ByteArray := prog_1_method_37_code
def yX11_isPosition : MethodName := ⟨RX11, "isPosition", "(I)Z"⟩
abbrev cX11_isPrice : ByteArray := prog_1_method_38_code
def yX11_isPrice : MethodName := ⟨RX11, "isPrice", "(I)Z"⟩
abbrev cX11_areDays : ByteArray := prog_1_method_39_code
def yX11_areDays : MethodName := ⟨RX11, "areDays", "(I)Z"⟩
abbrev cX11_isRule : ByteArray := prog_1_method_40_code
def yX11_isRule : MethodName := ⟨RX11, "isRule", "(I)Z"⟩
abbrev cX11_isRuleOf : ByteArray := prog_1_method_41_code
def yX11_isRuleOf : MethodName := ⟨RX11, "isRuleOf", "(III)Z"⟩
abbrev cX11_isStart : ByteArray := prog_1_method_42_code
def yX11_isStart : MethodName := ⟨RX11, "isStart", "(III)Z"⟩
abbrev cX11_isStretch : ByteArray := prog_1_method_43_code
def yX11_isStretch : MethodName := ⟨RX11, "isStretch", "(II)Z"⟩
abbrev cX11_refuse : ByteArray := prog_1_method_44_code
def yX11_refuse : MethodName := ⟨RX11, "refuse", "(I)I"⟩
abbrev cX11_lackOf : ByteArray := prog_1_method_45_code
def yX11_lackOf : MethodName := ⟨RX11, "lackOf", "(LSendForMore$Book;)I"⟩
abbrev cX11_lackOf_ : ByteArray := prog_1_method_46_code
def yX11_lackOf_ : MethodName := ⟨RX11, "lackOf", "(LSendForMore$Rule;LSendForMore$Book;)I"⟩
abbrev cX11_keep : ByteArray := prog_1_method_47_code
def yX11_keep : MethodName := ⟨RX11, "keep", "(LSendForMore$Rule;)I"⟩
abbrev cX11_tellOf : ByteArray := prog_1_method_48_code
def yX11_tellOf : MethodName := ⟨RX11, "tellOf", "(LSendForMore$Rule;I)I"⟩
abbrev cX11_cutOrder : ByteArray := prog_1_method_49_code
def yX11_cutOrder : MethodName := ⟨RX11, "cutOrder", "(I)I"⟩
abbrev cX11_rulesThere : ByteArray := prog_1_method_50_code
def yX11_rulesThere : MethodName := ⟨RX11, "rulesThere", "()I"⟩
abbrev cX11_seekPair : ByteArray := prog_1_method_51_code
def yX11_seekPair : MethodName := ⟨RX11, "seekPair", "(LSendForMore$Book;II)J"⟩
abbrev cX11_weightOfSeen : ByteArray := prog_1_method_52_code
def yX11_weightOfSeen : MethodName := ⟨RX11, "weightOfSeen", "(LSendForMore$Book;)J"⟩
abbrev cX11_rowsOf : ByteArray := prog_1_method_53_code
def yX11_rowsOf : MethodName := ⟨RX11, "rowsOf", "(LSendForMore$Book;I)J"⟩
abbrev cX11_tell : ByteArray := prog_1_method_54_code
def yX11_tell : MethodName := ⟨RX11, "tell", "(JJ)I"⟩
abbrev cX11_commonDivisor : ByteArray := prog_1_method_55_code
def yX11_commonDivisor : MethodName := ⟨RX11, "commonDivisor", "(JJ)J"⟩
abbrev cX11_digestBooks : ByteArray := prog_1_method_56_code
def yX11_digestBooks : MethodName := ⟨RX11, "digestBooks", "(J)J"⟩
abbrev cX11_digestRules : ByteArray := prog_1_method_57_code
def yX11_digestRules : MethodName := ⟨RX11, "digestRules", "(J)J"⟩
abbrev cX11_digestSheets : ByteArray := prog_1_method_58_code
def yX11_digestSheets : MethodName := ⟨RX11, "digestSheets", "(J)J"⟩
def RX12 : String := "SendForMoreModel"
def TX12 : u_T := fun k => match k with
  | 0 => ("SendForMoreModel", "latest", "I", false)
  | 1 => ("SendForMoreModel", "came", "[I", true)
  | 2 => ("SendForMoreModel", "upper", "J", false)
  | 3 => ("SendForMoreModel", "lower", "J", false)
  | 4 => ("SendForMoreModel", "isBook", "[Z", true)
  | 5 => ("SendForMoreModel", "weights", "[I", true)
  | 6 => ("SendForMoreModel", "copied", "[I", true)
  | 7 => ("SendForMoreModel", "sheetSize", "[I", true)
  | 8 => ("SendForMoreModel", "sheets", "[B", true)
  | 9 => ("SendForMoreModel", "rules", "I", false)
  | 10 => ("SendForMoreModel", "kindOf", "[I", true)
  | 11 => ("SendForMoreModel", "low", "[I", true)
  | 12 => ("SendForMoreModel", "high", "[I", true)
  | 13 => ("SendForMoreModel", "lots", "[I", true)
  | 14 => ("SendForMoreModel", "tableSize", "[I", true)
  | 15 => ("SendForMoreModel", "tables", "[B", true)
  | 16 => ("SendForMoreModel", "isGone", "[Z", true)
  | 17 => ("SendForMoreModel", "most", "I", false)
  | 18 => ("SendForMoreModel", "lead", "I", false)
  | 19 => ("SendForMoreModel", "isOwed", "Z", false)
  | 20 => ("SendForMoreModel", "costK", "I", false)
  | 21 => ("SendForMoreModel", "costC", "I", false)
  | 22 => ("SendForMoreModel", "costH", "I", false)
  | 23 => ("SendForMoreModel", "costB", "I", false)
  | 24 => ("SendForMoreModel", "nextX", "I", false)
  | 25 => ("SendForMoreModel", "nextOne", "I", false)
  | 26 => ("SendForMoreModel", "nextTwo", "I", false)
  | 27 => ("SendForMoreModel", "dayCost", "I", false)
  | 28 => ("SendForMoreModel", "met", "I", false)
  | 29 => ("SendForMoreModel", "lacks", "I", false)
  | 30 => ("SendForMoreModel", "states", "[I", true)
  | 31 => ("SendForMoreModel", "ways", "[J", true)
  | 32 => ("SendForMoreModel", "many", "I", false)
  | 33 => ("SendForMoreModel", "newStates", "[I", true)
  | 34 => ("SendForMoreModel", "newWays", "[J", true)
  | 35 => ("SendForMoreModel", "newMany", "I", false)
  | 36 => ("SendForMoreModel", "placeOf", "[I", true)
  | 37 => ("SendForMoreModel", "stampOf", "[I", true)
  | 38 => ("SendForMoreModel", "stamp", "I", false)
  | 39 => ("SendForMoreModel", "sumCost", "J", false)
  | 40 => ("SendForMoreModel", "sumMet", "J", false)
  | 41 => ("SendForMoreModel", "sumDemand", "J", false)
  | 42 => ("SendForMoreModel", "sumIn", "J", false)
  | 43 => ("SendForMoreModel", "sumWays", "J", false)
  | 44 => ("SendForMoreModel", "all", "J", false)
  | 45 => ("SendForMoreModel", "best", "[J", true)
  | 46 => ("SendForMoreModel", "bestNew", "[J", true)
  | 47 => ("SendForMoreModel", "bestOrder", "I", false)
  | 48 => ("SendForMoreModel", "pairLow", "I", false)
  | 49 => ("SendForMoreModel", "pairHigh", "I", false)
  | 50 => ("SendForMoreModel", "triedLow", "I", false)
  | 51 => ("SendForMoreModel", "triedHigh", "I", false)
  | 52 => ("SendForMoreModel", "first", "I", false)
  | 53 => ("SendForMoreModel", "second", "I", false)
  | 54 => ("SendForMoreModel", "third", "I", false)
  | 55 => ("SendForMoreModel", "seen", "I", false)
  | _ => ("SendForMoreModel", "demandsSeen", "[I", true)
def tyX12 : Nat → FieldType := fun k => match k with
  | 0 => .int
  | 1 => .array .int
  | 2 => .long
  | 3 => .long
  | 4 => .array .boolean
  | 5 => .array .int
  | 6 => .array .int
  | 7 => .array .int
  | 8 => .array .byte
  | 9 => .int
  | 10 => .array .int
  | 11 => .array .int
  | 12 => .array .int
  | 13 => .array .int
  | 14 => .array .int
  | 15 => .array .byte
  | 16 => .array .boolean
  | 17 => .int
  | 18 => .int
  | 19 => .boolean
  | 20 => .int
  | 21 => .int
  | 22 => .int
  | 23 => .int
  | 24 => .int
  | 25 => .int
  | 26 => .int
  | 27 => .int
  | 28 => .int
  | 29 => .int
  | 30 => .array .int
  | 31 => .array .long
  | 32 => .int
  | 33 => .array .int
  | 34 => .array .long
  | 35 => .int
  | 36 => .array .int
  | 37 => .array .int
  | 38 => .int
  | 39 => .long
  | 40 => .long
  | 41 => .long
  | 42 => .long
  | 43 => .long
  | 44 => .long
  | 45 => .array .long
  | 46 => .array .long
  | 47 => .int
  | 48 => .int
  | 49 => .int
  | 50 => .int
  | 51 => .int
  | 52 => .int
  | 53 => .int
  | 54 => .int
  | 55 => .int
  | _ => .array .int
theorem nmX12 : ∀ a, a < 57 → ∀ b, b < 57 → a ≠ b → (TX12 a).2.1 ≠ (TX12 b).2.1 := by decide +kernel
theorem tyX12_ok : ∀ k, k < 57 → parseFieldDescriptor (TX12 k).2.2.1 = some (tyX12 k) := by decide +kernel
abbrev cX12_init : ByteArray := prog_14_method_1_code
def yX12_init : MethodName := ⟨RX12, "<init>", "()V"⟩
abbrev cX12_in : ByteArray := prog_14_method_2_code
def yX12_in : MethodName := ⟨RX12, "in", "(III)Z"⟩
abbrev cX12_meets : ByteArray := prog_14_method_3_code
def yX12_meets : MethodName := ⟨RX12, "meets", "(I)I"⟩
abbrev cX12_finding : ByteArray := prog_14_method_4_code
def yX12_finding : MethodName := ⟨RX12, "finding", "()I"⟩
abbrev cX12_findings : ByteArray := prog_14_method_5_code
def yX12_findings : MethodName := ⟨RX12, "findings", "(I)I"⟩
abbrev cX12_gcd : ByteArray := prog_14_method_6_code
def yX12_gcd : MethodName := ⟨RX12, "gcd", "(JJ)J"⟩
abbrev cX12_tells : ByteArray := prog_14_method_7_code
def yX12_tells : MethodName := ⟨RX12, "tells", "(JJI)I"⟩
abbrev cX12_upper : ByteArray := prog_14_method_8_code
def yX12_upper : MethodName := ⟨RX12, "upper", "()J"⟩
abbrev cX12_lower : ByteArray := prog_14_method_9_code
def yX12_lower : MethodName := ⟨RX12, "lower", "()J"⟩
abbrev cX12_isPlace : ByteArray := prog_14_method_10_code
def yX12_isPlace : MethodName := ⟨RX12, "isPlace", "(I)Z"⟩
abbrev cX12_book : ByteArray := prog_14_method_11_code
def yX12_book : MethodName := ⟨RX12, "book", "(I)I"⟩
abbrev cX12_weigh : ByteArray := prog_14_method_12_code
def yX12_weigh : MethodName := ⟨RX12, "weigh", "(III)I"⟩
abbrev cX12_close : ByteArray := prog_14_method_13_code
def yX12_close : MethodName := ⟨RX12, "close", "(I)I"⟩
abbrev cX12_copy : ByteArray := prog_14_method_14_code
def yX12_copy : MethodName := ⟨RX12, "copy", "(IIIII)I"⟩
abbrev cX12_allOf : ByteArray := prog_14_method_15_code
def yX12_allOf : MethodName := ⟨RX12, "allOf", "(I)I"⟩
abbrev cX12_mean : ByteArray := prog_14_method_16_code
def yX12_mean : MethodName := ⟨RX12, "mean", "(I)I"⟩
abbrev cX12_sheet : ByteArray := prog_14_method_17_code
def yX12_sheet : MethodName := ⟨RX12, "sheet", "(II)I"⟩
abbrev cX12_lay : ByteArray := prog_14_method_18_code
def yX12_lay : MethodName := ⟨RX12, "lay", "(III)I"⟩
abbrev cX12_tear : ByteArray := prog_14_method_19_code
def yX12_tear : MethodName := ⟨RX12, "tear", "(I)I"⟩
abbrev cX12_add : ByteArray := prog_14_method_20_code
def yX12_add : MethodName := ⟨RX12, "add", "(IIIII)I"⟩
abbrev cX12_table : ByteArray := prog_14_method_21_code
def yX12_table : MethodName := ⟨RX12, "table", "(I)I"⟩
abbrev cX12_rule : ByteArray := prog_14_method_22_code
def yX12_rule : MethodName := ⟨RX12, "rule", "(III)I"⟩
abbrev cX12_isRule : ByteArray := prog_14_method_23_code
def yX12_isRule : MethodName := ⟨RX12, "isRule", "(I)Z"⟩
abbrev cX12_need : ByteArray := prog_14_method_24_code
def yX12_need : MethodName := ⟨RX12, "need", "(ZI)I"⟩
abbrev cX12_drop : ByteArray := prog_14_method_25_code
def yX12_drop : MethodName := ⟨RX12, "drop", "(I)I"⟩
abbrev cX12_toldOf : ByteArray := prog_14_method_26_code
def yX12_toldOf : MethodName := ⟨RX12, "toldOf", "(II)I"⟩
abbrev cX12_told : ByteArray := prog_14_method_27_code
def yX12_told : MethodName := ⟨RX12, "told", "(II)I"⟩
abbrev cX12_mark : ByteArray := prog_14_method_28_code
def yX12_mark : MethodName := ⟨RX12, "mark", "(II)I"⟩
abbrev cX12_orders : ByteArray := prog_14_method_29_code
def yX12_orders : MethodName := ⟨RX12, "orders", "(II)I"⟩
abbrev cX12_order : ByteArray := prog_14_method_30_code
def yX12_order : MethodName := ⟨RX12, "order", "(II)I"⟩
abbrev cX12_shop : ByteArray := prog_14_method_31_code
def yX12_shop : MethodName := ⟨RX12, "shop", "(IIZ)I"⟩
abbrev cX12_costs : ByteArray := prog_14_method_32_code
def yX12_costs : MethodName := ⟨RX12, "costs", "(IIII)I"⟩
abbrev cX12_day : ByteArray := prog_14_method_33_code
def yX12_day : MethodName := ⟨RX12, "day", "(IIIII)V"⟩
abbrev cX12_put : ByteArray := prog_14_method_34_code
def yX12_put : MethodName := ⟨RX12, "put", "(IJ)V"⟩
abbrev cX12_stateOf : ByteArray := prog_14_method_35_code
def yX12_stateOf : MethodName := ⟨RX12, "stateOf", "(III)I"⟩
abbrev cX12_goThrough : ByteArray := prog_14_method_36_code
def yX12_goThrough : MethodName := ⟨RX12, "goThrough", "(IIIIZ)V"⟩
abbrev cX12_goOn : ByteArray := prog_14_method_37_code
def yX12_goOn : MethodName := ⟨RX12, "goOn", "(IIIZ)V"⟩
abbrev cX12_isStart : ByteArray := prog_14_method_38_code
def yX12_isStart : MethodName := ⟨RX12, "isStart", "(II)Z"⟩
abbrev cX12_needBook : ByteArray := prog_14_method_39_code
def yX12_needBook : MethodName := ⟨RX12, "needBook", "(I)I"⟩
abbrev cX12_needBoth : ByteArray := prog_14_method_40_code
def yX12_needBoth : MethodName := ⟨RX12, "needBoth", "(ZIIII)I"⟩
abbrev cX12_cost : ByteArray := prog_14_method_41_code
def yX12_cost : MethodName := ⟨RX12, "cost", "(IIII)I"⟩
abbrev cX12_service : ByteArray := prog_14_method_42_code
def yX12_service : MethodName := ⟨RX12, "service", "(IIIII)I"⟩
abbrev cX12_leastFrom : ByteArray := prog_14_method_43_code
def yX12_leastFrom : MethodName := ⟨RX12, "leastFrom", "(IIIIJ)J"⟩
abbrev cX12_best : ByteArray := prog_14_method_44_code
def yX12_best : MethodName := ⟨RX12, "best", "(III)I"⟩
abbrev cX12_bestPair : ByteArray := prog_14_method_45_code
def yX12_bestPair : MethodName := ⟨RX12, "bestPair", "(III)I"⟩
abbrev cX12_goThroughPair : ByteArray := prog_14_method_46_code
def yX12_goThroughPair : MethodName := ⟨RX12, "goThroughPair", "(III)V"⟩
abbrev cX12_pairTold : ByteArray := prog_14_method_47_code
def yX12_pairTold : MethodName := ⟨RX12, "pairTold", "(I)I"⟩
abbrev cX12_give : ByteArray := prog_14_method_48_code
def yX12_give : MethodName := ⟨RX12, "give", "(IZ)V"⟩
abbrev cX12_spoilt : ByteArray := prog_14_method_49_code
def yX12_spoilt : MethodName := ⟨RX12, "spoilt", "(IIIIZ)I"⟩
abbrev cX12_see : ByteArray := prog_14_method_50_code
def yX12_see : MethodName := ⟨RX12, "see", "(I)I"⟩
abbrev cX12_forget : ByteArray := prog_14_method_51_code
def yX12_forget : MethodName := ⟨RX12, "forget", "()I"⟩
abbrev cX12_doubt : ByteArray := prog_14_method_52_code
def yX12_doubt : MethodName := ⟨RX12, "doubt", "(IIII)I"⟩
abbrev cX12_count : ByteArray := prog_14_method_53_code
def yX12_count : MethodName := ⟨RX12, "count", "(I)I"⟩
abbrev cX12_digest : ByteArray := prog_14_method_54_code
def yX12_digest : MethodName := ⟨RX12, "digest", "()J"⟩
def RJ9 : String := "java/lang/Math"
def TJ9 : u_T := fun k => match k with
  | _ => ("", "", "", false)
def tyJ9 : Nat → FieldType := fun k => match k with
  | _ => .int
theorem nmJ9 : ∀ a, a < 0 → ∀ b, b < 0 → a ≠ b → (TJ9 a).2.1 ≠ (TJ9 b).2.1 := by decide +kernel
theorem tyJ9_ok : ∀ k, k < 0 → parseFieldDescriptor (TJ9 k).2.2.1 = some (tyJ9 k) := by decide +kernel
abbrev cJ9_max_7cf53 : ByteArray := prog_15_method_65_code
def yJ9_max_7cf53 : MethodName := ⟨RJ9, "max", "(II)I"⟩
abbrev cJ9_min_7cf53 : ByteArray := prog_15_method_69_code
def yJ9_min_7cf53 : MethodName := ⟨RJ9, "min", "(II)I"⟩
def RJ10 : String := "java/lang/System"
def TJ10 : u_T := fun k => match k with
  | _ => ("", "", "", false)
def tyJ10 : Nat → FieldType := fun k => match k with
  | _ => .int
theorem nmJ10 : ∀ a, a < 0 → ∀ b, b < 0 → a ≠ b → (TJ10 a).2.1 ≠ (TJ10 b).2.1 := by decide +kernel
theorem tyJ10_ok : ∀ k, k < 0 → parseFieldDescriptor (TJ10 k).2.2.1 = some (tyJ10 k) := by decide +kernel
def RL : String := "SendForMoreLaw"
abbrev cL_law : ByteArray := code
def yL_law : MethodName := ⟨RL, "law", "([I)Z"⟩
/-- the classes of the world, by number (5, the abstract Rule, has no objects: its place is held by another) -/
abbrev classes : List vw_C := [(RX0, TX0, 1), (RX1, TX1, 2), (RX2, TX2, 2), (RX3, TX3, 2), (RX4, TX4, 7), (RX1, TX1, 2), (RX6, TX6, 10), (RX7, TX7, 6), (RX8, TX8, 6), (RX9, TX9, 1), (RX10, TX10, 8), (RX11, TX11, 18), (RX12, TX12, 57)]
def tyC : Nat → Nat → FieldType := fun c => match c with
  | 0 => tyX0 | 1 => tyX1 | 2 => tyX2 | 3 => tyX3 | 4 => tyX4 | 5 => tyX5 | 6 => tyX6 | 7 => tyX7 | 8 => tyX8 | 9 => tyX9 | 10 => tyX10 | 11 => tyX11 | _ => tyX12
/-- the array classes of the world, by number -/
def tyA : Nat → FieldType := fun k => match k with
  | 0 => .int | 1 => .long | 2 => .boolean | 3 => .byte | 4 => .object "SendForMore$Book" | 5 => .object "SendForMore$Rule" | _ => .array .byte
end
section
/-! A memory as a value: size, the kind of each cell, the length of each array, ints, longs, references. Kinds: 0 .. 12 an object of that class, 20 + k an array of tyA k, anything else: not ours. -/
abbrev Me : Type := Nat × (Nat → Nat) × (Nat → Nat) × (Nat → Nat → Int32) × (Nat → Nat → Int64) × (Nat → Nat → Option Nat)
def gz (σ : Me) : Nat := σ.1
def gT (σ : Me) (a : Nat) : Nat := σ.2.1 a
def gN (σ : Me) (a : Nat) : Nat := σ.2.2.1 a
def gI (σ : Me) (a k : Nat) : Int32 := σ.2.2.2.1 a k
def gL (σ : Me) (a k : Nat) : Int64 := σ.2.2.2.2.1 a k
def gP (σ : Me) (a k : Nat) : Option Nat := σ.2.2.2.2.2 a k
def up2 {α : Type} (f : Nat → Nat → α) (a k : Nat) (v : α) : Nat → Nat → α := fun b j => if b = a ∧ j = k then v else f b j
def sI (σ : Me) (a k : Nat) (v : Int32) : Me := (σ.1, σ.2.1, σ.2.2.1, up2 σ.2.2.2.1 a k v, σ.2.2.2.2.1, σ.2.2.2.2.2)
def sL (σ : Me) (a k : Nat) (v : Int64) : Me := (σ.1, σ.2.1, σ.2.2.1, σ.2.2.2.1, up2 σ.2.2.2.2.1 a k v, σ.2.2.2.2.2)
def sP (σ : Me) (a k : Nat) (v : Option Nat) : Me := (σ.1, σ.2.1, σ.2.2.1, σ.2.2.2.1, σ.2.2.2.2.1, up2 σ.2.2.2.2.2 a k v)
/-- a new cell of kind t, of length n (an array), all 0 -/
def nw (σ : Me) (t n : Nat) : Me := (σ.1 + 1, va_up σ.2.1 σ.1 t, va_up σ.2.2.1 σ.1 n, va_up σ.2.2.2.1 σ.1 (fun _ => 0), va_up σ.2.2.2.2.1 σ.1 (fun _ => 0), va_up σ.2.2.2.2.2 σ.1 (fun _ => none))
def kd (t : FieldType) : Nat := match t with
  | .long => 1
  | .object _ => 2
  | .array _ => 2
  | .float => 3
  | .double => 3
  | _ => 0
def fv (κ : Nat) (σ : Me) (a k : Nat) : Value := match κ with
  | 0 => .int (gI σ a k)
  | 1 => .long (gL σ a k)
  | _ => va_rf (gP σ a k)
def cel (D : va_G) (cA : Nat → ClassId) (σ : Me) (q : Nat) (H : Heap) : Prop :=
  (gT σ q < 20 → ∃ r : vw_C, classes[gT σ q]? = some r ∧ t_OB q (D.1 (gT σ q)) r.2.2 (D.2 (gT σ q)) H (fun k => fv (kd (tyC (gT σ q) k)) σ q k)) ∧
  (20 ≤ gT σ q → H[q]? = some (arrV (cA (gT σ q - 20)) (gN σ q) (fun k => fv (kd (tyA (gT σ q - 20))) σ q k)))
def wd (D : va_G) (cA : Nat → ClassId) (z0 : Nat) (σ : Me) (H : Heap) : Prop := H.size = gz σ ∧ z0 ≤ gz σ ∧ ∀ q : Nat, gT σ q < 30 → z0 ≤ q ∧ q < gz σ ∧ cel D cA σ q H
theorem fv_same {κ : Nat} {σ σ' : Me} {q : Nat} (hI : ∀ j, gI σ' q j = gI σ q j) (hL : ∀ j, gL σ' q j = gL σ q j) (hP : ∀ j, gP σ' q j = gP σ q j) (k : Nat) : fv κ σ' q k = fv κ σ q k := by
  unfold fv
  rw [hI, hL, hP]
theorem cel_same {D : va_G} {cA : Nat → ClassId} {σ σ' : Me} {q : Nat} {H H' : Heap} (h : cel D cA σ q H) (hT : gT σ' q = gT σ q) (hN : gN σ' q = gN σ q) (hI : ∀ j, gI σ' q j = gI σ q j) (hL : ∀ j, gL σ' q j = gL σ q j) (hP : ∀ j, gP σ' q j = gP σ q j) (hq : H'[q]? = H[q]?) : cel D cA σ' q H' := by
  unfold cel at *
  rw [hT, hN]
  refine ⟨fun hc => ?_, fun hc => ?_⟩
  · obtain ⟨r, h1, h2⟩ := h.1 hc
    exact ⟨r, h1, (h2.kept hq).to fun k _ => (fv_same hI hL hP k).symm⟩
  · rw [hq, h.2 hc]
    congr 2
    funext k
    exact (fv_same hI hL hP k).symm
theorem up2_ne {α : Type} {f : Nat → Nat → α} {a k b j : Nat} {v : α} (h : b ≠ a) : up2 f a k v b j = f b j := by simp [up2, h]
theorem up2_nk {α : Type} {f : Nat → Nat → α} {a k b j : Nat} {v : α} (h : j ≠ k) : up2 f a k v b j = f b j := by simp [up2, h]
theorem up2_eq {α : Type} {f : Nat → Nat → α} {a k : Nat} {v : α} : up2 f a k v a k = v := by simp [up2]
/-- the words that go with a call, and those that are kept beside -/
def gTab : List Cond := lw_tbl.filter goodWord
theorem gTab_in {w : Cond} (i : Nat) (h : lw_tbl[i]? = some w) (hg : goodWord w = true) : w ∈ gTab := List.mem_filter.mpr ⟨List.mem_of_getElem? h, hg⟩
theorem gTab_good : GoodIn gTab gTab := fun w h => ⟨h, good_of_word (List.mem_filter.mp h).2⟩
theorem gTab_call {w : Cond} (h : w ∈ gTab) : GoodIn gTab (w :: gTab) := fun x hx => by
  rcases List.mem_cons.mp hx with rfl | hx
  · exact gTab_good _ h
  · exact gTab_good _ hx
def nestW : List Cond := [.methodLinkNest "SendForMore" 32 yX6_init "SendForMore", .methodLinkNest "SendForMore" 50 yX1_init "SendForMore", .methodLinkNest "SendForMore" 53 yX8_init "SendForMore", .methodLinkNest "SendForMore$Table" 3 yX5_init "SendForMore", .methodLinkNest "SendForMore$Base" 3 yX5_init "SendForMore", .methodLinkNest "SendForMore$Lot" 3 yX5_init "SendForMore", .methodLinkNest "SendForMore$Table" 30 yX11_isWithin "SendForMore", .methodLinkNest "SendForMore$Walk" 33 yX11_cutOrder "SendForMore", .methodLinkNest "SendForMore$Walk" 42 yX11_isPosition "SendForMore", .methodLinkNest "SendForMore$Walk" 62 yX11_rowsOf "SendForMore", .methodLinkNest "SendForMore$Planner" 39 yX11_rowsOf "SendForMore"]
def declW : List Cond := [.declares ⟨"SendForMore$Rule", "kindNumber", "()I"⟩, .declares ⟨"SendForMore$Rule", "wants", "(I)I"⟩]
def castW : List Cond := [.castable "SendForMore$Pair" "SendForMore$Base", .castable "SendForMore$Table" "SendForMore$Rule", .castable "SendForMore$Base" "SendForMore$Rule", .castable "SendForMore$Pair" "SendForMore$Rule", .castable "SendForMore$Lot" "SendForMore$Rule"]
def noCast : List (String × String) := [("SendForMore$Lot", "SendForMore$Base"), ("SendForMore$Table", "SendForMore$Base"), ("SendForMore$Base", "SendForMore$Pair"), ("SendForMore$Lot", "SendForMore$Pair"), ("SendForMore$Table", "SendForMore$Pair"), ("SendForMore$Base", "SendForMore$Lot"), ("SendForMore$Pair", "SendForMore$Lot"), ("SendForMore$Table", "SendForMore$Lot")]
abbrev tysL (cA : Nat → ClassId) : List (ClassId × FieldType) := [(cA 0, .int), (cA 1, .long), (cA 2, .boolean), (cA 3, .byte), (cA 4, .object "SendForMore$Book"), (cA 5, .object "SendForMore$Rule"), (cA 6, .array .byte)]
/-- what is known of the machine's tables, over and above the words -/
def KN (D : va_G) (cA : Nat → ClassId) (U : State) : Prop := va_K D classes (tysL cA) U ∧ (∀ w ∈ nestW, va_Nw w U) ∧ (∀ w ∈ declW, va_Nw w U) ∧ (∀ w ∈ castW, va_Nw w U) ∧ (∀ q ∈ noCast, va_Nc q.1 q.2 U) ∧ (∃ (cR : ClassId) (kR : Class), U.vm.findClass RX5 = some cR ∧ U.vm.classes[cR]? = some kR)
theorem KN.warm {D : va_G} {cA : Nat → ClassId} {s U : State} (hW : s.WarmedH U.vm) (h : KN D cA s) : KN D cA U := by
  obtain ⟨h1, h2, h3, h4, h5, cR, kR, h6, h7⟩ := h
  obtain ⟨kR', h7', -⟩ := hW.alike.2.2 _ _ h7
  refine ⟨va_K.moved hW.alike h1, ?_, ?_, ?_, fun q hq => va_Nc.moved hW.alike (h5 q hq), cR, kR', by rw [hW.alike.findClass]; exact h6, h7'⟩
  · unfold nestW at *
    simp only [List.forall_mem_cons] at h2 ⊢
    obtain ⟨a1, a2, a3, a4, a5, a6, a7, a8, a9, a10, a11, -⟩ := h2
    exact ⟨va_Nw.warmM hW a1, va_Nw.warmM hW a2, va_Nw.warmM hW a3, va_Nw.warmM hW a4, va_Nw.warmM hW a5, va_Nw.warmM hW a6, va_Nw.warmM hW a7, va_Nw.warmM hW a8, va_Nw.warmM hW a9, va_Nw.warmM hW a10, va_Nw.warmM hW a11, fun _ h => absurd h List.not_mem_nil⟩
  · unfold declW at *
    simp only [List.forall_mem_cons] at h3 ⊢
    obtain ⟨a1, a2, -⟩ := h3
    exact ⟨va_Nw.warmD hW a1, va_Nw.warmD hW a2, fun _ h => absurd h List.not_mem_nil⟩
  · unfold castW at *
    simp only [List.forall_mem_cons] at h4 ⊢
    obtain ⟨a1, a2, a3, a4, a5, -⟩ := h4
    exact ⟨va_Nw.warmC hW a1, va_Nw.warmC hW a2, va_Nw.warmC hW a3, va_Nw.warmC hW a4, va_Nw.warmC hW a5, fun _ h => absurd h List.not_mem_nil⟩
/-- a class of the world: its number, name, fields -/
def Cls (c0 : Nat) (C : String) (T : u_T) (N : Nat) : Prop := classes[c0]? = some (C, T, N) ∧ (∀ w ∈ u_ws C T N, w ∈ gTab) ∧ (∀ k, k < N → parseFieldDescriptor (T k).2.2.1 = some (tyC c0 k)) ∧ (∀ a, a < N → ∀ b, b < N → a ≠ b → (T a).2.1 ≠ (T b).2.1) ∧ c0 < 20
theorem gTab_sub {ws : List Cond} (h : ws.all (fun w => decide (w ∈ lw_tbl) && goodWord w) = true) : ∀ w ∈ ws, w ∈ gTab := by
  intro w hw
  have h1 := List.all_eq_true.mp h w hw
  simp only [Bool.and_eq_true, decide_eq_true_eq] at h1
  exact List.mem_filter.mpr h1
theorem cl0 : Cls 0 RX0 TX0 1 := ⟨rfl, gTab_sub (by decide +kernel), tyX0_ok, nmX0, by decide⟩
theorem cl1 : Cls 1 RX1 TX1 2 := ⟨rfl, gTab_sub (by decide +kernel), tyX1_ok, nmX1, by decide⟩
theorem cl2 : Cls 2 RX2 TX2 2 := ⟨rfl, gTab_sub (by decide +kernel), tyX2_ok, nmX2, by decide⟩
theorem cl3 : Cls 3 RX3 TX3 2 := ⟨rfl, gTab_sub (by decide +kernel), tyX3_ok, nmX3, by decide⟩
theorem cl4 : Cls 4 RX4 TX4 7 := ⟨rfl, gTab_sub (by decide +kernel), tyX4_ok, nmX4, by decide⟩
theorem cl6 : Cls 6 RX6 TX6 10 := ⟨rfl, gTab_sub (by decide +kernel), tyX6_ok, nmX6, by decide⟩
theorem cl7 : Cls 7 RX7 TX7 6 := ⟨rfl, gTab_sub (by decide +kernel), tyX7_ok, nmX7, by decide⟩
theorem cl8 : Cls 8 RX8 TX8 6 := ⟨rfl, gTab_sub (by decide +kernel), tyX8_ok, nmX8, by decide⟩
theorem cl9 : Cls 9 RX9 TX9 1 := ⟨rfl, gTab_sub (by decide +kernel), tyX9_ok, nmX9, by decide⟩
theorem cl10 : Cls 10 RX10 TX10 8 := ⟨rfl, gTab_sub (by decide +kernel), tyX10_ok, nmX10, by decide⟩
theorem cl11 : Cls 11 RX11 TX11 18 := ⟨rfl, gTab_sub (by decide +kernel), tyX11_ok, nmX11, by decide⟩
theorem cl12 : Cls 12 RX12 TX12 57 := ⟨rfl, gTab_sub (by decide +kernel), tyX12_ok, nmX12, by decide⟩
theorem wd_obj {D : va_G} {cA : Nat → ClassId} {z0 : Nat} {σ : Me} {H : Heap} {c0 a N : Nat} {C : String} {T : u_T} (hw : wd D cA z0 σ H) (K : Cls c0 C T N) (hT : gT σ a = c0) : z0 ≤ a ∧ a < gz σ ∧ t_OB a (D.1 c0) N (D.2 c0) H (fun k => fv (kd (tyC c0 k)) σ a k) := by
  have h20 : c0 < 20 := K.2.2.2.2
  obtain ⟨h1, h2, h3, -⟩ := hw.2.2 a (by omega)
  refine ⟨h1, h2, ?_⟩
  obtain ⟨r, hr, ho⟩ := h3 (by omega)
  rw [hT] at hr ho
  have e : r = (C, T, N) := Option.some.inj (hr.symm.trans K.1)
  subst e
  exact ho
theorem wd_arr {D : va_G} {cA : Nat → ClassId} {z0 : Nat} {σ : Me} {H : Heap} {a t : Nat} (hw : wd D cA z0 σ H) (hT : gT σ a = 20 + t) (ht : t < 10) : z0 ≤ a ∧ a < gz σ ∧ H[a]? = some (arrV (cA t) (gN σ a) (fun k => fv (kd (tyA t)) σ a k)) := by
  obtain ⟨h1, h2, -, h3⟩ := hw.2.2 a (by omega)
  refine ⟨h1, h2, ?_⟩
  have h4 := h3 (by omega)
  rw [hT, Nat.add_sub_cancel_left] at h4
  exact h4
theorem wd_set {D : va_G} {cA : Nat → ClassId} {z0 a : Nat} {σ σ' : Me} {H H' : Heap} (hw : wd D cA z0 σ H) (hz : gz σ' = gz σ) (hT : ∀ q, gT σ' q = gT σ q) (hN : ∀ q, gN σ' q = gN σ q) (hI : ∀ q j, q ≠ a → gI σ' q j = gI σ q j) (hL : ∀ q j, q ≠ a → gL σ' q j = gL σ q j) (hP : ∀ q j, q ≠ a → gP σ' q j = gP σ q j)
    (he2 : H'.size = H.size) (he3 : ∀ q, q ≠ a → H'[q]? = H[q]?) (ha : cel D cA σ' a H') : wd D cA z0 σ' H' := by
  refine ⟨by rw [he2, hz]; exact hw.1, by rw [hz]; exact hw.2.1, fun q hq => ?_⟩
  rw [hT] at hq
  obtain ⟨h1, h2, h3⟩ := hw.2.2 q hq
  refine ⟨h1, by rw [hz]; exact h2, ?_⟩
  by_cases e : q = a
  · subst e; exact ha
  · exact cel_same h3 (hT q) (hN q) (fun j => hI q j e) (fun j => hL q j e) (fun j => hP q j e) (he3 q e)
theorem fv_sI {κ : Nat → Nat} {σ : Me} {a k : Nat} {v : Int32} (h : κ k = 0) (j : Nat) : fv (κ j) (sI σ a k v) a j = updV (fun i => fv (κ i) σ a i) k (.int v) j := by
  by_cases e : j = k
  · subst e
    simp [updV, h, fv, gI, sI, up2]
  · have e1 : gI (sI σ a k v) a j = gI σ a j := up2_nk e
    unfold updV
    rw [if_neg e]
    unfold fv
    rw [e1]
    rfl
theorem fv_sL {κ : Nat → Nat} {σ : Me} {a k : Nat} {v : Int64} (h : κ k = 1) (j : Nat) : fv (κ j) (sL σ a k v) a j = updV (fun i => fv (κ i) σ a i) k (.long v) j := by
  by_cases e : j = k
  · subst e
    simp [updV, h, fv, gL, sL, up2]
  · have e1 : gL (sL σ a k v) a j = gL σ a j := up2_nk e
    unfold updV
    rw [if_neg e]
    unfold fv
    rw [e1]
    rfl
theorem fv_sP {κ : Nat → Nat} {σ : Me} {a k : Nat} {v : Option Nat} (h : κ k = 2) (j : Nat) : fv (κ j) (sP σ a k v) a j = updV (fun i => fv (κ i) σ a i) k (va_rf v) j := by
  by_cases e : j = k
  · subst e
    simp [updV, h, fv, gP, sP, up2]
  · have e1 : gP (sP σ a k v) a j = gP σ a j := up2_nk e
    unfold updV
    rw [if_neg e]
    unfold fv
    rw [e1]
    rfl
end
section
/-! One-instruction rows over a memory. -/
def Cx (p : Program) (m : MethodId) (c : Code) (cc : ByteArray) (nL : Nat) (s : State) (args : Array Value) (own : String) (D : va_G) (cA : Nat → ClassId) : Prop := CallFix p m c cc nL s args gTab own ∧ KN D cA s
def wS (D : va_G) (cA : Nat → ClassId) (z0 : Nat) (s : State) (σ : Me) (H : Heap) (locs : List Loc) : Prop := wd D cA z0 σ H ∧ va_S (fun q => z0 ≤ q) s.heap H locs
theorem va_S_put {z0 a : Nat} {H0 H H' : Heap} {locs : List Loc} {i : Nat} (h : va_S (fun q => z0 ≤ q) H0 H locs) (ha : z0 ≤ a) (e2 : H'.size = H.size) (e3 : ∀ q, q ≠ a → H'[q]? = H[q]?) : va_S (fun q => z0 ≤ q) H0 H' (locs ++ [⟨a, i⟩]) := by
  refine ⟨by rw [e2]; exact h.1, fun q h1 h2 => ?_, fun q hq => ?_⟩
  · rw [e3 q (fun e => h2 (by rw [e]; exact ha))]
    exact h.2.1 q h1 h2
  · rcases List.mem_append.mp hq with h1 | h1
    · exact h.2.2 q h1
    · rw [List.mem_singleton.mp h1]
      exact ha
section MR
variable {p : Program} {l : Launch} {e : Env} {R : Room} {s : State} {m : MethodId} {args : Array Value} {below : List Frame} {meth : Method} {c : Code} {H : Heap} {locs : List Loc} {cells slots : Nat} {Q : State → Prop}
variable {cc : ByteArray} {pc nL : Nat} {ls : Array Slot} {rest : List Value} {D : va_G} {cA : Nat → ClassId} {a z0 c0 N index : Nat} {σ : Me} {own ref C : String} {T : u_T}
theorem m_get (X : Cx p m c cc nL s args own D cA) (hw : wS D cA z0 s σ H locs) (K : Cls c0 C T N) (hT : gT σ a = c0) (k : Nat) (hk : k < N) (hlink : Cond.fieldLink own index ref (T k).2.1 (T k).2.2.1 ∈ gTab) (hsame : ∀ x, s.fieldFound? (T k).1 (T k).2.1 (T k).2.2.1 = some x → s.fieldFound? ref (T k).2.1 (T k).2.2.1 = some x) {v : Value} (hv : fv (kd (tyC c0 k)) σ a k = v) (hdg : decode cc pc = .ok (.getfield index, 3))
    (kk : W p l e R s m args below meth c H locs cells slots Q (F0 m (pc + 3) ls (v :: rest))) : W p l e R s m args below meth c H locs cells slots Q (F0 m pc ls (.ref a :: rest)) := by
  obtain ⟨⟨hx, hb, hml, hown, hts⟩, hK⟩ := X
  obtain ⟨-, -, cell, q1, q2, q3, q4⟩ := wd_obj hw.1 K hT
  obtain ⟨hS, hfc, kC, hkC, hkind⟩ := hK.1.1 c0 _ K.1
  obtain ⟨cf, kf, fi, f, hi, hsl⟩ := hS k hk
  refine W.getf hx hb hown (hts _ hlink) (hsame _ hi) (u_facts hfc hkC (u_lays hts K.2.1 hk) hi).1 q1 (by rw [q3]; exact fun h => by cases h) (v := v) ?_ rfl rfl hdg kk
  rw [hsl, q4 k hk]
  exact congrArg some hv
theorem m_put (X : Cx p m c cc nL s args own D cA) (hw : wS D cA z0 s σ H locs) (K : Cls c0 C T N) (hT : gT σ a = c0) (k : Nat) (hk : k < N) (hlink : Cond.fieldLink own index ref (T k).2.1 (T k).2.2.1 ∈ gTab) (hsame : ∀ x, s.fieldFound? (T k).1 (T k).2.1 (T k).2.2.1 = some x → s.fieldFound? ref (T k).2.1 (T k).2.2.1 = some x) (hfin : (T k).2.2.2 = false) {v : Value} (hn : narrow (tyC c0 k) v = v) (hfit : fits (tyC c0 k) v = true) {σ' : Me}
    (hz : gz σ' = gz σ) (hTT : ∀ q, gT σ' q = gT σ q) (hNN : ∀ q, gN σ' q = gN σ q) (hI : ∀ q j, q ≠ a → gI σ' q j = gI σ q j) (hL : ∀ q j, q ≠ a → gL σ' q j = gL σ q j) (hP : ∀ q j, q ≠ a → gP σ' q j = gP σ q j) (hf : ∀ j, fv (kd (tyC c0 j)) σ' a j = updV (fun i => fv (kd (tyC c0 i)) σ a i) k v j)
    (hdg : decode cc pc = .ok (.putfield index, 3)) (kk : ∀ (H1 : Heap) (locs1 : List Loc), wS D cA z0 s σ' H1 locs1 → W p l e R s m args below meth c H1 locs1 cells slots Q (F0 m (pc + 3) ls rest)) : W p l e R s m args below meth c H locs cells slots Q (F0 m pc ls (v :: .ref a :: rest)) := by
  obtain ⟨⟨hx, hb, hml, hown, hts⟩, hK⟩ := X
  have hap := va_apart (own := own) hts K.2.1 (tyC c0) K.2.2.1 K.2.2.2.1 hK.1 K.1
  obtain ⟨hz0, hz1, cell, q1, q2, q3, q4⟩ := wd_obj hw.1 K hT
  obtain ⟨hS, hfc, kC, hkC, hkind⟩ := hK.1.1 c0 _ K.1
  obtain ⟨cf, kf, fi, f, hi, hsl⟩ := hS k hk
  have hlay := hts _ (K.2.1 _ (u_in_lay hk))
  unfold u_lay at hlay
  rw [if_neg (by rw [hfin]; decide)] at hlay
  have hst := (u_facts hfc hkC (u_lays hts K.2.1 hk) hi).1
  have h6 := u_store hfc hkC hkind hlay hi (K.2.2.1 k hk) hn hfit
  refine W.putK hx hb (f := f) ⟨hown, hts _ hlink, ⟨_, _, _, hsame _ hi⟩, hst⟩ (by rw [q2]; exact h6) q1 q3 (by rw [hsl]; exact k2_hasslot (q4 k hk)) rfl rfl hdg fun H' e1 e2 e3 => ?_
  rw [hsl] at e1 ⊢
  refine kk H' _ ⟨wd_set hw.1 hz hTT hNN hI hL hP e2 e3 ⟨fun h => ?_, fun h => ?_⟩, va_S_put hw.2 hz0 e2 e3⟩
  · rw [hTT, hT]
    exact ⟨_, K.1, t_OB.to (V := updV (fun i => fv (kd (tyC c0 i)) σ a i) k v) ⟨_, e1, q2, q3, t_set q4 hap hk v⟩ (fun j _ => (hf j).symm)⟩
  · rw [hTT, hT] at h
    have := K.2.2.2.2
    omega
theorem m_putF (X : Cx p m c cc nL s args own D cA) (hin2 : meth.name = "<init>") (hw : wS D cA z0 s σ H locs) (K : Cls c0 C T N) (hT : gT σ a = c0) (k : Nat) (hk : k < N) (hlink : Cond.fieldLink own index ref (T k).2.1 (T k).2.2.1 ∈ gTab) (hsame : ∀ x, s.fieldFound? (T k).1 (T k).2.1 (T k).2.2.1 = some x → s.fieldFound? ref (T k).2.1 (T k).2.2.1 = some x) (hfin : (T k).2.2.2 = true) (hdecl : (T k).1 = own) {v : Value} (hn : narrow (tyC c0 k) v = v) (hfit : fits (tyC c0 k) v = true) {σ' : Me}
    (hz : gz σ' = gz σ) (hTT : ∀ q, gT σ' q = gT σ q) (hNN : ∀ q, gN σ' q = gN σ q) (hI : ∀ q j, q ≠ a → gI σ' q j = gI σ q j) (hL : ∀ q j, q ≠ a → gL σ' q j = gL σ q j) (hP : ∀ q j, q ≠ a → gP σ' q j = gP σ q j) (hf : ∀ j, fv (kd (tyC c0 j)) σ' a j = updV (fun i => fv (kd (tyC c0 i)) σ a i) k v j)
    (hdg : decode cc pc = .ok (.putfield index, 3)) (kk : ∀ (H1 : Heap) (locs1 : List Loc), wS D cA z0 s σ' H1 locs1 → W p l e R s m args below meth c H1 locs1 cells slots Q (F0 m (pc + 3) ls rest)) : W p l e R s m args below meth c H locs cells slots Q (F0 m pc ls (v :: .ref a :: rest)) := by
  obtain ⟨⟨hx, hb, hml, hown, hts⟩, hK⟩ := X
  have hap := va_apart (own := own) hts K.2.1 (tyC c0) K.2.2.1 K.2.2.2.1 hK.1 K.1
  obtain ⟨hz0, hz1, cell, q1, q2, q3, q4⟩ := wd_obj hw.1 K hT
  obtain ⟨hS, hfc, kC, hkC, hkind⟩ := hK.1.1 c0 _ K.1
  obtain ⟨cf, kf, fi, f, hi, hsl⟩ := hS k hk
  have hlay := hts _ (K.2.1 _ (u_in_lay hk))
  unfold u_lay at hlay
  rw [if_pos hfin] at hlay
  have hst := (u_facts hfc hkC (u_lays hts K.2.1 hk) hi).1
  have hcf : m.cls = cf := by
    obtain ⟨_, _, c', _, _, _, -, -, hf', -, -, -, hown2, -⟩ := Cond.laysFinal_spec hlay
    have e1 : c' = cf := by have := hi.symm.trans hf'; simp at this; exact this.1.symm
    rw [hdecl] at hown2
    rw [← e1]; exact Option.some.inj (hown.symm.trans hown2)
  have h6 := u_fits hfc hkC hkind (Or.inr hlay) hi (K.2.2.1 k hk) hn hfit
  refine W.putFinK hx hb hown (hts _ hlink) (hsame _ hi) hst hcf hin2 (by rw [q2]; exact h6) q1 q3 (by rw [hsl]; exact k2_hasslot (q4 k hk)) rfl rfl hdg fun H' e1 e2 e3 => ?_
  rw [hsl] at e1 ⊢
  refine kk H' _ ⟨wd_set hw.1 hz hTT hNN hI hL hP e2 e3 ⟨fun h => ?_, fun h => ?_⟩, va_S_put hw.2 hz0 e2 e3⟩
  · rw [hTT, hT]
    exact ⟨_, K.1, t_OB.to (V := updV (fun i => fv (kd (tyC c0 i)) σ a i) k v) ⟨_, e1, q2, q3, t_set q4 hap hk v⟩ (fun j _ => (hf j).symm)⟩
  · rw [hTT, hT] at h
    have := K.2.2.2.2
    omega
theorem m_putI (X : Cx p m c cc nL s args own D cA) (hw : wS D cA z0 s σ H locs) (K : Cls c0 C T N) (hT : gT σ a = c0) (k : Nat) (hk : k < N) (hlink : Cond.fieldLink own index ref (T k).2.1 (T k).2.2.1 ∈ gTab) (hsame : ∀ x, s.fieldFound? (T k).1 (T k).2.1 (T k).2.2.1 = some x → s.fieldFound? ref (T k).2.1 (T k).2.2.1 = some x) (hfin : (T k).2.2.2 = false) {v : Int32} (hty : tyC c0 k = .int)
    (hdg : decode cc pc = .ok (.putfield index, 3)) (kk : ∀ (H1 : Heap) (locs1 : List Loc), wS D cA z0 s (sI σ a k v) H1 locs1 → W p l e R s m args below meth c H1 locs1 cells slots Q (F0 m (pc + 3) ls rest)) : W p l e R s m args below meth c H locs cells slots Q (F0 m pc ls (.int v :: .ref a :: rest)) :=
  m_put X hw K hT k hk hlink hsame hfin (by rw [hty]; rfl) (by rw [hty]; rfl) (σ' := sI σ a k v) rfl (fun _ => rfl) (fun _ => rfl) (fun _ _ h => up2_ne h) (fun _ _ _ => rfl) (fun _ _ _ => rfl) (fv_sI (κ := fun j => kd (tyC c0 j)) (by show kd (tyC c0 k) = 0; rw [hty]; rfl)) hdg kk
theorem m_putZ (X : Cx p m c cc nL s args own D cA) (hw : wS D cA z0 s σ H locs) (K : Cls c0 C T N) (hT : gT σ a = c0) (k : Nat) (hk : k < N) (hlink : Cond.fieldLink own index ref (T k).2.1 (T k).2.2.1 ∈ gTab) (hsame : ∀ x, s.fieldFound? (T k).1 (T k).2.1 (T k).2.2.1 = some x → s.fieldFound? ref (T k).2.1 (T k).2.2.1 = some x) (hfin : (T k).2.2.2 = false) {v : Int32} (hty : tyC c0 k = .boolean) (hv : v = 0 ∨ v = 1)
    (hdg : decode cc pc = .ok (.putfield index, 3)) (kk : ∀ (H1 : Heap) (locs1 : List Loc), wS D cA z0 s (sI σ a k v) H1 locs1 → W p l e R s m args below meth c H1 locs1 cells slots Q (F0 m (pc + 3) ls rest)) : W p l e R s m args below meth c H locs cells slots Q (F0 m pc ls (.int v :: .ref a :: rest)) :=
  m_put X hw K hT k hk hlink hsame hfin (by rw [hty]; rcases hv with rfl | rfl <;> decide) (by rw [hty]; rcases hv with rfl | rfl <;> decide) (σ' := sI σ a k v) rfl (fun _ => rfl) (fun _ => rfl) (fun _ _ h => up2_ne h) (fun _ _ _ => rfl) (fun _ _ _ => rfl) (fv_sI (κ := fun j => kd (tyC c0 j)) (by show kd (tyC c0 k) = 0; rw [hty]; rfl)) hdg kk
theorem m_putL (X : Cx p m c cc nL s args own D cA) (hw : wS D cA z0 s σ H locs) (K : Cls c0 C T N) (hT : gT σ a = c0) (k : Nat) (hk : k < N) (hlink : Cond.fieldLink own index ref (T k).2.1 (T k).2.2.1 ∈ gTab) (hsame : ∀ x, s.fieldFound? (T k).1 (T k).2.1 (T k).2.2.1 = some x → s.fieldFound? ref (T k).2.1 (T k).2.2.1 = some x) (hfin : (T k).2.2.2 = false) {v : Int64} (hty : tyC c0 k = .long)
    (hdg : decode cc pc = .ok (.putfield index, 3)) (kk : ∀ (H1 : Heap) (locs1 : List Loc), wS D cA z0 s (sL σ a k v) H1 locs1 → W p l e R s m args below meth c H1 locs1 cells slots Q (F0 m (pc + 3) ls rest)) : W p l e R s m args below meth c H locs cells slots Q (F0 m pc ls (.long v :: .ref a :: rest)) :=
  m_put X hw K hT k hk hlink hsame hfin (by rw [hty]; rfl) (by rw [hty]; rfl) (σ' := sL σ a k v) rfl (fun _ => rfl) (fun _ => rfl) (fun _ _ _ => rfl) (fun _ _ h => up2_ne h) (fun _ _ _ => rfl) (fv_sL (κ := fun j => kd (tyC c0 j)) (by show kd (tyC c0 k) = 1; rw [hty]; rfl)) hdg kk
theorem m_putP (X : Cx p m c cc nL s args own D cA) (hw : wS D cA z0 s σ H locs) (K : Cls c0 C T N) (hT : gT σ a = c0) (k : Nat) (hk : k < N) (hlink : Cond.fieldLink own index ref (T k).2.1 (T k).2.2.1 ∈ gTab) (hsame : ∀ x, s.fieldFound? (T k).1 (T k).2.1 (T k).2.2.1 = some x → s.fieldFound? ref (T k).2.1 (T k).2.2.1 = some x) (hfin : (T k).2.2.2 = false) {b : Nat} (hkd : kd (tyC c0 k) = 2) (hn : narrow (tyC c0 k) (.ref b) = .ref b) (hfit : fits (tyC c0 k) (.ref b) = true)
    (hdg : decode cc pc = .ok (.putfield index, 3)) (kk : ∀ (H1 : Heap) (locs1 : List Loc), wS D cA z0 s (sP σ a k (some b)) H1 locs1 → W p l e R s m args below meth c H1 locs1 cells slots Q (F0 m (pc + 3) ls rest)) : W p l e R s m args below meth c H locs cells slots Q (F0 m pc ls (.ref b :: .ref a :: rest)) :=
  m_put X hw K hT k hk hlink hsame hfin hn hfit (σ' := sP σ a k (some b)) rfl (fun _ => rfl) (fun _ => rfl) (fun _ _ _ => rfl) (fun _ _ _ => rfl) (fun _ _ h => up2_ne h) (fv_sP (κ := fun j => kd (tyC c0 j)) hkd) hdg kk
theorem m_putFI (X : Cx p m c cc nL s args own D cA) (hin2 : meth.name = "<init>") (hw : wS D cA z0 s σ H locs) (K : Cls c0 C T N) (hT : gT σ a = c0) (k : Nat) (hk : k < N) (hlink : Cond.fieldLink own index ref (T k).2.1 (T k).2.2.1 ∈ gTab) (hsame : ∀ x, s.fieldFound? (T k).1 (T k).2.1 (T k).2.2.1 = some x → s.fieldFound? ref (T k).2.1 (T k).2.2.1 = some x) (hfin : (T k).2.2.2 = true) (hdecl : (T k).1 = own) {v : Int32} (hty : tyC c0 k = .int)
    (hdg : decode cc pc = .ok (.putfield index, 3)) (kk : ∀ (H1 : Heap) (locs1 : List Loc), wS D cA z0 s (sI σ a k v) H1 locs1 → W p l e R s m args below meth c H1 locs1 cells slots Q (F0 m (pc + 3) ls rest)) : W p l e R s m args below meth c H locs cells slots Q (F0 m pc ls (.int v :: .ref a :: rest)) :=
  m_putF X hin2 hw K hT k hk hlink hsame hfin hdecl (by rw [hty]; rfl) (by rw [hty]; rfl) (σ' := sI σ a k v) rfl (fun _ => rfl) (fun _ => rfl) (fun _ _ h => up2_ne h) (fun _ _ _ => rfl) (fun _ _ _ => rfl) (fv_sI (κ := fun j => kd (tyC c0 j)) (by show kd (tyC c0 k) = 0; rw [hty]; rfl)) hdg kk
theorem m_putFP (X : Cx p m c cc nL s args own D cA) (hin2 : meth.name = "<init>") (hw : wS D cA z0 s σ H locs) (K : Cls c0 C T N) (hT : gT σ a = c0) (k : Nat) (hk : k < N) (hlink : Cond.fieldLink own index ref (T k).2.1 (T k).2.2.1 ∈ gTab) (hsame : ∀ x, s.fieldFound? (T k).1 (T k).2.1 (T k).2.2.1 = some x → s.fieldFound? ref (T k).2.1 (T k).2.2.1 = some x) (hfin : (T k).2.2.2 = true) (hdecl : (T k).1 = own) {b : Nat} (hkd : kd (tyC c0 k) = 2) (hn : narrow (tyC c0 k) (.ref b) = .ref b) (hfit : fits (tyC c0 k) (.ref b) = true)
    (hdg : decode cc pc = .ok (.putfield index, 3)) (kk : ∀ (H1 : Heap) (locs1 : List Loc), wS D cA z0 s (sP σ a k (some b)) H1 locs1 → W p l e R s m args below meth c H1 locs1 cells slots Q (F0 m (pc + 3) ls rest)) : W p l e R s m args below meth c H locs cells slots Q (F0 m pc ls (.ref b :: .ref a :: rest)) :=
  m_putF X hin2 hw K hT k hk hlink hsame hfin hdecl hn hfit (σ' := sP σ a k (some b)) rfl (fun _ => rfl) (fun _ => rfl) (fun _ _ _ => rfl) (fun _ _ _ => rfl) (fun _ _ h => up2_ne h) (fv_sP (κ := fun j => kd (tyC c0 j)) hkd) hdg kk
-- arrays
theorem arr_ty (hK : KN D cA s) : ∀ t, t < 7 → ArrOfT s (cA t) (tyA t) ∧ va_RA s (cA t) (tyA t)
  | 0, _ => hK.1.2 0 _ rfl
  | 1, _ => hK.1.2 1 _ rfl
  | 2, _ => hK.1.2 2 _ rfl
  | 3, _ => hK.1.2 3 _ rfl
  | 4, _ => hK.1.2 4 _ rfl
  | 5, _ => hK.1.2 5 _ rfl
  | 6, _ => hK.1.2 6 _ rfl
  | n + 7, h => absurd h (by omega)
theorem m_alen (X : Cx p m c cc nL s args own D cA) (hw : wS D cA z0 s σ H locs) {t : Nat} (ht : t < 7) (hT : gT σ a = 20 + t) (hdg : decode cc pc = .ok (.arraylength, 1))
    (kk : W p l e R s m args below meth c H locs cells slots Q (F0 m (pc + 1) ls (.int (nI (gN σ a)) :: rest))) : W p l e R s m args below meth c H locs cells slots Q (F0 m pc ls (.ref a :: rest)) := by
  obtain ⟨⟨hx, hb, hml, hown, hts⟩, hK⟩ := X
  obtain ⟨h1, h2, h3⟩ := wd_arr hw.1 hT (by omega)
  exact W.alen (n := nI (gN σ a)) hx hb h3 ((arr_ty hK t ht).1 _ _) (by rw [arrV_size] <;> rfl) rfl rfl hdg kk
theorem m_iald (X : Cx p m c cc nL s args own D cA) (hw : wS D cA z0 s σ H locs) (hT : gT σ a = 20) {i : Int32} (hin : vp_in i (gN σ a)) (hdg : decode cc pc = .ok (.iaload, 1))
    (kk : W p l e R s m args below meth c H locs cells slots Q (F0 m (pc + 1) ls (.int (gI σ a i.toNatClampNeg) :: rest))) : W p l e R s m args below meth c H locs cells slots Q (F0 m pc ls (.int i :: .ref a :: rest)) := by
  obtain ⟨⟨hx, hb, hml, hown, hts⟩, hK⟩ := X
  obtain ⟨h1, h2, h3⟩ := wd_arr (t := 0) hw.1 hT (by omega)
  have hlt : i.toNatClampNeg < gN σ a := Nat.not_le.mp fun q => hin (Or.inr q)
  exact W.iald (v := .int (gI σ a i.toNatClampNeg)) hx hb h3 ((arr_ty hK 0 (by omega)).1 _ _) (fun q => by cases q) (by rw [arrV_size]; exact hin) (by rw [arrV_read _ _ hlt]; rfl) rfl rfl hdg kk
theorem m_lald (X : Cx p m c cc nL s args own D cA) (hw : wS D cA z0 s σ H locs) (hT : gT σ a = 21) {i : Int32} (hin : vp_in i (gN σ a)) (hdg : decode cc pc = .ok (.laload, 1))
    (kk : W p l e R s m args below meth c H locs cells slots Q (F0 m (pc + 1) ls (.long (gL σ a i.toNatClampNeg) :: rest))) : W p l e R s m args below meth c H locs cells slots Q (F0 m pc ls (.int i :: .ref a :: rest)) := by
  obtain ⟨⟨hx, hb, hml, hown, hts⟩, hK⟩ := X
  obtain ⟨h1, h2, h3⟩ := wd_arr (t := 1) hw.1 hT (by omega)
  have hlt : i.toNatClampNeg < gN σ a := Nat.not_le.mp fun q => hin (Or.inr q)
  exact W.lald (v := .long (gL σ a i.toNatClampNeg)) hx hb h3 ((arr_ty hK 1 (by omega)).1 _ _) (fun q => by cases q) (by rw [arrV_size]; exact hin) (by rw [arrV_read _ _ hlt]; rfl) rfl rfl hdg kk
theorem m_zald (X : Cx p m c cc nL s args own D cA) (hw : wS D cA z0 s σ H locs) (hT : gT σ a = 22) {i : Int32} (hin : vp_in i (gN σ a)) (hdg : decode cc pc = .ok (.baload, 1))
    (kk : W p l e R s m args below meth c H locs cells slots Q (F0 m (pc + 1) ls (.int (gI σ a i.toNatClampNeg) :: rest))) : W p l e R s m args below meth c H locs cells slots Q (F0 m pc ls (.int i :: .ref a :: rest)) := by
  obtain ⟨⟨hx, hb, hml, hown, hts⟩, hK⟩ := X
  obtain ⟨h1, h2, h3⟩ := wd_arr (t := 2) hw.1 hT (by omega)
  have hlt : i.toNatClampNeg < gN σ a := Nat.not_le.mp fun q => hin (Or.inr q)
  exact W.zald (v := .int (gI σ a i.toNatClampNeg)) hx hb h3 ((arr_ty hK 2 (by omega)).1 _ _) (fun q => by cases q) (by rw [arrV_size]; exact hin) (by rw [arrV_read _ _ hlt]; rfl) rfl rfl hdg kk
theorem m_bald (X : Cx p m c cc nL s args own D cA) (hw : wS D cA z0 s σ H locs) (hT : gT σ a = 23) {i : Int32} (hin : vp_in i (gN σ a)) (hdg : decode cc pc = .ok (.baload, 1))
    (kk : W p l e R s m args below meth c H locs cells slots Q (F0 m (pc + 1) ls (.int (gI σ a i.toNatClampNeg) :: rest))) : W p l e R s m args below meth c H locs cells slots Q (F0 m pc ls (.int i :: .ref a :: rest)) := by
  obtain ⟨⟨hx, hb, hml, hown, hts⟩, hK⟩ := X
  obtain ⟨h1, h2, h3⟩ := wd_arr (t := 3) hw.1 hT (by omega)
  have hlt : i.toNatClampNeg < gN σ a := Nat.not_le.mp fun q => hin (Or.inr q)
  exact W.bald (v := .int (gI σ a i.toNatClampNeg)) hx hb h3 ((arr_ty hK 3 (by omega)).1 _ _) (fun q => by cases q) (by rw [arrV_size]; exact hin) (by rw [arrV_read _ _ hlt]; rfl) rfl rfl hdg kk
/-- a reference out of an array of Books (24), Rules (25), byte rows (26): perhaps null -/
theorem m_aald (X : Cx p m c cc nL s args own D cA) (hw : wS D cA z0 s σ H locs) {t : Nat} (ht : t = 4 ∨ t = 5 ∨ t = 6) (hT : gT σ a = 20 + t) {i : Int32} (hin : vp_in i (gN σ a)) (hdg : decode cc pc = .ok (.aaload, 1))
    (kk : W p l e R s m args below meth c H locs cells slots Q (F0 m (pc + 1) ls (va_rf (gP σ a i.toNatClampNeg) :: rest))) : W p l e R s m args below meth c H locs cells slots Q (F0 m pc ls (.int i :: .ref a :: rest)) := by
  obtain ⟨⟨hx, hb, hml, hown, hts⟩, hK⟩ := X
  obtain ⟨h1, h2, h3⟩ := wd_arr hw.1 hT (by omega)
  have hlt : i.toNatClampNeg < gN σ a := Nat.not_le.mp fun q => hin (Or.inr q)
  have e : fv (kd (tyA t)) σ a i.toNatClampNeg = va_rf (gP σ a i.toNatClampNeg) := by rcases ht with rfl | rfl | rfl <;> rfl
  exact W.aald (v := va_rf (gP σ a i.toNatClampNeg)) (ty := tyA t) hx hb h3 ((arr_ty hK t (by omega)).1 _ _) (by rcases ht with rfl | rfl | rfl <;> rfl) (fun q => by cases q) (by rw [arrV_size]; exact hin) (by rw [arrV_read _ _ hlt, e]) rfl rfl hdg kk
theorem wd_ast {t i : Nat} {v : Value} {H' : Heap} {σ' : Me} (hw : wS D cA z0 s σ H locs) (ht : t < 7) (hT : gT σ a = 20 + t)
    (hz : gz σ' = gz σ) (hTT : ∀ q, gT σ' q = gT σ q) (hNN : ∀ q, gN σ' q = gN σ q) (hI : ∀ q j, q ≠ a → gI σ' q j = gI σ q j) (hL : ∀ q j, q ≠ a → gL σ' q j = gL σ q j) (hP : ∀ q j, q ≠ a → gP σ' q j = gP σ q j) (hf : ∀ j, fv (kd (tyA t)) σ' a j = updV (fun j => fv (kd (tyA t)) σ a j) i v j)
    (e1 : H'[a]? = some ((arrV (cA t) (gN σ a) (fun k => fv (kd (tyA t)) σ a k)).setSlot i v)) (e2 : H'.size = H.size) (e3 : ∀ q, q ≠ a → H'[q]? = H[q]?) : wS D cA z0 s σ' H' (locs ++ [⟨a, i⟩]) := by
  obtain ⟨h1, h2, h3⟩ := wd_arr hw.1 hT (by omega)
  refine ⟨wd_set hw.1 hz hTT hNN hI hL hP e2 e3 ⟨fun h => ?_, fun h => ?_⟩, va_S_put hw.2 h1 e2 e3⟩
  · rw [hTT, hT] at h
    omega
  · rw [hTT, hT, hNN, Nat.add_sub_cancel_left, e1, arrV_store]
    congr 2
    funext j
    exact (hf j).symm
theorem m_iast (X : Cx p m c cc nL s args own D cA) (hw : wS D cA z0 s σ H locs) (hT : gT σ a = 20) {i x : Int32} (hin : vp_in i (gN σ a)) (hdg : decode cc pc = .ok (.iastore, 1))
    (kk : ∀ (H1 : Heap) (locs1 : List Loc), wS D cA z0 s (sI σ a i.toNatClampNeg x) H1 locs1 → W p l e R s m args below meth c H1 locs1 cells slots Q (F0 m (pc + 1) ls rest)) : W p l e R s m args below meth c H locs cells slots Q (F0 m pc ls (.int x :: .int i :: .ref a :: rest)) := by
  obtain ⟨⟨hx, hb, hml, hown, hts⟩, hK⟩ := X
  obtain ⟨h1, h2, h3⟩ := wd_arr (t := 0) hw.1 hT (by omega)
  refine W.iast hx hb h3 ((arr_ty hK 0 (by omega)).1 _ _) (fun q => by cases q) (by rw [arrV_size]; exact hin) rfl rfl hdg fun H' e1 e2 e3 => ?_
  exact kk H' _ (wd_ast (t := 0) hw (by omega) hT rfl (fun _ => rfl) (fun _ => rfl) (fun _ _ h => up2_ne h) (fun _ _ _ => rfl) (fun _ _ _ => rfl) (fv_sI (κ := fun _ => 0) rfl) e1 e2 e3)
theorem m_bast (X : Cx p m c cc nL s args own D cA) (hw : wS D cA z0 s σ H locs) (hT : gT σ a = 23) {i x : Int32} (hin : vp_in i (gN σ a)) (hdg : decode cc pc = .ok (.bastore, 1))
    (kk : ∀ (H1 : Heap) (locs1 : List Loc), wS D cA z0 s (sI σ a i.toNatClampNeg (vp_nar .byte x)) H1 locs1 → W p l e R s m args below meth c H1 locs1 cells slots Q (F0 m (pc + 1) ls rest)) : W p l e R s m args below meth c H locs cells slots Q (F0 m pc ls (.int x :: .int i :: .ref a :: rest)) := by
  obtain ⟨⟨hx, hb, hml, hown, hts⟩, hK⟩ := X
  obtain ⟨h1, h2, h3⟩ := wd_arr (t := 3) hw.1 hT (by omega)
  refine W.bast hx hb h3 ((arr_ty hK 3 (by omega)).1 _ _) (fun q => by cases q) (by rw [arrV_size]; exact hin) rfl rfl hdg fun H' e1 e2 e3 => ?_
  exact kk H' _ (wd_ast (t := 3) hw (by omega) hT rfl (fun _ => rfl) (fun _ => rfl) (fun _ _ h => up2_ne h) (fun _ _ _ => rfl) (fun _ _ _ => rfl) (fv_sI (κ := fun _ => 0) rfl) e1 e2 e3)
theorem m_zast (X : Cx p m c cc nL s args own D cA) (hw : wS D cA z0 s σ H locs) (hT : gT σ a = 22) {i x : Int32} (hin : vp_in i (gN σ a)) (hdg : decode cc pc = .ok (.bastore, 1))
    (kk : ∀ (H1 : Heap) (locs1 : List Loc), wS D cA z0 s (sI σ a i.toNatClampNeg (vp_nar .boolean x)) H1 locs1 → W p l e R s m args below meth c H1 locs1 cells slots Q (F0 m (pc + 1) ls rest)) : W p l e R s m args below meth c H locs cells slots Q (F0 m pc ls (.int x :: .int i :: .ref a :: rest)) := by
  obtain ⟨⟨hx, hb, hml, hown, hts⟩, hK⟩ := X
  obtain ⟨h1, h2, h3⟩ := wd_arr (t := 2) hw.1 hT (by omega)
  refine W.zast hx hb h3 ((arr_ty hK 2 (by omega)).1 _ _) (fun q => by cases q) (by rw [arrV_size]; exact hin) rfl rfl hdg fun H' e1 e2 e3 => ?_
  exact kk H' _ (wd_ast (t := 2) hw (by omega) hT rfl (fun _ => rfl) (fun _ => rfl) (fun _ _ h => up2_ne h) (fun _ _ _ => rfl) (fun _ _ _ => rfl) (fv_sI (κ := fun _ => 0) rfl) e1 e2 e3)
theorem m_last (X : Cx p m c cc nL s args own D cA) (hw : wS D cA z0 s σ H locs) (hT : gT σ a = 21) {i : Int32} {x : Int64} (hin : vp_in i (gN σ a)) (hdg : decode cc pc = .ok (.lastore, 1))
    (kk : ∀ (H1 : Heap) (locs1 : List Loc), wS D cA z0 s (sL σ a i.toNatClampNeg x) H1 locs1 → W p l e R s m args below meth c H1 locs1 cells slots Q (F0 m (pc + 1) ls rest)) : W p l e R s m args below meth c H locs cells slots Q (F0 m pc ls (.long x :: .int i :: .ref a :: rest)) := by
  obtain ⟨⟨hx, hb, hml, hown, hts⟩, hK⟩ := X
  obtain ⟨h1, h2, h3⟩ := wd_arr (t := 1) hw.1 hT (by omega)
  refine W.last hx hb h3 ((arr_ty hK 1 (by omega)).1 _ _) (fun q => by cases q) (by rw [arrV_size]; exact hin) rfl rfl hdg fun H' e1 e2 e3 => ?_
  exact kk H' _ (wd_ast (t := 1) hw (by omega) hT rfl (fun _ => rfl) (fun _ => rfl) (fun _ _ _ => rfl) (fun _ _ h => up2_ne h) (fun _ _ _ => rfl) (fv_sL (κ := fun _ => 1) rfl) e1 e2 e3)
end MR
end
section
/-! New cells, references, calls, ends. -/
theorem gT_nw_self (σ : Me) (t n : Nat) : gT (nw σ t n) (gz σ) = t := by simp [gT, gz, nw, va_up]
theorem gN_nw_self (σ : Me) (t n : Nat) : gN (nw σ t n) (gz σ) = n := by simp [gN, gz, nw, va_up]
theorem gT_nw {σ : Me} {t n q : Nat} (h : q ≠ gz σ) : gT (nw σ t n) q = gT σ q := by simp only [gz] at h; simp [gT, nw, va_up, h]
theorem gN_nw {σ : Me} {t n q : Nat} (h : q ≠ gz σ) : gN (nw σ t n) q = gN σ q := by simp only [gz] at h; simp [gN, nw, va_up, h]
theorem gI_nw {σ : Me} {t n q : Nat} (h : q ≠ gz σ) (j : Nat) : gI (nw σ t n) q j = gI σ q j := by simp only [gz] at h; simp [gI, nw, va_up, h]
theorem gL_nw {σ : Me} {t n q : Nat} (h : q ≠ gz σ) (j : Nat) : gL (nw σ t n) q j = gL σ q j := by simp only [gz] at h; simp [gL, nw, va_up, h]
theorem gP_nw {σ : Me} {t n q : Nat} (h : q ≠ gz σ) (j : Nat) : gP (nw σ t n) q j = gP σ q j := by simp only [gz] at h; simp [gP, nw, va_up, h]
theorem gI_nw_self (σ : Me) (t n j : Nat) : gI (nw σ t n) (gz σ) j = 0 := by simp [gI, gz, nw, va_up]
theorem gL_nw_self (σ : Me) (t n j : Nat) : gL (nw σ t n) (gz σ) j = 0 := by simp [gL, gz, nw, va_up]
theorem gP_nw_self (σ : Me) (t n j : Nat) : gP (nw σ t n) (gz σ) j = none := by simp [gP, gz, nw, va_up]
theorem gz_nw (σ : Me) (t n : Nat) : gz (nw σ t n) = gz σ + 1 := rfl
theorem fv_zero (t : FieldType) (h : kd t < 3) (σ : Me) (c n k : Nat) : fv (kd t) (nw σ c n) (gz σ) k = defaultValue t := by
  cases t <;> first | (simp [kd] at h; done) | (simp [kd, fv, gI_nw_self, gL_nw_self, gP_nw_self, va_rf, defaultValue]; done) | (simp [kd, fv, gI_nw_self, gL_nw_self, gP_nw_self, va_rf, defaultValue]; rfl)
theorem wd_new {D : va_G} {cA : Nat → ClassId} {z0 t n : Nat} {σ : Me} {H H' : Heap} (hw : wd D cA z0 σ H) (hz : H'.size = H.size + 1) (ho : ∀ q, q < H.size → H'[q]? = H[q]?) (hc : cel D cA (nw σ t n) (gz σ) H') : wd D cA z0 (nw σ t n) H' := by
  refine ⟨by rw [hz, hw.1]; rfl, by rw [gz_nw]; have := hw.2.1; omega, fun q hq => ?_⟩
  by_cases e : q = gz σ
  · subst e
    exact ⟨hw.2.1, by rw [gz_nw]; omega, hc⟩
  · rw [gT_nw e] at hq
    obtain ⟨h1, h2, h3⟩ := hw.2.2 q hq
    exact ⟨h1, by rw [gz_nw]; omega, cel_same h3 (gT_nw e) (gN_nw e) (gI_nw e) (gL_nw e) (gP_nw e) (ho q (by rw [hw.1]; exact h2))⟩
theorem va_S_new {z0 : Nat} {H0 H H' : Heap} {locs : List Loc} (h : va_S (fun q => z0 ≤ q) H0 H locs) (hz : H'.size = H.size + 1) (ho : ∀ q, q < H.size → H'[q]? = H[q]?) : va_S (fun q => z0 ≤ q) H0 H' locs :=
  ⟨by rw [hz]; have := h.1; omega, fun q h1 h2 => (ho q (Nat.lt_of_lt_of_le h1 h.1)).trans (h.2.1 q h1 h2), h.2.2⟩
/-- a method's start and ends over a memory -/
def PcM (D : va_G) (cA : Nat → ClassId) (z0 : Nat) (σ : Me) (av : List Value) : Array Value → State → Prop := va_Pc av (fun U => wd D cA z0 σ U.heap ∧ KN D cA U)
abbrev BM (D : va_G) (cA : Nat → ClassId) (z0 : Nat) : Me → State → Prop := fun σ' t => wd D cA z0 σ' t.heap
abbrev AM (z0 : Nat) : Nat → Prop := fun q => z0 ≤ q
theorem KN_same {D : va_G} {cA : Nat → ClassId} {u U : State} (hv : u.vm = U.vm) (h : KN D cA u) : KN D cA U := by
  obtain ⟨h1, h2, h3, h4, h5, h6⟩ := h
  have ha : u.vm.Alike U.vm := by rw [hv]; exact Vm.Alike.refl _
  have n1 : ∀ w ∈ nestW, w.onTables = true := by unfold nestW; simp [Cond.onTables]
  have n2 : ∀ w ∈ declW, w.onTables = true := by unfold declW; simp [Cond.onTables]
  have n3 : ∀ w ∈ castW, w.onTables = true := by unfold castW; simp [Cond.onTables]
  exact ⟨va_K.moved ha h1, fun w hw => va_Nw.same (n1 w hw) hv (h2 w hw), fun w hw => va_Nw.same (n2 w hw) hv (h3 w hw), fun w hw => va_Nw.same (n3 w hw) hv (h4 w hw), fun q hq => va_Nc.moved ha (h5 q hq), by rw [← hv]; exact h6⟩
theorem PcM.blind {D : va_G} {cA : Nat → ClassId} {z0 : Nat} {σ : Me} {av : List Value} : FrameBlind (PcM D cA z0 σ av) := by
  intro a U g mk q
  obtain ⟨q0, q1, q2⟩ := q
  exact ⟨q0, q1, KN_same (u := U) (U := U.calling g mk a) rfl q2⟩
/-- a method that is called: its code is among the words, its class is ready -/
def Mth (y : MethodName) (bytes : ByteArray) (maxL : Nat) (ret : Option FieldType) (n : Nat) : Prop := Cond.code y bytes maxL ret ∈ gTab ∧ Cond.initialized y.cls ∈ gTab ∧ (y.cls ≠ "java/lang/invoke/MethodHandle" ∧ y.cls ≠ "java/lang/invoke/VarHandle" ∧ (parseMethodDescriptor y.desc).map (fun d => d.parameters.length) = some n)
def fitR (rm R : Room) (maxL mc ms cells slots : Nat) : Prop := (rm.cells = mc ∧ rm.slots = ms ∧ rm.frames + 1 ≤ R.frames ∧ 8 + (maxL + 11) + rm.locals ≤ R.locals) ∧ cells + mc ≤ R.cells ∧ slots + ms ≤ R.slots
section MC
variable {p : Program} {l : Launch} {e : Env} {R : Room} {s : State} {m : MethodId} {args : Array Value} {below : List Frame} {meth : Method} {c : Code} {H : Heap} {locs : List Loc} {cells slots : Nat} {Q : State → Prop}
variable {cc : ByteArray} {pc nL : Nat} {ls : Array Slot} {rest : List Value} {D : va_G} {cA : Nat → ClassId} {a z0 c0 N index : Nat} {σ : Me} {own ref C : String} {T : u_T}
theorem m_new (X : Cx p m c cc nL s args own D cA) (hw : wS D cA z0 s σ H locs) (K : Cls c0 C T N) (hkd : ∀ k, k < N → kd (tyC c0 k) < 3) (hcl : Cond.classLink own index C ∈ gTab) (hinst : Cond.instantiable C N ∈ gTab) (hini : Cond.initialized C ∈ gTab) (hcells : cells + 1 ≤ R.cells ∧ slots + N ≤ R.slots) (hdg : decode cc pc = .ok (.new index, 3))
    (kk : ∀ (H1 : Heap), wS D cA z0 s (nw σ c0 0) H1 locs → W p l e R s m args below meth c H1 locs (cells + 1) (slots + N) Q (F0 m (pc + 3) ls (.ref (gz σ) :: rest))) : W p l e R s m args below meth c H locs cells slots Q (F0 m pc ls rest) := by
  obtain ⟨⟨hx, hb, hml, hown, hts⟩, hK⟩ := X
  have hKn := hK.1.1 c0 _ K.1
  refine W.newcK hx hb hown (hts _ hcl) (hts _ hinst) (hts _ hini) rfl hdg hcells.1 hcells.2 hKn.2.1 hw.1.1 fun H1 kC hkC e1 z1 o1 => ?_
  refine kk H1 ⟨wd_new hw.1 (by rw [z1, hw.1.1]) (fun q hq => o1 q (by rw [← hw.1.1]; exact hq)) ⟨fun h => ?_, fun h => ?_⟩, va_S_new hw.2 (by rw [z1, hw.1.1]) (fun q hq => o1 q (by rw [← hw.1.1]; exact hq))⟩
  · rw [gT_nw_self]
    exact ⟨_, K.1, (u_born (tyC c0) hts K.2.1 hKn hkC e1 K.2.2.1).to (fun j hj => (fv_zero _ (hkd j hj) σ c0 0 j).symm)⟩
  · rw [gT_nw_self] at h
    have := K.2.2.2.2
    omega
theorem m_newa (X : Cx p m c cc nL s args own D cA) (hw : wS D cA z0 s σ H locs) {t : Nat} (ht : t < 4) {atype : ArrayType} (hty : newarray.typeOf atype = tyA t) (harr : Cond.arrayClass (tyA t) ∈ gTab) {n : Int32} {N' : Nat} (hn : ¬ n < 0) (hN : n.toNatClampNeg = N') (hbytes : N' * componentBytes (tyA t) ≤ 536870912) (hcells : cells + 1 ≤ R.cells ∧ slots + N' ≤ R.slots) (hdg : decode cc pc = .ok (.newarray atype, 2))
    (kk : ∀ (H1 : Heap), wS D cA z0 s (nw σ (20 + t) N') H1 locs → W p l e R s m args below meth c H1 locs (cells + 1) (slots + N') Q (F0 m (pc + 2) ls (.ref (gz σ) :: rest))) : W p l e R s m args below meth c H locs cells slots Q (F0 m pc ls (.int n :: rest)) := by
  obtain ⟨⟨hx, hb, hml, hown, hts⟩, hK⟩ := X
  refine va_newaK hx hb (by rw [hty]; exact hts _ harr) rfl hdg rfl hn hN (by rw [hty]; exact hbytes) hcells.1 hcells.2 hw.1.1 fun H1 cA1 e1 z1 o1 hAr hNm => ?_
  have hcA : cA1 = cA t := by
    have h := (arr_ty hK t (by omega)).2
    rw [hty] at hNm
    have h2 : s.vm.findClass ("[" ++ (tyA t).toString) = some (cA t) := by
      match t, ht, h with
      | 0, _, h => exact h
      | 1, _, h => exact h
      | 2, _, h => exact h
      | 3, _, h => exact h
    exact Option.some.inj (hNm.symm.trans h2)
  subst hcA
  refine kk H1 ⟨wd_new hw.1 (by rw [z1, hw.1.1]) (fun q hq => o1 q (by rw [← hw.1.1]; exact hq)) ⟨fun h => ?_, fun h => ?_⟩, va_S_new hw.2 (by rw [z1, hw.1.1]) (fun q hq => o1 q (by rw [← hw.1.1]; exact hq))⟩
  · rw [gT_nw_self] at h
    omega
  · rw [gT_nw_self, gN_nw_self, Nat.add_sub_cancel_left, e1, hty]
    congr 2
    funext k
    refine (fv_zero (tyA t) ?_ σ _ _ k).symm
    match t, ht with
    | 0, _ => decide
    | 1, _ => decide
    | 2, _ => decide
    | 3, _ => decide
theorem m_newq (X : Cx p m c cc nL s args own D cA) (hw : wS D cA z0 s σ H locs) {t : Nat} (ht : tyA t = .object C) (ht7 : t < 7) (hcl : Cond.classLink own index C ∈ gTab) (hover : va_AO C s) {n : Int32} {N' : Nat} (hn : ¬ n < 0) (hN : n.toNatClampNeg = N') (hbytes : N' * 4 ≤ 536870912) (hcells : cells + 1 ≤ R.cells ∧ slots + N' ≤ R.slots) (hdg : decode cc pc = .ok (.anewarray index, 3))
    (kk : ∀ (H1 : Heap), wS D cA z0 s (nw σ (20 + t) N') H1 locs → W p l e R s m args below meth c H1 locs (cells + 1) (slots + N') Q (F0 m (pc + 3) ls (.ref (gz σ) :: rest))) : W p l e R s m args below meth c H locs cells slots Q (F0 m pc ls (.int n :: rest)) := by
  obtain ⟨⟨hx, hb, hml, hown, hts⟩, hK⟩ := X
  subst hN
  refine W.anew hx hb hown (hts _ hcl) (va_AO.use hover) rfl hdg rfl hn hbytes hcells.1 hcells.2 fun cA1 kA comp f1 f2 f3 f4 => ?_
  have hcA : cA1 = cA t := by
    have h := (arr_ty hK t ht7).2
    rw [ht] at h
    obtain ⟨_, _, _, _, _, h4⟩ := h
    exact Option.some.inj (f1.symm.trans h4)
  subst hcA
  generalize hH1 : H.push ({ cls := cA t, slots := Array.replicate n.toNatClampNeg .null, vm := .none } : Cell) = H1
  have z1 : H1.size = H.size + 1 := by rw [← hH1, Array.size_push]
  have e1 : H1[H.size]? = some (arrV (cA t) n.toNatClampNeg (fun _ => .null)) := by rw [← hH1, Array.getElem?_push_size, ← arrV_new]
  have o1 : ∀ q : Nat, q < H.size → H1[q]? = H[q]? := fun q hq => by rw [← hH1, Array.getElem?_push, if_neg (Nat.ne_of_lt hq)]
  rw [hw.1.1] at e1 ⊢
  refine kk H1 ⟨wd_new hw.1 z1 o1 ⟨fun h => ?_, fun h => ?_⟩, va_S_new hw.2 z1 o1⟩
  · rw [gT_nw_self] at h
    omega
  · rw [gT_nw_self, gN_nw_self, Nat.add_sub_cancel_left, e1]
    congr 2
    funext k
    have := fv_zero (tyA t) (by rw [ht]; show (2 : Nat) < 3; omega) σ (20 + t) n.toNatClampNeg k
    rw [this, ht]
    rfl
/-- the cell of a known class, as a receiver -/
theorem m_recv (hK : KN D cA s) (hw : wS D cA z0 s σ H locs) (K : Cls c0 C T N) (hT : gT σ a = c0) : ∃ cell : Cell, H[a]? = some cell ∧ cell.vm.isStatics = false ∧ s.vm.findClass C = some cell.cls := by
  obtain ⟨-, -, cell, q1, q2, q3, q4⟩ := wd_obj hw.1 K hT
  exact ⟨cell, q1, by rw [q3]; rfl, by rw [q2]; exact (hK.1.1 c0 _ K.1).2.1⟩
theorem m_pre {av : List Value} (hK : KN D cA s) (hw : wS D cA z0 s σ H locs) : ∀ U : State, U.heap = H → s.WarmedH U.vm → PcM D cA z0 σ av av.toArray U := fun U hU hW => ⟨rfl, by rw [hU]; exact hw.1, KN.warm hW hK⟩
variable {y : MethodName} {bytes : ByteArray} {maxL mc ms n : Nat} {ret : Option FieldType} {rm : Room} {As st0 : List Value} {b : Nat}
theorem m_callB (X : Cx p m c cc nL s args own D cA) (M : Mth y bytes maxL ret n) (hl : Cond.methodLink own index y ∈ gTab) (hR : fitR rm R maxL mc ms cells slots) : CallB R s args own index y bytes maxL ret (Cond.code y bytes maxL ret :: gTab) rm mc ms n :=
  callB_of n X.1.2.2.2.2 (gTab_call M.1) rfl hR.1.1 hR.1.2.1 (X.1.2.2.2.2 _ M.2.1) (X.1.2.2.2.2 _ hl) M.2.2 ⟨hR.1.2.2.1, hR.1.2.2.2⟩
theorem m_runS {Qc : Array Value → State → Outcome → State → Prop} (X : Cx p m c cc nL s args own D cA) (hw : wS D cA z0 s σ H locs) (hM : Met l y (Cond.code y bytes maxL ret :: gTab) rm (PcM D cA z0 σ As) Qc mc ms (AM z0)) (M : Mth y bytes maxL ret n) (hl : Cond.methodLink own index y ∈ gTab) (hst : Cond.static y ∈ gTab) (hR : fitR rm R maxL mc ms cells slots) (hn : As.length = n) (hsz : ls.size = nL) (hstk : st0 = As.reverse ++ rest) (hW : (rest.map fun v => v.category).sum ≤ 8) (hdg : decode cc pc = .ok (.invokestatic index, 3)) :
    va_Run p l e R s m args below meth c H locs cells slots mc ms (F0 m pc ls st0) rest (Qc As.toArray) (AM z0) :=
  va_runS X.1 hM ⟨m_callB X M hl hR, X.1.2.2.2.2 _ hst⟩ ⟨PcM.blind, m_pre X.2 hw⟩ rfl hn hsz hstk (lv_room hW) hdg hR.2
theorem m_runV {Qc : Array Value → State → Outcome → State → Prop} (X : Cx p m c cc nL s args own D cA) (hw : wS D cA z0 s σ H locs) (hM : Met l y (Cond.code y bytes maxL ret :: gTab) rm (PcM D cA z0 σ (.ref b :: As)) Qc mc ms (AM z0)) (M : Mth y bytes maxL ret n) (hl : Cond.methodLink own index y ∈ gTab) (hin : Cond.instanceMethod y ∈ gTab ∧ Cond.selects C y y ∈ gTab) (K : Cls c0 C T N) (hT : gT σ b = c0) (hR : fitR rm R maxL mc ms cells slots) (hn : As.length = n) (hsz : ls.size = nL) (hstk : st0 = As.reverse ++ .ref b :: rest) (hW : (rest.map fun v => v.category).sum ≤ 8) (hdg : decode cc pc = .ok (.invokevirtual index, 3)) :
    va_Run p l e R s m args below meth c H locs cells slots mc ms (F0 m pc ls st0) rest (Qc (Value.ref b :: As).toArray) (AM z0) :=
  va_runV (C := C) X.1 hM ⟨m_callB X M hl hR, X.1.2.2.2.2 _ hin.1, X.1.2.2.2.2 _ hin.2⟩ ⟨PcM.blind, m_recv X.2 hw K hT, m_pre X.2 hw⟩ rfl hn hsz hstk (lv_room hW) hdg hR.2
theorem m_runI {Qc : Array Value → State → Outcome → State → Prop} (X : Cx p m c cc nL s args own D cA) (hw : wS D cA z0 s σ H locs) (hM : Met l y (Cond.code y bytes maxL none :: gTab) rm (PcM D cA z0 σ (.ref b :: As)) Qc mc ms (AM z0)) (M : Mth y bytes maxL none n) (hl : Cond.methodLink own index y ∈ gTab) (hin : Cond.instanceMethod y ∈ gTab) (hy1 : y.name = "<init>") (hR : fitR rm R maxL mc ms cells slots) (hn : As.length = n) (hsz : ls.size = nL) (hstk : st0 = As.reverse ++ .ref b :: rest) (hW : (rest.map fun v => v.category).sum ≤ 8) (hdg : decode cc pc = .ok (.invokespecial index, 3)) :
    va_Run p l e R s m args below meth c H locs cells slots mc ms (F0 m pc ls st0) rest (Qc (Value.ref b :: As).toArray) (AM z0) :=
  va_runI X.1 hM ⟨m_callB X M hl hR, hy1, X.1.2.2.2.2 _ hin⟩ ⟨PcM.blind, m_pre X.2 hw⟩ rfl hn hsz hstk (lv_room hW) hdg hR.2
theorem m_callN {host : String} (X : Cx p m c cc nL s args own D cA) (M : Mth y bytes maxL ret n) (hl : Cond.methodLinkNest own index y host ∈ nestW) (hR : fitR rm R maxL mc ms cells slots) : va_CN R s args own index y host bytes maxL ret (Cond.code y bytes maxL ret :: gTab) rm mc ms n :=
  va_cnB n X.1.2.2.2.2 (gTab_call M.1) rfl hR.1.1 hR.1.2.1 (X.2.2.1 _ hl) (X.1.2.2.2.2 _ M.2.1) M.2.2 ⟨hR.1.2.2.1, hR.1.2.2.2⟩
theorem m_runSN {host : String} {Qc : Array Value → State → Outcome → State → Prop} (X : Cx p m c cc nL s args own D cA) (hw : wS D cA z0 s σ H locs) (hM : Met l y (Cond.code y bytes maxL ret :: gTab) rm (PcM D cA z0 σ As) Qc mc ms (AM z0)) (M : Mth y bytes maxL ret n) (hl : Cond.methodLinkNest own index y host ∈ nestW) (hst : Cond.static y ∈ gTab) (hR : fitR rm R maxL mc ms cells slots) (hn : As.length = n) (hsz : ls.size = nL) (hstk : st0 = As.reverse ++ rest) (hW : (rest.map fun v => v.category).sum ≤ 8) (hdg : decode cc pc = .ok (.invokestatic index, 3)) :
    va_Run p l e R s m args below meth c H locs cells slots mc ms (F0 m pc ls st0) rest (Qc As.toArray) (AM z0) :=
  va_runSN X.1 hM ⟨m_callN X M hl hR, X.1.2.2.2.2 _ hst, trivial⟩ ⟨PcM.blind, m_pre X.2 hw⟩ rfl hn hsz hstk (lv_room hW) hdg hR.2
theorem m_runIN {host : String} {Qc : Array Value → State → Outcome → State → Prop} (X : Cx p m c cc nL s args own D cA) (hw : wS D cA z0 s σ H locs) (hM : Met l y (Cond.code y bytes maxL none :: gTab) rm (PcM D cA z0 σ (.ref b :: As)) Qc mc ms (AM z0)) (M : Mth y bytes maxL none n) (hl : Cond.methodLinkNest own index y host ∈ nestW) (hin : Cond.instanceMethod y ∈ gTab) (hy1 : y.name = "<init>") (hR : fitR rm R maxL mc ms cells slots) (hn : As.length = n) (hsz : ls.size = nL) (hstk : st0 = As.reverse ++ .ref b :: rest) (hW : (rest.map fun v => v.category).sum ≤ 8) (hdg : decode cc pc = .ok (.invokespecial index, 3)) :
    va_Run p l e R s m args below meth c H locs cells slots mc ms (F0 m pc ls st0) rest (Qc (Value.ref b :: As).toArray) (AM z0) :=
  va_runIN X.1 hM ⟨m_callN X M hl hR, hy1, X.1.2.2.2.2 _ hin⟩ ⟨PcM.blind, m_pre X.2 hw⟩ rfl hn hsz hstk (lv_room hW) hdg hR.2
theorem m_ci {post : Int32 → Me → Prop} {av : Array Value} (hr : va_Run p l e R s m args below meth c H locs cells slots mc ms (F0 m pc ls st0) rest (va_Qi post (BM D cA z0) (AM z0) av) (AM z0)) (hw : wS D cA z0 s σ H locs)
    (kk : ∀ (r : Int32) (σ' : Me) (H1 : Heap) (locs1 : List Loc), post r σ' → wS D cA z0 s σ' H1 locs1 → W p l e R s m args below meth c H1 locs1 (cells + mc) (slots + ms) Q (F0 m (pc + 3) ls (.int r :: rest))) : W p l e R s m args below meth c H locs cells slots Q (F0 m pc ls st0) :=
  va_calli hr hw.2 (fun _ _ h => h) (fun _ h => h) fun r u t H1 locs1 ht _ hp hB _ _ hS => kk r u H1 locs1 hp ⟨by rw [← ht]; exact hB, hS⟩
theorem m_cl {post : Int64 → Me → Prop} {av : Array Value} (hr : va_Run p l e R s m args below meth c H locs cells slots mc ms (F0 m pc ls st0) rest (va_Ql post (BM D cA z0) (AM z0) av) (AM z0)) (hw : wS D cA z0 s σ H locs)
    (kk : ∀ (r : Int64) (σ' : Me) (H1 : Heap) (locs1 : List Loc), post r σ' → wS D cA z0 s σ' H1 locs1 → W p l e R s m args below meth c H1 locs1 (cells + mc) (slots + ms) Q (F0 m (pc + 3) ls (.long r :: rest))) : W p l e R s m args below meth c H locs cells slots Q (F0 m pc ls st0) :=
  va_calll hr hw.2 (fun _ _ h => h) (fun _ h => h) fun r u t H1 locs1 ht _ hp hB _ _ hS => kk r u H1 locs1 hp ⟨by rw [← ht]; exact hB, hS⟩
theorem m_cv {post : Me → Prop} {av : Array Value} (hr : va_Run p l e R s m args below meth c H locs cells slots mc ms (F0 m pc ls st0) rest (va_Qv post (BM D cA z0) (AM z0) av) (AM z0)) (hw : wS D cA z0 s σ H locs)
    (kk : ∀ (σ' : Me) (H1 : Heap) (locs1 : List Loc), post σ' → wS D cA z0 s σ' H1 locs1 → W p l e R s m args below meth c H1 locs1 (cells + mc) (slots + ms) Q (F0 m (pc + 3) ls rest)) : W p l e R s m args below meth c H locs cells slots Q (F0 m pc ls st0) :=
  va_callv hr hw.2 (fun _ _ h => h) (fun _ h => h) fun u t H1 locs1 ht _ hp hB _ _ hS => kk u H1 locs1 hp ⟨by rw [← ht]; exact hB, hS⟩
-- null or not
theorem m_aloadQ_n (X : Cx p m c cc nL s args own D cA) {k : Fin 4} {i : Nat} {x : Option Nat} (hdg : decode cc pc = .ok (.aload_n k, 1)) (hi : (k : Nat) = i) (hl : ls[i]? = some (.val (va_rf x))) (kk : W p l e R s m args below meth c H locs cells slots Q (F0 m (pc + 1) ls (va_rf x :: rest))) : W p l e R s m args below meth c H locs cells slots Q (F0 m pc ls rest) := by
  cases x with
  | none => exact lv_aload_nN X.1.1 X.1.2.1 hdg hi hl kk
  | some b => exact lv_aload_n X.1.1 X.1.2.1 hdg hi hl kk
theorem m_aloadQ (X : Cx p m c cc nL s args own D cA) {i : Nat} {x : Option Nat} (hdg : decode cc pc = .ok (.aload i, 2)) (hl : ls[i]? = some (.val (va_rf x))) (kk : W p l e R s m args below meth c H locs cells slots Q (F0 m (pc + 2) ls (va_rf x :: rest))) : W p l e R s m args below meth c H locs cells slots Q (F0 m pc ls rest) := by
  cases x with
  | none => exact lv_aloadN X.1.1 X.1.2.1 hdg hl kk
  | some b => exact lv_aload X.1.1 X.1.2.1 hdg hl kk
theorem m_astoreQ_n (X : Cx p m c cc nL s args own D cA) {k : Fin 4} {i nL' : Nat} {x : Option Nat} {lv lv' : List (Nat × Value)} (hdg : decode cc pc = .ok (.astore_n k, 1)) (hi : (k : Nat) = i) (h : lv_has ls nL' lv) (hn : i < nL') (hl : (i, va_rf x) :: lv.filter (fun q => !(q.1 == i) && !(q.1 + 1 == i && q.2.category == 2)) = lv') (kk : ∀ ls' : Array Slot, lv_has ls' nL' lv' → W p l e R s m args below meth c H locs cells slots Q (F0 m (pc + 1) ls' rest)) : W p l e R s m args below meth c H locs cells slots Q (F0 m pc ls (va_rf x :: rest)) := by
  cases x with
  | none => exact lv_astore_nN X.1.1 X.1.2.1 hdg hi h hn hl kk
  | some b => exact lv_astore_n X.1.1 X.1.2.1 hdg hi h hn hl kk
theorem m_ifnonnull (X : Cx p m c cc nL s args own D cA) {x : Option Nat} {off : Int} {tgt : Nat} (hdg : decode cc pc = .ok (.ifnonnull off, 3)) (ht : (pc : Int) + off = (tgt : Int)) (ks : ∀ b, x = some b → W p l e R s m args below meth c H locs cells slots Q (F0 m tgt ls rest)) (kn : x = none → W p l e R s m args below meth c H locs cells slots Q (F0 m (pc + 3) ls rest)) : W p l e R s m args below meth c H locs cells slots Q (F0 m pc ls (va_rf x :: rest)) := by
  cases x with
  | none => exact lv_ifnonnullN X.1.1 X.1.2.1 hdg (kn rfl)
  | some b => exact lv_ifnonnull X.1.1 X.1.2.1 hdg ht (ks b rfl)
theorem m_ifnull (X : Cx p m c cc nL s args own D cA) {x : Option Nat} {off : Int} {tgt : Nat} (hdg : decode cc pc = .ok (.ifnull off, 3)) (ht : (pc : Int) + off = (tgt : Int)) (kn : x = none → W p l e R s m args below meth c H locs cells slots Q (F0 m tgt ls rest)) (ks : ∀ b, x = some b → W p l e R s m args below meth c H locs cells slots Q (F0 m (pc + 3) ls rest)) : W p l e R s m args below meth c H locs cells slots Q (F0 m pc ls (va_rf x :: rest)) := by
  cases x with
  | none => exact lv_ifnullN X.1.1 X.1.2.1 hdg ht (kn rfl)
  | some b => exact lv_ifnull X.1.1 X.1.2.1 hdg (ks b rfl)
/-- a store of an object of the array's own class (Books: 24, class 1) -/
theorem m_aastB (X : Cx p m c cc nL s args own D cA) (hw : wS D cA z0 s σ H locs) (hT : gT σ a = 24) {i : Int32} {v : Nat} (hv : gT σ v = 1) (hin : vp_in i (gN σ a)) (hdg : decode cc pc = .ok (.aastore, 1))
    (kk : ∀ (H1 : Heap) (locs1 : List Loc), wS D cA z0 s (sP σ a i.toNatClampNeg (some v)) H1 locs1 → W p l e R s m args below meth c H1 locs1 cells slots Q (F0 m (pc + 1) ls rest)) : W p l e R s m args below meth c H locs cells slots Q (F0 m pc ls (.ref v :: .int i :: .ref a :: rest)) := by
  obtain ⟨⟨hx, hb, hml, hown, hts⟩, hK⟩ := X
  obtain ⟨h1, h2, h3⟩ := wd_arr (t := 4) hw.1 hT (by omega)
  have hlt : i.toNatClampNeg < gN σ a := Nat.not_le.mp fun q => hin (Or.inr q)
  have h0 : ¬ i < 0 := fun q => hin (Or.inl q)
  obtain ⟨-, -, cellV, g1, g2, g3, -⟩ := wd_obj hw.1 cl1 hv
  have hcls := (hK.1.1 1 _ cl1.1).2
  obtain ⟨kA, comp, k1, k2, k3, -⟩ := (arr_ty hK 4 (by omega)).2
  have hcomp : comp = D.1 1 := Option.some.inj (k3.symm.trans hcls.1)
  subst hcomp
  obtain ⟨kC, hkC, -⟩ := hcls.2
  refine W.aast hx hb h3 (fun q h => by cases h) (fun h => by cases h) k1 k2 rfl hkC ⟨h0, by rw [arrV_size]; exact hlt⟩ g1 (fun q h => by rw [g3] at h; cases h) (by rw [g2]; exact hkC) (by rw [g2]; exact va_assign hcls) rfl rfl hdg fun H' e1 e2 e3 => ?_
  exact kk H' _ (wd_ast (t := 4) hw (by omega) hT rfl (fun _ => rfl) (fun _ => rfl) (fun _ _ _ => rfl) (fun _ _ _ => rfl) (fun _ _ h => up2_ne h) (fv_sP (κ := fun _ => 2) rfl) e1 e2 e3)
theorem m_aastN (X : Cx p m c cc nL s args own D cA) (hw : wS D cA z0 s σ H locs) (hT : gT σ a = 25) {i : Int32} (hin : vp_in i (gN σ a)) (hdg : decode cc pc = .ok (.aastore, 1))
    (kk : ∀ (H1 : Heap) (locs1 : List Loc), wS D cA z0 s (sP σ a i.toNatClampNeg none) H1 locs1 → W p l e R s m args below meth c H1 locs1 cells slots Q (F0 m (pc + 1) ls rest)) : W p l e R s m args below meth c H locs cells slots Q (F0 m pc ls (.null :: .int i :: .ref a :: rest)) := by
  obtain ⟨⟨hx, hb, hml, hown, hts⟩, hK⟩ := X
  obtain ⟨h1, h2, h3⟩ := wd_arr (t := 5) hw.1 hT (by omega)
  refine va_WaastN (C := "SendForMore$Rule") hx hb h3 ((arr_ty hK 5 (by omega)).1 _ _) (fun h => by cases h) (by rw [arrV_size]; exact hin) rfl rfl hdg fun H' e1 e2 e3 => ?_
  exact kk H' _ (wd_ast (t := 5) (v := .null) hw (by omega) hT rfl (fun _ => rfl) (fun _ => rfl) (fun _ _ _ => rfl) (fun _ _ _ => rfl) (fun _ _ h => up2_ne h) (fv_sP (κ := fun _ => 2) (v := none) rfl) e1 e2 e3)
/-- a store of a Rule (Base 0, Lot 2, Pair 3, Table 9) -/
theorem m_aastR (X : Cx p m c cc nL s args own D cA) (hw : wS D cA z0 s σ H locs) (hT : gT σ a = 25) {i : Int32} {v : Nat} (K : Cls c0 C T N) (hc : Cond.castable C "SendForMore$Rule" ∈ castW) (hv : gT σ v = c0) (hin : vp_in i (gN σ a)) (hdg : decode cc pc = .ok (.aastore, 1))
    (kk : ∀ (H1 : Heap) (locs1 : List Loc), wS D cA z0 s (sP σ a i.toNatClampNeg (some v)) H1 locs1 → W p l e R s m args below meth c H1 locs1 cells slots Q (F0 m (pc + 1) ls rest)) : W p l e R s m args below meth c H locs cells slots Q (F0 m pc ls (.ref v :: .int i :: .ref a :: rest)) := by
  obtain ⟨⟨hx, hb, hml, hown, hts⟩, hK⟩ := X
  obtain ⟨h1, h2, h3⟩ := wd_arr (t := 5) hw.1 hT (by omega)
  have hlt : i.toNatClampNeg < gN σ a := Nat.not_le.mp fun q => hin (Or.inr q)
  have h0 : ¬ i < 0 := fun q => hin (Or.inl q)
  obtain ⟨-, -, cellV, g1, g2, g3, -⟩ := wd_obj hw.1 K hv
  have hcls := (hK.1.1 c0 _ K.1).2
  obtain ⟨kA, comp, k1, k2, k3, -⟩ := (arr_ty hK 5 (by omega)).2
  obtain ⟨cS, cT, f1, f2, f3⟩ := Cond.castable_spec (va_Nw.use (A := args) rfl (hK.2.2.2.1 _ hc))
  have e1 : cS = D.1 c0 := Option.some.inj (f1.symm.trans hcls.1)
  have e2 : cT = comp := Option.some.inj (f2.symm.trans k3)
  subst e1; subst e2
  obtain ⟨kC, hkC, -⟩ := hcls.2
  obtain ⟨cR, kR, hcR, hkR⟩ := hK.2.2.2.2.2
  have eR : cR = cT := Option.some.inj (hcR.symm.trans k3)
  refine W.aast hx hb h3 (fun q h => by cases h) (fun h => by cases h) k1 k2 rfl (by rw [← eR]; exact hkR) ⟨h0, by rw [arrV_size]; exact hlt⟩ g1 (fun q h => by rw [g3] at h; cases h) (by rw [g2]; exact hkC) (by rw [g2]; exact f3) rfl rfl hdg fun H' e1 e2 e3 => ?_
  exact kk H' _ (wd_ast (t := 5) hw (by omega) hT rfl (fun _ => rfl) (fun _ => rfl) (fun _ _ _ => rfl) (fun _ _ _ => rfl) (fun _ _ h => up2_ne h) (fv_sP (κ := fun _ => 2) rfl) e1 e2 e3)
end MC
end
section
theorem lc_v (x y : Int64) : (lg_cmp x y = 0 ↔ x = y) ∧ (lg_cmp x y < 0 ↔ x < y) ∧ (0 ≤ lg_cmp x y ↔ y ≤ x) ∧ (0 < lg_cmp x y ↔ y < x) ∧ (lg_cmp x y ≤ 0 ↔ x ≤ y) := by
  rcases Int.lt_trichotomy x.toInt y.toInt with h | h | h
  · have h1 : x < y := Int64.lt_iff_toInt_lt.mpr h
    have h2 : ¬ x > y := fun q => by have := Int64.lt_iff_toInt_lt.mp q; omega
    have h3 : ¬ x = y := fun q => by rw [q] at h; omega
    have h4 : ¬ y ≤ x := fun q => by have := Int64.le_iff_toInt_le.mp q; omega
    have h5 : x ≤ y := Int64.le_iff_toInt_le.mpr (by omega)
    have e : lg_cmp x y = -1 := by unfold lg_cmp; rw [if_neg h2, if_neg h3]
    rw [e]
    exact ⟨⟨fun q => absurd q (by decide), fun q => absurd q h3⟩, ⟨fun _ => h1, fun _ => by decide⟩, ⟨fun q => absurd q (by decide), fun q => absurd q h4⟩, ⟨fun q => absurd q (by decide), fun q => absurd q h2⟩, ⟨fun _ => h5, fun _ => by decide⟩⟩
  · have h3 : x = y := Int64.toInt_inj.mp h
    subst h3
    have h2 : ¬ x > x := fun q => by have := Int64.lt_iff_toInt_lt.mp q; omega
    have h5 : x ≤ x := Int64.le_iff_toInt_le.mpr (by omega)
    have e : lg_cmp x x = 0 := by unfold lg_cmp; rw [if_neg h2, if_pos rfl]
    rw [e]
    exact ⟨⟨fun _ => rfl, fun _ => rfl⟩, ⟨fun q => absurd q (by decide), fun q => absurd q h2⟩, ⟨fun _ => h5, fun _ => by decide⟩, ⟨fun q => absurd q (by decide), fun q => absurd q h2⟩, ⟨fun _ => h5, fun _ => by decide⟩⟩
  · have h1 : x > y := Int64.lt_iff_toInt_lt.mpr h
    have h2 : ¬ x < y := fun q => by have := Int64.lt_iff_toInt_lt.mp q; omega
    have h3 : ¬ x = y := fun q => by rw [q] at h; omega
    have h4 : ¬ x ≤ y := fun q => by have := Int64.le_iff_toInt_le.mp q; omega
    have h5 : y ≤ x := Int64.le_iff_toInt_le.mpr (by omega)
    have e : lg_cmp x y = 1 := by unfold lg_cmp; rw [if_pos h1]
    rw [e]
    exact ⟨⟨fun q => absurd q (by decide), fun q => absurd q h3⟩, ⟨fun q => absurd q (by decide), fun q => absurd q h2⟩, ⟨fun _ => h5, fun _ => by decide⟩, ⟨fun _ => h1, fun _ => by decide⟩, ⟨fun q => absurd q (by decide), fun q => absurd q h4⟩⟩
theorem lc_eq_t {x y : Int64} (h : lg_cmp x y = 0) : x = y := (lc_v x y).1.mp h
theorem lc_eq_f {x y : Int64} (h : ¬ lg_cmp x y = 0) : ¬ x = y := fun q => h ((lc_v x y).1.mpr q)
theorem lc_lt_t {x y : Int64} (h : lg_cmp x y < 0) : x < y := (lc_v x y).2.1.mp h
theorem lc_lt_f {x y : Int64} (h : ¬ lg_cmp x y < 0) : ¬ x < y := fun q => h ((lc_v x y).2.1.mpr q)
theorem lc_ge_t {x y : Int64} (h : 0 ≤ lg_cmp x y) : y ≤ x := (lc_v x y).2.2.1.mp h
theorem lc_ge_f {x y : Int64} (h : ¬ 0 ≤ lg_cmp x y) : ¬ y ≤ x := fun q => h ((lc_v x y).2.2.1.mpr q)
theorem lc_gt_t {x y : Int64} (h : 0 < lg_cmp x y) : y < x := (lc_v x y).2.2.2.1.mp h
theorem lc_gt_f {x y : Int64} (h : ¬ 0 < lg_cmp x y) : ¬ y < x := fun q => h ((lc_v x y).2.2.2.1.mpr q)
theorem lc_le_t {x y : Int64} (h : lg_cmp x y ≤ 0) : x ≤ y := (lc_v x y).2.2.2.2.mp h
theorem lc_le_f {x y : Int64} (h : ¬ lg_cmp x y ≤ 0) : ¬ x ≤ y := fun q => h ((lc_v x y).2.2.2.2.mpr q)
theorem lc_ne_t {x y : Int64} (h : ¬ lg_cmp x y = 0) : ¬ x = y := fun q => h ((lc_v x y).1.mpr q)
theorem lc_ne_f {x y : Int64} (h : lg_cmp x y = 0) : x = y := (lc_v x y).1.mp h
theorem wo_in : Cond.instanceMethod Lib.objectInit ∈ gTab := gTab_in 64 (by decide +kernel) rfl
theorem wo_co : Cond.code Lib.objectInit ⟨#[0xb1]⟩ 1 none ∈ gTab := gTab_in 65 (by decide +kernel) rfl
theorem wm_st : Cond.static Lib.Math.max.name ∈ gTab := gTab_in 390 (by decide +kernel) rfl
theorem wm_co : Cond.code Lib.Math.max.name Lib.Math.max.code 2 (some .int) ∈ gTab := gTab_in 391 (by decide +kernel) rfl
theorem wn_st : Cond.static Lib.Math.min.name ∈ gTab := gTab_in 387 (by decide +kernel) rfl
theorem wn_co : Cond.code Lib.Math.min.name Lib.Math.min.code 2 (some .int) ∈ gTab := gTab_in 388 (by decide +kernel) rfl
theorem wm_in : Cond.initialized "java/lang/Math" ∈ gTab := gTab_in 54 (by decide +kernel) rfl
theorem wa_st : Cond.static arraycopyName ∈ gTab := gTab_in 341 (by decide +kernel) rfl
theorem wa_na : Cond.native arraycopyName ∈ gTab := gTab_in 342 (by decide +kernel) rfl
theorem wa_in : Cond.initialized "java/lang/System" ∈ gTab := gTab_in 51 (by decide +kernel) rfl
section MS
variable {p : Program} {l : Launch} {e : Env} {R : Room} {s : State} {m : MethodId} {args : Array Value} {below : List Frame} {meth : Method} {c : Code} {H : Heap} {locs : List Loc} {cells slots : Nat} {Q : State → Prop}
variable {cc : ByteArray} {pc nL : Nat} {ls : Array Slot} {rest : List Value} {D : va_G} {cA : Nat → ClassId} {a z0 c0 N index : Nat} {σ : Me} {own ref C : String} {T : u_T}
theorem m_objInit (X : Cx p m c cc nL s args own D cA) (hl : Cond.methodLink own index Lib.objectInit ∈ gTab) (hsz : ls.size = nL) (hd : decode cc pc = .ok (.invokespecial index, 3)) (hf : 1 ≤ R.frames) (hlo : (rest.map fun v => v.category).sum + 12 ≤ R.locals) (kk : W p l e R s m args below meth c H locs cells slots Q (F0 m (pc + 3) ls rest)) : W p l e R s m args below meth c H locs cells slots Q (F0 m pc ls (.ref a :: rest)) :=
  W.objInit X.1.1 X.1.2.1 X.1.2.2.2.1 (X.1.2.2.2.2 _ hl) (X.1.2.2.2.2 _ wo_in) (X.1.2.2.2.2 _ wo_co) rfl (by rw [X.1.2.2.1]; exact hsz) rfl hd hf (by show 2 * 0 + _ + 12 ≤ _; omega) kk
theorem m_max (X : Cx p m c cc nL s args own D cA) (hl : Cond.methodLink own index Lib.Math.max.name ∈ gTab) (hsz : ls.size = nL) (hf : 1 ≤ R.frames) (hlo : (rest.map fun v => v.category).sum + 13 ≤ R.locals) (hcs : cells ≤ R.cells ∧ slots ≤ R.slots) {x y : Int32} (hd : decode cc pc = .ok (.invokestatic index, 3)) (kk : W p l e R s m args below meth c H locs cells slots Q (F0 m (pc + 3) ls (.int (if x < y then y else x) :: rest))) : W p l e R s m args below meth c H locs cells slots Q (F0 m pc ls (.int y :: .int x :: rest)) :=
  va_mmax X.1.1 X.1.2.1 (X.1.2.2.1.trans hsz.symm) X.1.2.2.2.1 (X.1.2.2.2.2 _ hl) (X.1.2.2.2.2 _ wm_st) (X.1.2.2.2.2 _ wm_in) (X.1.2.2.2.2 _ wm_co) hf hlo hcs.1 hcs.2 hd kk
theorem m_min (X : Cx p m c cc nL s args own D cA) (hl : Cond.methodLink own index Lib.Math.min.name ∈ gTab) (hsz : ls.size = nL) (hf : 1 ≤ R.frames) (hlo : (rest.map fun v => v.category).sum + 13 ≤ R.locals) (hcs : cells ≤ R.cells ∧ slots ≤ R.slots) {x y : Int32} (hd : decode cc pc = .ok (.invokestatic index, 3)) (kk : W p l e R s m args below meth c H locs cells slots Q (F0 m (pc + 3) ls (.int (if y < x then y else x) :: rest))) : W p l e R s m args below meth c H locs cells slots Q (F0 m pc ls (.int y :: .int x :: rest)) :=
  va_mmin X.1.1 X.1.2.1 (X.1.2.2.1.trans hsz.symm) X.1.2.2.2.1 (X.1.2.2.2.2 _ hl) (X.1.2.2.2.2 _ wn_st) (X.1.2.2.2.2 _ wm_in) (X.1.2.2.2.2 _ wn_co) hf hlo hcs.1 hcs.2 hd kk
theorem m_leq (X : Cx p m c cc nL s args own D cA) {x y : Int64} {off : Int} {tgt : Nat} (hd1 : decode cc pc = .ok (.lcmp, 1)) (hd2 : decode cc (pc + 1) = .ok (.ifCond .eq off, 3)) (ht : ((pc + 1 : Nat) : Int) + off = (tgt : Int)) (kt : x = y → W p l e R s m args below meth c H locs cells slots Q (F0 m tgt ls rest)) (kf : ¬ x = y → W p l e R s m args below meth c H locs cells slots Q (F0 m (pc + 1 + 3) ls rest)) : W p l e R s m args below meth c H locs cells slots Q (F0 m pc ls (.long y :: .long x :: rest)) :=
  W.lcmp X.1.1 X.1.2.1 hd1 (lv_if_eq X.1.1 X.1.2.1 hd2 ht (fun h => kt (lc_eq_t h)) (fun h => kf (lc_eq_f h)))
theorem m_lne (X : Cx p m c cc nL s args own D cA) {x y : Int64} {off : Int} {tgt : Nat} (hd1 : decode cc pc = .ok (.lcmp, 1)) (hd2 : decode cc (pc + 1) = .ok (.ifCond .ne off, 3)) (ht : ((pc + 1 : Nat) : Int) + off = (tgt : Int)) (kt : ¬ x = y → W p l e R s m args below meth c H locs cells slots Q (F0 m tgt ls rest)) (kf : x = y → W p l e R s m args below meth c H locs cells slots Q (F0 m (pc + 1 + 3) ls rest)) : W p l e R s m args below meth c H locs cells slots Q (F0 m pc ls (.long y :: .long x :: rest)) :=
  W.lcmp X.1.1 X.1.2.1 hd1 (lv_if_ne X.1.1 X.1.2.1 hd2 ht (fun h => kt (lc_ne_t h)) (fun h => kf (lc_ne_f h)))
theorem m_llt (X : Cx p m c cc nL s args own D cA) {x y : Int64} {off : Int} {tgt : Nat} (hd1 : decode cc pc = .ok (.lcmp, 1)) (hd2 : decode cc (pc + 1) = .ok (.ifCond .lt off, 3)) (ht : ((pc + 1 : Nat) : Int) + off = (tgt : Int)) (kt : x < y → W p l e R s m args below meth c H locs cells slots Q (F0 m tgt ls rest)) (kf : ¬ x < y → W p l e R s m args below meth c H locs cells slots Q (F0 m (pc + 1 + 3) ls rest)) : W p l e R s m args below meth c H locs cells slots Q (F0 m pc ls (.long y :: .long x :: rest)) :=
  W.lcmp X.1.1 X.1.2.1 hd1 (lv_if_lt X.1.1 X.1.2.1 hd2 ht (fun h => kt (lc_lt_t h)) (fun h => kf (lc_lt_f h)))
theorem m_lge (X : Cx p m c cc nL s args own D cA) {x y : Int64} {off : Int} {tgt : Nat} (hd1 : decode cc pc = .ok (.lcmp, 1)) (hd2 : decode cc (pc + 1) = .ok (.ifCond .ge off, 3)) (ht : ((pc + 1 : Nat) : Int) + off = (tgt : Int)) (kt : y ≤ x → W p l e R s m args below meth c H locs cells slots Q (F0 m tgt ls rest)) (kf : ¬ y ≤ x → W p l e R s m args below meth c H locs cells slots Q (F0 m (pc + 1 + 3) ls rest)) : W p l e R s m args below meth c H locs cells slots Q (F0 m pc ls (.long y :: .long x :: rest)) :=
  W.lcmp X.1.1 X.1.2.1 hd1 (lv_if_ge X.1.1 X.1.2.1 hd2 ht (fun h => kt (lc_ge_t h)) (fun h => kf (lc_ge_f h)))
theorem m_lgt (X : Cx p m c cc nL s args own D cA) {x y : Int64} {off : Int} {tgt : Nat} (hd1 : decode cc pc = .ok (.lcmp, 1)) (hd2 : decode cc (pc + 1) = .ok (.ifCond .gt off, 3)) (ht : ((pc + 1 : Nat) : Int) + off = (tgt : Int)) (kt : y < x → W p l e R s m args below meth c H locs cells slots Q (F0 m tgt ls rest)) (kf : ¬ y < x → W p l e R s m args below meth c H locs cells slots Q (F0 m (pc + 1 + 3) ls rest)) : W p l e R s m args below meth c H locs cells slots Q (F0 m pc ls (.long y :: .long x :: rest)) :=
  W.lcmp X.1.1 X.1.2.1 hd1 (lv_if_gt X.1.1 X.1.2.1 hd2 ht (fun h => kt (lc_gt_t h)) (fun h => kf (lc_gt_f h)))
theorem m_lle (X : Cx p m c cc nL s args own D cA) {x y : Int64} {off : Int} {tgt : Nat} (hd1 : decode cc pc = .ok (.lcmp, 1)) (hd2 : decode cc (pc + 1) = .ok (.ifCond .le off, 3)) (ht : ((pc + 1 : Nat) : Int) + off = (tgt : Int)) (kt : x ≤ y → W p l e R s m args below meth c H locs cells slots Q (F0 m tgt ls rest)) (kf : ¬ x ≤ y → W p l e R s m args below meth c H locs cells slots Q (F0 m (pc + 1 + 3) ls rest)) : W p l e R s m args below meth c H locs cells slots Q (F0 m pc ls (.long y :: .long x :: rest)) :=
  W.lcmp X.1.1 X.1.2.1 hd1 (lv_if_le X.1.1 X.1.2.1 hd2 ht (fun h => kt (lc_le_t h)) (fun h => kf (lc_le_f h)))
end MS
section ME
variable {p : Program} {l : Launch} {e : Env} {R : Room} {s : State} {m : MethodId} {args : Array Value} {below : List Frame} {meth : Method} {c : Code} {H : Heap} {locs : List Loc} {cells slots : Nat} {Q : State → Prop}
variable {cc : ByteArray} {pc nL : Nat} {ls : Array Slot} {rest : List Value} {D : va_G} {cA : Nat → ClassId} {a z0 c0 N index : Nat} {σ : Me} {own ref C : String} {T : u_T}
theorem m_iret {post : Int32 → Me → Prop} {v : Int32} (X : Cx p m c cc nL s args own D cA) (hlk : meth.locks = false) (hr : meth.sig.returnType = some .int) (hw : wS D cA z0 s σ H locs) (h : post v σ) (hdg : decode cc pc = .ok (.ireturn, 1)) : W p l e R s m args below meth c H locs cells slots (MQ below (va_Qi post (BM D cA z0) (AM z0)) args s cells slots (AM z0)) (F0 m pc ls [.int v]) :=
  W.iret (v := v) X.1.1 X.1.2.1 hr (fun t ht hW => ⟨⟨v, σ, rfl, h, by show wd _ _ _ _ _; rw [ht]; exact hw.1⟩, hw.2.F ht⟩) hw.2.2.2 hdg hlk
theorem m_zret {post : Int32 → Me → Prop} {v : Int32} (X : Cx p m c cc nL s args own D cA) (hlk : meth.locks = false) (hr : meth.sig.returnType = some .boolean) (hw : wS D cA z0 s σ H locs) (hv : v = 0 ∨ v = 1) (h : post v σ) (hdg : decode cc pc = .ok (.ireturn, 1)) : W p l e R s m args below meth c H locs cells slots (MQ below (va_Qi post (BM D cA z0) (AM z0)) args s cells slots (AM z0)) (F0 m pc ls [.int v]) :=
  W.zret (v := v) X.1.1 X.1.2.1 hr (by rcases hv with rfl | rfl <;> decide) (fun t ht hW => ⟨⟨v, σ, rfl, h, by show wd _ _ _ _ _; rw [ht]; exact hw.1⟩, hw.2.F ht⟩) hw.2.2.2 hdg hlk
theorem m_lret {post : Int64 → Me → Prop} {v : Int64} (X : Cx p m c cc nL s args own D cA) (hlk : meth.locks = false) (hr : meth.sig.returnType = some .long) (hw : wS D cA z0 s σ H locs) (h : post v σ) (hdg : decode cc pc = .ok (.lreturn, 1)) : W p l e R s m args below meth c H locs cells slots (MQ below (va_Ql post (BM D cA z0) (AM z0)) args s cells slots (AM z0)) (F0 m pc ls [.long v]) :=
  W.lret (v := v) X.1.1 X.1.2.1 hr (fun t ht hW => ⟨⟨v, σ, rfl, h, by show wd _ _ _ _ _; rw [ht]; exact hw.1⟩, hw.2.F ht⟩) hw.2.2.2 hdg hlk
theorem m_vret {post : Me → Prop} (X : Cx p m c cc nL s args own D cA) (hlk : meth.locks = false) (hr : meth.sig.returnType = none) (hw : wS D cA z0 s σ H locs) (h : post σ) (hdg : decode cc pc = .ok (.return_, 1)) : W p l e R s m args below meth c H locs cells slots (MQ below (va_Qv post (BM D cA z0) (AM z0)) args s cells slots (AM z0)) (F0 m pc ls []) :=
  W.vret X.1.1 X.1.2.1 hr (fun t ht hW => ⟨⟨σ, rfl, h, by show wd _ _ _ _ _; rw [ht]; exact hw.1⟩, hw.2.F ht⟩) hw.2.2.2 hdg hlk
end ME
end
section
theorem dX0_init_0 : decode cX0_init 0 = .ok (.aload_n 0, 1) := by decide +kernel
theorem dX0_init_1 : decode cX0_init 1 = .ok (.invokespecial 3, 3) := by decide +kernel
theorem dX0_init_4 : decode cX0_init 4 = .ok (.aload_n 0, 1) := by decide +kernel
theorem dX0_init_5 : decode cX0_init 5 = .ok (.iload_n 1, 1) := by decide +kernel
theorem dX0_init_6 : decode cX0_init 6 = .ok (.putfield 9, 3) := by decide +kernel
theorem dX0_init_9 : decode cX0_init 9 = .ok (.return_, 1) := by decide +kernel
theorem dX0_kindNumber_0 : decode cX0_kindNumber 0 = .ok (.iconst 1, 1) := by decide +kernel
theorem dX0_kindNumber_1 : decode cX0_kindNumber 1 = .ok (.ireturn, 1) := by decide +kernel
theorem dX0_wants_0 : decode cX0_wants 0 = .ok (.aload_n 0, 1) := by decide +kernel
theorem dX0_wants_1 : decode cX0_wants 1 = .ok (.getfield 9, 3) := by decide +kernel
theorem dX0_wants_4 : decode cX0_wants 4 = .ok (.iload_n 1, 1) := by decide +kernel
theorem dX0_wants_5 : decode cX0_wants 5 = .ok (.isub, 1) := by decide +kernel
theorem dX0_wants_6 : decode cX0_wants 6 = .ok (.ireturn, 1) := by decide +kernel
theorem dX0_topMark_0 : decode cX0_topMark 0 = .ok (.aload_n 0, 1) := by decide +kernel
theorem dX0_topMark_1 : decode cX0_topMark 1 = .ok (.getfield 9, 3) := by decide +kernel
theorem dX0_topMark_4 : decode cX0_topMark 4 = .ok (.ireturn, 1) := by decide +kernel
theorem dX1_init_0 : decode cX1_init 0 = .ok (.aload_n 0, 1) := by decide +kernel
theorem dX1_init_1 : decode cX1_init 1 = .ok (.invokespecial 3, 3) := by decide +kernel
theorem dX1_init_4 : decode cX1_init 4 = .ok (.aload_n 0, 1) := by decide +kernel
theorem dX1_init_5 : decode cX1_init 5 = .ok (.bipush 7, 2) := by decide +kernel
theorem dX1_init_7 : decode cX1_init 7 = .ok (.newarray .int, 2) := by decide +kernel
theorem dX1_init_9 : decode cX1_init 9 = .ok (.putfield 9, 3) := by decide +kernel
theorem dX1_init_12 : decode cX1_init 12 = .ok (.return_, 1) := by decide +kernel
theorem dX1_open_0 : decode cX1_open 0 = .ok (.aload_n 0, 1) := by decide +kernel
theorem dX1_open_1 : decode cX1_open 1 = .ok (.iconst 1, 1) := by decide +kernel
theorem dX1_open_2 : decode cX1_open 2 = .ok (.putfield 15, 3) := by decide +kernel
theorem dX1_open_5 : decode cX1_open 5 = .ok (.iconst 0, 1) := by decide +kernel
theorem dX1_open_6 : decode cX1_open 6 = .ok (.istore_n 1, 1) := by decide +kernel
theorem dX1_open_7 : decode cX1_open 7 = .ok (.iload_n 1, 1) := by decide +kernel
theorem dX1_open_8 : decode cX1_open 8 = .ok (.aload_n 0, 1) := by decide +kernel
theorem dX1_open_9 : decode cX1_open 9 = .ok (.getfield 9, 3) := by decide +kernel
theorem dX1_open_12 : decode cX1_open 12 = .ok (.arraylength, 1) := by decide +kernel
theorem dX1_open_13 : decode cX1_open 13 = .ok (.if_icmp .ge 16, 3) := by decide +kernel
theorem dX1_open_16 : decode cX1_open 16 = .ok (.aload_n 0, 1) := by decide +kernel
theorem dX1_open_17 : decode cX1_open 17 = .ok (.getfield 9, 3) := by decide +kernel
theorem dX1_open_20 : decode cX1_open 20 = .ok (.iload_n 1, 1) := by decide +kernel
theorem dX1_open_21 : decode cX1_open 21 = .ok (.iconst 0, 1) := by decide +kernel
theorem dX1_open_22 : decode cX1_open 22 = .ok (.iastore, 1) := by decide +kernel
theorem dX1_open_23 : decode cX1_open 23 = .ok (.iinc 1 1, 3) := by decide +kernel
theorem dX1_open_26 : decode cX1_open 26 = .ok (.goto (-19), 3) := by decide +kernel
theorem dX1_open_29 : decode cX1_open 29 = .ok (.return_, 1) := by decide +kernel
theorem dX1_weightOf_0 : decode cX1_weightOf 0 = .ok (.iload_n 1, 1) := by decide +kernel
theorem dX1_weightOf_1 : decode cX1_weightOf 1 = .ok (.ifCond .lt 21, 3) := by decide +kernel
theorem dX1_weightOf_4 : decode cX1_weightOf 4 = .ok (.iload_n 1, 1) := by decide +kernel
theorem dX1_weightOf_5 : decode cX1_weightOf 5 = .ok (.aload_n 0, 1) := by decide +kernel
theorem dX1_weightOf_6 : decode cX1_weightOf 6 = .ok (.getfield 9, 3) := by decide +kernel
theorem dX1_weightOf_9 : decode cX1_weightOf 9 = .ok (.arraylength, 1) := by decide +kernel
theorem dX1_weightOf_10 : decode cX1_weightOf 10 = .ok (.if_icmp .ge 12, 3) := by decide +kernel
theorem dX1_weightOf_13 : decode cX1_weightOf 13 = .ok (.aload_n 0, 1) := by decide +kernel
theorem dX1_weightOf_14 : decode cX1_weightOf 14 = .ok (.getfield 9, 3) := by decide +kernel
theorem dX1_weightOf_17 : decode cX1_weightOf 17 = .ok (.iload_n 1, 1) := by decide +kernel
theorem dX1_weightOf_18 : decode cX1_weightOf 18 = .ok (.iaload, 1) := by decide +kernel
theorem dX1_weightOf_19 : decode cX1_weightOf 19 = .ok (.goto 4, 3) := by decide +kernel
theorem dX1_weightOf_22 : decode cX1_weightOf 22 = .ok (.iconst 0, 1) := by decide +kernel
theorem dX1_weightOf_23 : decode cX1_weightOf 23 = .ok (.ireturn, 1) := by decide +kernel
theorem dX1_weightOfAll_0 : decode cX1_weightOfAll 0 = .ok (.iconst 0, 1) := by decide +kernel
theorem dX1_weightOfAll_1 : decode cX1_weightOfAll 1 = .ok (.istore_n 1, 1) := by decide +kernel
theorem dX1_weightOfAll_2 : decode cX1_weightOfAll 2 = .ok (.iconst 0, 1) := by decide +kernel
theorem dX1_weightOfAll_3 : decode cX1_weightOfAll 3 = .ok (.istore_n 2, 1) := by decide +kernel
theorem dX1_weightOfAll_4 : decode cX1_weightOfAll 4 = .ok (.iload_n 2, 1) := by decide +kernel
theorem dX1_weightOfAll_5 : decode cX1_weightOfAll 5 = .ok (.aload_n 0, 1) := by decide +kernel
theorem dX1_weightOfAll_6 : decode cX1_weightOfAll 6 = .ok (.getfield 9, 3) := by decide +kernel
theorem dX1_weightOfAll_9 : decode cX1_weightOfAll 9 = .ok (.arraylength, 1) := by decide +kernel
theorem dX1_weightOfAll_10 : decode cX1_weightOfAll 10 = .ok (.if_icmp .ge 18, 3) := by decide +kernel
theorem dX1_weightOfAll_13 : decode cX1_weightOfAll 13 = .ok (.iload_n 1, 1) := by decide +kernel
theorem dX1_weightOfAll_14 : decode cX1_weightOfAll 14 = .ok (.aload_n 0, 1) := by decide +kernel
theorem dX1_weightOfAll_15 : decode cX1_weightOfAll 15 = .ok (.getfield 9, 3) := by decide +kernel
theorem dX1_weightOfAll_18 : decode cX1_weightOfAll 18 = .ok (.iload_n 2, 1) := by decide +kernel
theorem dX1_weightOfAll_19 : decode cX1_weightOfAll 19 = .ok (.iaload, 1) := by decide +kernel
theorem dX1_weightOfAll_20 : decode cX1_weightOfAll 20 = .ok (.iadd, 1) := by decide +kernel
theorem dX1_weightOfAll_21 : decode cX1_weightOfAll 21 = .ok (.istore_n 1, 1) := by decide +kernel
theorem dX1_weightOfAll_22 : decode cX1_weightOfAll 22 = .ok (.iinc 2 1, 3) := by decide +kernel
theorem dX1_weightOfAll_25 : decode cX1_weightOfAll 25 = .ok (.goto (-21), 3) := by decide +kernel
theorem dX1_weightOfAll_28 : decode cX1_weightOfAll 28 = .ok (.iload_n 1, 1) := by decide +kernel
theorem dX1_weightOfAll_29 : decode cX1_weightOfAll 29 = .ok (.ireturn, 1) := by decide +kernel
theorem dX1_weightedDemands_0 : decode cX1_weightedDemands 0 = .ok (.iconst 0, 1) := by decide +kernel
theorem dX1_weightedDemands_1 : decode cX1_weightedDemands 1 = .ok (.istore_n 1, 1) := by decide +kernel
theorem dX1_weightedDemands_2 : decode cX1_weightedDemands 2 = .ok (.iconst 0, 1) := by decide +kernel
theorem dX1_weightedDemands_3 : decode cX1_weightedDemands 3 = .ok (.istore_n 2, 1) := by decide +kernel
theorem dX1_weightedDemands_4 : decode cX1_weightedDemands 4 = .ok (.iload_n 2, 1) := by decide +kernel
theorem dX1_weightedDemands_5 : decode cX1_weightedDemands 5 = .ok (.aload_n 0, 1) := by decide +kernel
theorem dX1_weightedDemands_6 : decode cX1_weightedDemands 6 = .ok (.getfield 9, 3) := by decide +kernel
theorem dX1_weightedDemands_9 : decode cX1_weightedDemands 9 = .ok (.arraylength, 1) := by decide +kernel
theorem dX1_weightedDemands_10 : decode cX1_weightedDemands 10 = .ok (.if_icmp .ge 20, 3) := by decide +kernel
theorem dX1_weightedDemands_13 : decode cX1_weightedDemands 13 = .ok (.iload_n 1, 1) := by decide +kernel
theorem dX1_weightedDemands_14 : decode cX1_weightedDemands 14 = .ok (.iload_n 2, 1) := by decide +kernel
theorem dX1_weightedDemands_15 : decode cX1_weightedDemands 15 = .ok (.aload_n 0, 1) := by decide +kernel
theorem dX1_weightedDemands_16 : decode cX1_weightedDemands 16 = .ok (.getfield 9, 3) := by decide +kernel
theorem dX1_weightedDemands_19 : decode cX1_weightedDemands 19 = .ok (.iload_n 2, 1) := by decide +kernel
theorem dX1_weightedDemands_20 : decode cX1_weightedDemands 20 = .ok (.iaload, 1) := by decide +kernel
theorem dX1_weightedDemands_21 : decode cX1_weightedDemands 21 = .ok (.imul, 1) := by decide +kernel
theorem dX1_weightedDemands_22 : decode cX1_weightedDemands 22 = .ok (.iadd, 1) := by decide +kernel
theorem dX1_weightedDemands_23 : decode cX1_weightedDemands 23 = .ok (.istore_n 1, 1) := by decide +kernel
theorem dX1_weightedDemands_24 : decode cX1_weightedDemands 24 = .ok (.iinc 2 1, 3) := by decide +kernel
theorem dX1_weightedDemands_27 : decode cX1_weightedDemands 27 = .ok (.goto (-23), 3) := by decide +kernel
theorem dX1_weightedDemands_30 : decode cX1_weightedDemands 30 = .ok (.iload_n 1, 1) := by decide +kernel
theorem dX1_weightedDemands_31 : decode cX1_weightedDemands 31 = .ok (.ireturn, 1) := by decide +kernel
theorem dX2_init_0 : decode cX2_init 0 = .ok (.aload_n 0, 1) := by decide +kernel
theorem dX2_init_1 : decode cX2_init 1 = .ok (.invokespecial 3, 3) := by decide +kernel
theorem dX2_init_4 : decode cX2_init 4 = .ok (.aload_n 0, 1) := by decide +kernel
theorem dX2_init_5 : decode cX2_init 5 = .ok (.iload_n 1, 1) := by decide +kernel
theorem dX2_init_6 : decode cX2_init 6 = .ok (.putfield 9, 3) := by decide +kernel
theorem dX2_init_9 : decode cX2_init 9 = .ok (.aload_n 0, 1) := by decide +kernel
theorem dX2_init_10 : decode cX2_init 10 = .ok (.iload_n 2, 1) := by decide +kernel
theorem dX2_init_11 : decode cX2_init 11 = .ok (.putfield 15, 3) := by decide +kernel
theorem dX2_init_14 : decode cX2_init 14 = .ok (.return_, 1) := by decide +kernel
theorem dX2_kindNumber_0 : decode cX2_kindNumber 0 = .ok (.iconst 3, 1) := by decide +kernel
theorem dX2_kindNumber_1 : decode cX2_kindNumber 1 = .ok (.ireturn, 1) := by decide +kernel
theorem dX2_wants_0 : decode cX2_wants 0 = .ok (.iload_n 1, 1) := by decide +kernel
theorem dX2_wants_1 : decode cX2_wants 1 = .ok (.aload_n 0, 1) := by decide +kernel
theorem dX2_wants_2 : decode cX2_wants 2 = .ok (.getfield 9, 3) := by decide +kernel
theorem dX2_wants_5 : decode cX2_wants 5 = .ok (.if_icmp .gt 10, 3) := by decide +kernel
theorem dX2_wants_8 : decode cX2_wants 8 = .ok (.aload_n 0, 1) := by decide +kernel
theorem dX2_wants_9 : decode cX2_wants 9 = .ok (.getfield 15, 3) := by decide +kernel
theorem dX2_wants_12 : decode cX2_wants 12 = .ok (.goto 4, 3) := by decide +kernel
theorem dX2_wants_15 : decode cX2_wants 15 = .ok (.iconst 0, 1) := by decide +kernel
theorem dX2_wants_16 : decode cX2_wants 16 = .ok (.ireturn, 1) := by decide +kernel
theorem dX2_lowMark_0 : decode cX2_lowMark 0 = .ok (.aload_n 0, 1) := by decide +kernel
theorem dX2_lowMark_1 : decode cX2_lowMark 1 = .ok (.getfield 9, 3) := by decide +kernel
theorem dX2_lowMark_4 : decode cX2_lowMark 4 = .ok (.ireturn, 1) := by decide +kernel
theorem dX2_lotSize_0 : decode cX2_lotSize 0 = .ok (.aload_n 0, 1) := by decide +kernel
theorem dX2_lotSize_1 : decode cX2_lotSize 1 = .ok (.getfield 15, 3) := by decide +kernel
theorem dX2_lotSize_4 : decode cX2_lotSize 4 = .ok (.ireturn, 1) := by decide +kernel
theorem dX3_init_0 : decode cX3_init 0 = .ok (.aload_n 0, 1) := by decide +kernel
theorem dX3_init_1 : decode cX3_init 1 = .ok (.iload_n 2, 1) := by decide +kernel
theorem dX3_init_2 : decode cX3_init 2 = .ok (.invokespecial 3, 3) := by decide +kernel
theorem dX3_init_5 : decode cX3_init 5 = .ok (.aload_n 0, 1) := by decide +kernel
theorem dX3_init_6 : decode cX3_init 6 = .ok (.iload_n 1, 1) := by decide +kernel
theorem dX3_init_7 : decode cX3_init 7 = .ok (.putfield 9, 3) := by decide +kernel
theorem dX3_init_10 : decode cX3_init 10 = .ok (.return_, 1) := by decide +kernel
theorem dX3_kindNumber_0 : decode cX3_kindNumber 0 = .ok (.iconst 2, 1) := by decide +kernel
theorem dX3_kindNumber_1 : decode cX3_kindNumber 1 = .ok (.ireturn, 1) := by decide +kernel
theorem dX3_wants_0 : decode cX3_wants 0 = .ok (.aload_n 0, 1) := by decide +kernel
theorem dX3_wants_1 : decode cX3_wants 1 = .ok (.getfield 9, 3) := by decide +kernel
theorem dX3_wants_4 : decode cX3_wants 4 = .ok (.aload_n 0, 1) := by decide +kernel
theorem dX3_wants_5 : decode cX3_wants 5 = .ok (.getfield 15, 3) := by decide +kernel
theorem dX3_wants_8 : decode cX3_wants 8 = .ok (.iload_n 1, 1) := by decide +kernel
theorem dX3_wants_9 : decode cX3_wants 9 = .ok (.invokestatic 18, 3) := by decide +kernel
theorem dX3_wants_12 : decode cX3_wants 12 = .ok (.ireturn, 1) := by decide +kernel
theorem dX3_lowMark_0 : decode cX3_lowMark 0 = .ok (.aload_n 0, 1) := by decide +kernel
theorem dX3_lowMark_1 : decode cX3_lowMark 1 = .ok (.getfield 9, 3) := by decide +kernel
theorem dX3_lowMark_4 : decode cX3_lowMark 4 = .ok (.ireturn, 1) := by decide +kernel
theorem dX3_pairWants_0 : decode cX3_pairWants 0 = .ok (.iload_n 2, 1) := by decide +kernel
theorem dX3_pairWants_1 : decode cX3_pairWants 1 = .ok (.iload_n 0, 1) := by decide +kernel
theorem dX3_pairWants_2 : decode cX3_pairWants 2 = .ok (.if_icmp .gt 9, 3) := by decide +kernel
theorem dX3_pairWants_5 : decode cX3_pairWants 5 = .ok (.iload_n 1, 1) := by decide +kernel
theorem dX3_pairWants_6 : decode cX3_pairWants 6 = .ok (.iload_n 2, 1) := by decide +kernel
theorem dX3_pairWants_7 : decode cX3_pairWants 7 = .ok (.isub, 1) := by decide +kernel
theorem dX3_pairWants_8 : decode cX3_pairWants 8 = .ok (.goto 4, 3) := by decide +kernel
theorem dX3_pairWants_11 : decode cX3_pairWants 11 = .ok (.iconst 0, 1) := by decide +kernel
theorem dX3_pairWants_12 : decode cX3_pairWants 12 = .ok (.ireturn, 1) := by decide +kernel
theorem dX4_init_0 : decode cX4_init 0 = .ok (.aload_n 0, 1) := by decide +kernel
theorem dX4_init_1 : decode cX4_init 1 = .ok (.invokespecial 5, 3) := by decide +kernel
theorem dX4_init_4 : decode cX4_init 4 = .ok (.aload_n 0, 1) := by decide +kernel
theorem dX4_init_5 : decode cX4_init 5 = .ok (.sipush 325, 3) := by decide +kernel
theorem dX4_init_8 : decode cX4_init 8 = .ok (.newarray .long, 2) := by decide +kernel
theorem dX4_init_10 : decode cX4_init 10 = .ok (.putfield 13, 3) := by decide +kernel
theorem dX4_init_13 : decode cX4_init 13 = .ok (.aload_n 0, 1) := by decide +kernel
theorem dX4_init_14 : decode cX4_init 14 = .ok (.sipush 325, 3) := by decide +kernel
theorem dX4_init_17 : decode cX4_init 17 = .ok (.newarray .long, 2) := by decide +kernel
theorem dX4_init_19 : decode cX4_init 19 = .ok (.putfield 17, 3) := by decide +kernel
theorem dX4_init_22 : decode cX4_init 22 = .ok (.aload_n 0, 1) := by decide +kernel
theorem dX4_init_23 : decode cX4_init 23 = .ok (.aload_n 1, 1) := by decide +kernel
theorem dX4_init_24 : decode cX4_init 24 = .ok (.putfield 20, 3) := by decide +kernel
theorem dX4_init_27 : decode cX4_init 27 = .ok (.return_, 1) := by decide +kernel
theorem dX4_plan_0 : decode cX4_plan 0 = .ok (.iconst 0, 1) := by decide +kernel
theorem dX4_plan_1 : decode cX4_plan 1 = .ok (.istore 4, 2) := by decide +kernel
theorem dX4_plan_3 : decode cX4_plan 3 = .ok (.iload 4, 2) := by decide +kernel
theorem dX4_plan_5 : decode cX4_plan 5 = .ok (.aload_n 0, 1) := by decide +kernel
theorem dX4_plan_6 : decode cX4_plan 6 = .ok (.getfield 17, 3) := by decide +kernel
theorem dX4_plan_9 : decode cX4_plan 9 = .ok (.arraylength, 1) := by decide +kernel
theorem dX4_plan_10 : decode cX4_plan 10 = .ok (.if_icmp .ge 17, 3) := by decide +kernel
theorem dX4_plan_13 : decode cX4_plan 13 = .ok (.aload_n 0, 1) := by decide +kernel
theorem dX4_plan_14 : decode cX4_plan 14 = .ok (.getfield 17, 3) := by decide +kernel
theorem dX4_plan_17 : decode cX4_plan 17 = .ok (.iload 4, 2) := by decide +kernel
theorem dX4_plan_19 : decode cX4_plan 19 = .ok (.lconst 0, 1) := by decide +kernel
theorem dX4_plan_20 : decode cX4_plan 20 = .ok (.lastore, 1) := by decide +kernel
theorem dX4_plan_21 : decode cX4_plan 21 = .ok (.iinc 4 1, 3) := by decide +kernel
theorem dX4_plan_24 : decode cX4_plan 24 = .ok (.goto (-21), 3) := by decide +kernel
theorem dX4_plan_27 : decode cX4_plan 27 = .ok (.iload_n 3, 1) := by decide +kernel
theorem dX4_plan_28 : decode cX4_plan 28 = .ok (.istore 4, 2) := by decide +kernel
theorem dX4_plan_30 : decode cX4_plan 30 = .ok (.iload 4, 2) := by decide +kernel
theorem dX4_plan_32 : decode cX4_plan 32 = .ok (.iconst 1, 1) := by decide +kernel
theorem dX4_plan_33 : decode cX4_plan 33 = .ok (.if_icmp .le 30, 3) := by decide +kernel
theorem dX4_plan_36 : decode cX4_plan 36 = .ok (.aload_n 0, 1) := by decide +kernel
theorem dX4_plan_37 : decode cX4_plan 37 = .ok (.aload_n 1, 1) := by decide +kernel
theorem dX4_plan_38 : decode cX4_plan 38 = .ok (.iload_n 3, 1) := by decide +kernel
theorem dX4_plan_39 : decode cX4_plan 39 = .ok (.iload 4, 2) := by decide +kernel
theorem dX4_plan_41 : decode cX4_plan 41 = .ok (.isub, 1) := by decide +kernel
theorem dX4_plan_42 : decode cX4_plan 42 = .ok (.invokevirtual 24, 3) := by decide +kernel
theorem dX4_plan_45 : decode cX4_plan 45 = .ok (.aload_n 0, 1) := by decide +kernel
theorem dX4_plan_46 : decode cX4_plan 46 = .ok (.aload_n 1, 1) := by decide +kernel
theorem dX4_plan_47 : decode cX4_plan 47 = .ok (.aload_n 0, 1) := by decide +kernel
theorem dX4_plan_48 : decode cX4_plan 48 = .ok (.iload 4, 2) := by decide +kernel
theorem dX4_plan_50 : decode cX4_plan 50 = .ok (.iload_n 3, 1) := by decide +kernel
theorem dX4_plan_51 : decode cX4_plan 51 = .ok (.invokevirtual 28, 3) := by decide +kernel
theorem dX4_plan_54 : decode cX4_plan 54 = .ok (.invokevirtual 32, 3) := by decide +kernel
theorem dX4_plan_57 : decode cX4_plan 57 = .ok (.iinc 4 (-1), 3) := by decide +kernel
theorem dX4_plan_60 : decode cX4_plan 60 = .ok (.goto (-30), 3) := by decide +kernel
theorem dX4_plan_63 : decode cX4_plan 63 = .ok (.aload_n 0, 1) := by decide +kernel
theorem dX4_plan_64 : decode cX4_plan 64 = .ok (.aload_n 1, 1) := by decide +kernel
theorem dX4_plan_65 : decode cX4_plan 65 = .ok (.iload_n 3, 1) := by decide +kernel
theorem dX4_plan_66 : decode cX4_plan 66 = .ok (.iconst 1, 1) := by decide +kernel
theorem dX4_plan_67 : decode cX4_plan 67 = .ok (.isub, 1) := by decide +kernel
theorem dX4_plan_68 : decode cX4_plan 68 = .ok (.invokevirtual 24, 3) := by decide +kernel
theorem dX4_plan_71 : decode cX4_plan 71 = .ok (.aload_n 0, 1) := by decide +kernel
theorem dX4_plan_72 : decode cX4_plan 72 = .ok (.aload_n 1, 1) := by decide +kernel
theorem dX4_plan_73 : decode cX4_plan 73 = .ok (.iload_n 2, 1) := by decide +kernel
theorem dX4_plan_74 : decode cX4_plan 74 = .ok (.iconst 0, 1) := by decide +kernel
theorem dX4_plan_75 : decode cX4_plan 75 = .ok (.aload_n 0, 1) := by decide +kernel
theorem dX4_plan_76 : decode cX4_plan 76 = .ok (.iconst 1, 1) := by decide +kernel
theorem dX4_plan_77 : decode cX4_plan 77 = .ok (.iload_n 3, 1) := by decide +kernel
theorem dX4_plan_78 : decode cX4_plan 78 = .ok (.invokevirtual 28, 3) := by decide +kernel
theorem dX4_plan_81 : decode cX4_plan 81 = .ok (.invokevirtual 35, 3) := by decide +kernel
theorem dX4_plan_84 : decode cX4_plan 84 = .ok (.return_, 1) := by decide +kernel
theorem dX4_turnTo_0 : decode cX4_turnTo 0 = .ok (.aload_n 0, 1) := by decide +kernel
theorem dX4_turnTo_1 : decode cX4_turnTo 1 = .ok (.aload_n 1, 1) := by decide +kernel
theorem dX4_turnTo_2 : decode cX4_turnTo 2 = .ok (.iload_n 2, 1) := by decide +kernel
theorem dX4_turnTo_3 : decode cX4_turnTo 3 = .ok (.invokestatic 39, 3) := by decide +kernel
theorem dX4_turnTo_6 : decode cX4_turnTo 6 = .ok (.putfield 43, 3) := by decide +kernel
theorem dX4_turnTo_9 : decode cX4_turnTo 9 = .ok (.aload_n 0, 1) := by decide +kernel
theorem dX4_turnTo_10 : decode cX4_turnTo 10 = .ok (.aload_n 1, 1) := by decide +kernel
theorem dX4_turnTo_11 : decode cX4_turnTo 11 = .ok (.iload_n 2, 1) := by decide +kernel
theorem dX4_turnTo_12 : decode cX4_turnTo 12 = .ok (.iconst 1, 1) := by decide +kernel
theorem dX4_turnTo_13 : decode cX4_turnTo 13 = .ok (.iadd, 1) := by decide +kernel
theorem dX4_turnTo_14 : decode cX4_turnTo 14 = .ok (.invokestatic 39, 3) := by decide +kernel
theorem dX4_turnTo_17 : decode cX4_turnTo 17 = .ok (.putfield 47, 3) := by decide +kernel
theorem dX4_turnTo_20 : decode cX4_turnTo 20 = .ok (.return_, 1) := by decide +kernel
theorem dX4_usefulOrder_0 : decode cX4_usefulOrder 0 = .ok (.iload_n 1, 1) := by decide +kernel
theorem dX4_usefulOrder_1 : decode cX4_usefulOrder 1 = .ok (.aload_n 0, 1) := by decide +kernel
theorem dX4_usefulOrder_2 : decode cX4_usefulOrder 2 = .ok (.getfield 20, 3) := by decide +kernel
theorem dX4_usefulOrder_5 : decode cX4_usefulOrder 5 = .ok (.getfield 50, 3) := by decide +kernel
theorem dX4_usefulOrder_8 : decode cX4_usefulOrder 8 = .ok (.iadd, 1) := by decide +kernel
theorem dX4_usefulOrder_9 : decode cX4_usefulOrder 9 = .ok (.iload_n 2, 1) := by decide +kernel
theorem dX4_usefulOrder_10 : decode cX4_usefulOrder 10 = .ok (.if_icmp .gt 8, 3) := by decide +kernel
theorem dX4_usefulOrder_13 : decode cX4_usefulOrder 13 = .ok (.bipush 12, 2) := by decide +kernel
theorem dX4_usefulOrder_15 : decode cX4_usefulOrder 15 = .ok (.goto 4, 3) := by decide +kernel
theorem dX4_usefulOrder_18 : decode cX4_usefulOrder 18 = .ok (.iconst 0, 1) := by decide +kernel
theorem dX4_usefulOrder_19 : decode cX4_usefulOrder 19 = .ok (.ireturn, 1) := by decide +kernel
theorem dX4_planDay_0 : decode cX4_planDay 0 = .ok (.aload_n 0, 1) := by decide +kernel
theorem dX4_planDay_1 : decode cX4_planDay 1 = .ok (.getfield 20, 3) := by decide +kernel
theorem dX4_planDay_4 : decode cX4_planDay 4 = .ok (.getfield 50, 3) := by decide +kernel
theorem dX4_planDay_7 : decode cX4_planDay 7 = .ok (.iconst 2, 1) := by decide +kernel
theorem dX4_planDay_8 : decode cX4_planDay 8 = .ok (.if_icmp .ne 8, 3) := by decide +kernel
theorem dX4_planDay_11 : decode cX4_planDay 11 = .ok (.bipush 12, 2) := by decide +kernel
theorem dX4_planDay_13 : decode cX4_planDay 13 = .ok (.goto 4, 3) := by decide +kernel
theorem dX4_planDay_16 : decode cX4_planDay 16 = .ok (.iconst 0, 1) := by decide +kernel
theorem dX4_planDay_17 : decode cX4_planDay 17 = .ok (.istore_n 3, 1) := by decide +kernel
theorem dX4_planDay_18 : decode cX4_planDay 18 = .ok (.iconst 0, 1) := by decide +kernel
theorem dX4_planDay_19 : decode cX4_planDay 19 = .ok (.istore 4, 2) := by decide +kernel
theorem dX4_planDay_21 : decode cX4_planDay 21 = .ok (.iload 4, 2) := by decide +kernel
theorem dX4_planDay_23 : decode cX4_planDay 23 = .ok (.iload_n 3, 1) := by decide +kernel
theorem dX4_planDay_24 : decode cX4_planDay 24 = .ok (.if_icmp .gt 81, 3) := by decide +kernel
theorem dX4_planDay_27 : decode cX4_planDay 27 = .ok (.aload_n 0, 1) := by decide +kernel
theorem dX4_planDay_28 : decode cX4_planDay 28 = .ok (.getfield 20, 3) := by decide +kernel
theorem dX4_planDay_31 : decode cX4_planDay 31 = .ok (.invokevirtual 54, 3) := by decide +kernel
theorem dX4_planDay_34 : decode cX4_planDay 34 = .ok (.istore 5, 2) := by decide +kernel
theorem dX4_planDay_36 : decode cX4_planDay 36 = .ok (.iload 5, 2) := by decide +kernel
theorem dX4_planDay_38 : decode cX4_planDay 38 = .ok (.aload_n 0, 1) := by decide +kernel
theorem dX4_planDay_39 : decode cX4_planDay 39 = .ok (.getfield 20, 3) := by decide +kernel
theorem dX4_planDay_42 : decode cX4_planDay 42 = .ok (.getfield 58, 3) := by decide +kernel
theorem dX4_planDay_45 : decode cX4_planDay 45 = .ok (.if_icmp .gt 54, 3) := by decide +kernel
theorem dX4_planDay_48 : decode cX4_planDay 48 = .ok (.aload_n 0, 1) := by decide +kernel
theorem dX4_planDay_49 : decode cX4_planDay 49 = .ok (.aload_n 1, 1) := by decide +kernel
theorem dX4_planDay_50 : decode cX4_planDay 50 = .ok (.iload 5, 2) := by decide +kernel
theorem dX4_planDay_52 : decode cX4_planDay 52 = .ok (.iload 4, 2) := by decide +kernel
theorem dX4_planDay_54 : decode cX4_planDay 54 = .ok (.iload_n 2, 1) := by decide +kernel
theorem dX4_planDay_55 : decode cX4_planDay 55 = .ok (.invokevirtual 35, 3) := by decide +kernel
theorem dX4_planDay_58 : decode cX4_planDay 58 = .ok (.iload 5, 2) := by decide +kernel
theorem dX4_planDay_60 : decode cX4_planDay 60 = .ok (.iload 4, 2) := by decide +kernel
theorem dX4_planDay_62 : decode cX4_planDay 62 = .ok (.invokestatic 61, 3) := by decide +kernel
theorem dX4_planDay_65 : decode cX4_planDay 65 = .ok (.istore 6, 2) := by decide +kernel
theorem dX4_planDay_67 : decode cX4_planDay 67 = .ok (.iload 6, 2) := by decide +kernel
theorem dX4_planDay_69 : decode cX4_planDay 69 = .ok (.ifCond .lt 24, 3) := by decide +kernel
theorem dX4_planDay_72 : decode cX4_planDay 72 = .ok (.iload 6, 2) := by decide +kernel
theorem dX4_planDay_74 : decode cX4_planDay 74 = .ok (.aload_n 0, 1) := by decide +kernel
theorem dX4_planDay_75 : decode cX4_planDay 75 = .ok (.getfield 13, 3) := by decide +kernel
theorem dX4_planDay_78 : decode cX4_planDay 78 = .ok (.arraylength, 1) := by decide +kernel
theorem dX4_planDay_79 : decode cX4_planDay 79 = .ok (.if_icmp .ge 14, 3) := by decide +kernel
theorem dX4_planDay_82 : decode cX4_planDay 82 = .ok (.aload_n 0, 1) := by decide +kernel
theorem dX4_planDay_83 : decode cX4_planDay 83 = .ok (.getfield 13, 3) := by decide +kernel
theorem dX4_planDay_86 : decode cX4_planDay 86 = .ok (.iload 6, 2) := by decide +kernel
theorem dX4_planDay_88 : decode cX4_planDay 88 = .ok (.aload_n 0, 1) := by decide +kernel
theorem dX4_planDay_89 : decode cX4_planDay 89 = .ok (.getfield 64, 3) := by decide +kernel
theorem dX4_planDay_92 : decode cX4_planDay 92 = .ok (.lastore, 1) := by decide +kernel
theorem dX4_planDay_93 : decode cX4_planDay 93 = .ok (.iinc 5 1, 3) := by decide +kernel
theorem dX4_planDay_96 : decode cX4_planDay 96 = .ok (.goto (-60), 3) := by decide +kernel
theorem dX4_planDay_99 : decode cX4_planDay 99 = .ok (.iinc 4 1, 3) := by decide +kernel
theorem dX4_planDay_102 : decode cX4_planDay 102 = .ok (.goto (-81), 3) := by decide +kernel
theorem dX4_planDay_105 : decode cX4_planDay 105 = .ok (.aload_n 0, 1) := by decide +kernel
theorem dX4_planDay_106 : decode cX4_planDay 106 = .ok (.getfield 13, 3) := by decide +kernel
theorem dX4_planDay_109 : decode cX4_planDay 109 = .ok (.astore 4, 2) := by decide +kernel
theorem dX4_planDay_111 : decode cX4_planDay 111 = .ok (.aload_n 0, 1) := by decide +kernel
theorem dX4_planDay_112 : decode cX4_planDay 112 = .ok (.aload_n 0, 1) := by decide +kernel
theorem dX4_planDay_113 : decode cX4_planDay 113 = .ok (.getfield 17, 3) := by decide +kernel
theorem dX4_planDay_116 : decode cX4_planDay 116 = .ok (.putfield 13, 3) := by decide +kernel
theorem dX4_planDay_119 : decode cX4_planDay 119 = .ok (.aload_n 0, 1) := by decide +kernel
theorem dX4_planDay_120 : decode cX4_planDay 120 = .ok (.aload 4, 2) := by decide +kernel
theorem dX4_planDay_122 : decode cX4_planDay 122 = .ok (.putfield 17, 3) := by decide +kernel
theorem dX4_planDay_125 : decode cX4_planDay 125 = .ok (.return_, 1) := by decide +kernel
theorem dX4_choose_0 : decode cX4_choose 0 = .ok (.aload_n 0, 1) := by decide +kernel
theorem dX4_choose_1 : decode cX4_choose 1 = .ok (.aload_n 0, 1) := by decide +kernel
theorem dX4_choose_2 : decode cX4_choose 2 = .ok (.aload_n 1, 1) := by decide +kernel
theorem dX4_choose_3 : decode cX4_choose 3 = .ok (.iload_n 2, 1) := by decide +kernel
theorem dX4_choose_4 : decode cX4_choose 4 = .ok (.iload_n 3, 1) := by decide +kernel
theorem dX4_choose_5 : decode cX4_choose 5 = .ok (.iconst 0, 1) := by decide +kernel
theorem dX4_choose_6 : decode cX4_choose 6 = .ok (.invokevirtual 67, 3) := by decide +kernel
theorem dX4_choose_9 : decode cX4_choose 9 = .ok (.putfield 64, 3) := by decide +kernel
theorem dX4_choose_12 : decode cX4_choose 12 = .ok (.aload_n 0, 1) := by decide +kernel
theorem dX4_choose_13 : decode cX4_choose 13 = .ok (.iconst 0, 1) := by decide +kernel
theorem dX4_choose_14 : decode cX4_choose 14 = .ok (.putfield 71, 3) := by decide +kernel
theorem dX4_choose_17 : decode cX4_choose 17 = .ok (.iconst 1, 1) := by decide +kernel
theorem dX4_choose_18 : decode cX4_choose 18 = .ok (.istore 5, 2) := by decide +kernel
theorem dX4_choose_20 : decode cX4_choose 20 = .ok (.iload 5, 2) := by decide +kernel
theorem dX4_choose_22 : decode cX4_choose 22 = .ok (.iload 4, 2) := by decide +kernel
theorem dX4_choose_24 : decode cX4_choose 24 = .ok (.if_icmp .gt 42, 3) := by decide +kernel
theorem dX4_choose_27 : decode cX4_choose 27 = .ok (.aload_n 0, 1) := by decide +kernel
theorem dX4_choose_28 : decode cX4_choose 28 = .ok (.aload_n 1, 1) := by decide +kernel
theorem dX4_choose_29 : decode cX4_choose 29 = .ok (.iload_n 2, 1) := by decide +kernel
theorem dX4_choose_30 : decode cX4_choose 30 = .ok (.iload_n 3, 1) := by decide +kernel
theorem dX4_choose_31 : decode cX4_choose 31 = .ok (.iload 5, 2) := by decide +kernel
theorem dX4_choose_33 : decode cX4_choose 33 = .ok (.invokevirtual 67, 3) := by decide +kernel
theorem dX4_choose_36 : decode cX4_choose 36 = .ok (.lstore 6, 2) := by decide +kernel
theorem dX4_choose_38 : decode cX4_choose 38 = .ok (.lload 6, 2) := by decide +kernel
theorem dX4_choose_40 : decode cX4_choose 40 = .ok (.aload_n 0, 1) := by decide +kernel
theorem dX4_choose_41 : decode cX4_choose 41 = .ok (.getfield 64, 3) := by decide +kernel
theorem dX4_choose_44 : decode cX4_choose 44 = .ok (.lcmp, 1) := by decide +kernel
theorem dX4_choose_45 : decode cX4_choose 45 = .ok (.ifCond .ge 15, 3) := by decide +kernel
theorem dX4_choose_48 : decode cX4_choose 48 = .ok (.aload_n 0, 1) := by decide +kernel
theorem dX4_choose_49 : decode cX4_choose 49 = .ok (.lload 6, 2) := by decide +kernel
theorem dX4_choose_51 : decode cX4_choose 51 = .ok (.putfield 64, 3) := by decide +kernel
theorem dX4_choose_54 : decode cX4_choose 54 = .ok (.aload_n 0, 1) := by decide +kernel
theorem dX4_choose_55 : decode cX4_choose 55 = .ok (.iload 5, 2) := by decide +kernel
theorem dX4_choose_57 : decode cX4_choose 57 = .ok (.putfield 71, 3) := by decide +kernel
theorem dX4_choose_60 : decode cX4_choose 60 = .ok (.iinc 5 1, 3) := by decide +kernel
theorem dX4_choose_63 : decode cX4_choose 63 = .ok (.goto (-43), 3) := by decide +kernel
theorem dX4_choose_66 : decode cX4_choose 66 = .ok (.return_, 1) := by decide +kernel
theorem dX4_priceOf_0 : decode cX4_priceOf 0 = .ok (.aload_n 0, 1) := by decide +kernel
theorem dX4_priceOf_1 : decode cX4_priceOf 1 = .ok (.getfield 20, 3) := by decide +kernel
theorem dX4_priceOf_4 : decode cX4_priceOf 4 = .ok (.getfield 50, 3) := by decide +kernel
theorem dX4_priceOf_7 : decode cX4_priceOf 7 = .ok (.ifCond .ne 16, 3) := by decide +kernel
theorem dX4_priceOf_10 : decode cX4_priceOf 10 = .ok (.aload_n 0, 1) := by decide +kernel
theorem dX4_priceOf_11 : decode cX4_priceOf 11 = .ok (.getfield 20, 3) := by decide +kernel
theorem dX4_priceOf_14 : decode cX4_priceOf 14 = .ok (.iload_n 2, 1) := by decide +kernel
theorem dX4_priceOf_15 : decode cX4_priceOf 15 = .ok (.iload 4, 2) := by decide +kernel
theorem dX4_priceOf_17 : decode cX4_priceOf 17 = .ok (.invokevirtual 74, 3) := by decide +kernel
theorem dX4_priceOf_20 : decode cX4_priceOf 20 = .ok (.goto 4, 3) := by decide +kernel
theorem dX4_priceOf_23 : decode cX4_priceOf 23 = .ok (.iload_n 2, 1) := by decide +kernel
theorem dX4_priceOf_24 : decode cX4_priceOf 24 = .ok (.istore 5, 2) := by decide +kernel
theorem dX4_priceOf_26 : decode cX4_priceOf 26 = .ok (.aload_n 0, 1) := by decide +kernel
theorem dX4_priceOf_27 : decode cX4_priceOf 27 = .ok (.getfield 20, 3) := by decide +kernel
theorem dX4_priceOf_30 : decode cX4_priceOf 30 = .ok (.getfield 50, 3) := by decide +kernel
theorem dX4_priceOf_33 : decode cX4_priceOf 33 = .ok (.iconst 2, 1) := by decide +kernel
theorem dX4_priceOf_34 : decode cX4_priceOf 34 = .ok (.if_icmp .ne 7, 3) := by decide +kernel
theorem dX4_priceOf_37 : decode cX4_priceOf 37 = .ok (.iload_n 3, 1) := by decide +kernel
theorem dX4_priceOf_38 : decode cX4_priceOf 38 = .ok (.goto 20, 3) := by decide +kernel
theorem dX4_priceOf_41 : decode cX4_priceOf 41 = .ok (.aload_n 0, 1) := by decide +kernel
theorem dX4_priceOf_42 : decode cX4_priceOf 42 = .ok (.getfield 20, 3) := by decide +kernel
theorem dX4_priceOf_45 : decode cX4_priceOf 45 = .ok (.getfield 50, 3) := by decide +kernel
theorem dX4_priceOf_48 : decode cX4_priceOf 48 = .ok (.iconst 1, 1) := by decide +kernel
theorem dX4_priceOf_49 : decode cX4_priceOf 49 = .ok (.if_icmp .ne 8, 3) := by decide +kernel
theorem dX4_priceOf_52 : decode cX4_priceOf 52 = .ok (.iload 4, 2) := by decide +kernel
theorem dX4_priceOf_54 : decode cX4_priceOf 54 = .ok (.goto 4, 3) := by decide +kernel
theorem dX4_priceOf_57 : decode cX4_priceOf 57 = .ok (.iconst 0, 1) := by decide +kernel
theorem dX4_priceOf_58 : decode cX4_priceOf 58 = .ok (.istore 6, 2) := by decide +kernel
theorem dX4_priceOf_60 : decode cX4_priceOf 60 = .ok (.aload_n 0, 1) := by decide +kernel
theorem dX4_priceOf_61 : decode cX4_priceOf 61 = .ok (.getfield 20, 3) := by decide +kernel
theorem dX4_priceOf_64 : decode cX4_priceOf 64 = .ok (.getfield 50, 3) := by decide +kernel
theorem dX4_priceOf_67 : decode cX4_priceOf 67 = .ok (.iconst 2, 1) := by decide +kernel
theorem dX4_priceOf_68 : decode cX4_priceOf 68 = .ok (.if_icmp .ne 8, 3) := by decide +kernel
theorem dX4_priceOf_71 : decode cX4_priceOf 71 = .ok (.iload 4, 2) := by decide +kernel
theorem dX4_priceOf_73 : decode cX4_priceOf 73 = .ok (.goto 4, 3) := by decide +kernel
theorem dX4_priceOf_76 : decode cX4_priceOf 76 = .ok (.iconst 0, 1) := by decide +kernel
theorem dX4_priceOf_77 : decode cX4_priceOf 77 = .ok (.istore 7, 2) := by decide +kernel
theorem dX4_priceOf_79 : decode cX4_priceOf 79 = .ok (.aload_n 0, 1) := by decide +kernel
theorem dX4_priceOf_80 : decode cX4_priceOf 80 = .ok (.getfield 20, 3) := by decide +kernel
theorem dX4_priceOf_83 : decode cX4_priceOf 83 = .ok (.iload 4, 2) := by decide +kernel
theorem dX4_priceOf_85 : decode cX4_priceOf 85 = .ok (.invokevirtual 77, 3) := by decide +kernel
theorem dX4_priceOf_88 : decode cX4_priceOf 88 = .ok (.i2l, 1) := by decide +kernel
theorem dX4_priceOf_89 : decode cX4_priceOf 89 = .ok (.aload_n 0, 1) := by decide +kernel
theorem dX4_priceOf_90 : decode cX4_priceOf 90 = .ok (.getfield 47, 3) := by decide +kernel
theorem dX4_priceOf_93 : decode cX4_priceOf 93 = .ok (.lmul, 1) := by decide +kernel
theorem dX4_priceOf_94 : decode cX4_priceOf 94 = .ok (.aload_n 0, 1) := by decide +kernel
theorem dX4_priceOf_95 : decode cX4_priceOf 95 = .ok (.getfield 20, 3) := by decide +kernel
theorem dX4_priceOf_98 : decode cX4_priceOf 98 = .ok (.iload 5, 2) := by decide +kernel
theorem dX4_priceOf_100 : decode cX4_priceOf 100 = .ok (.invokevirtual 81, 3) := by decide +kernel
theorem dX4_priceOf_103 : decode cX4_priceOf 103 = .ok (.i2l, 1) := by decide +kernel
theorem dX4_priceOf_104 : decode cX4_priceOf 104 = .ok (.aload_n 0, 1) := by decide +kernel
theorem dX4_priceOf_105 : decode cX4_priceOf 105 = .ok (.getfield 43, 3) := by decide +kernel
theorem dX4_priceOf_108 : decode cX4_priceOf 108 = .ok (.lmul, 1) := by decide +kernel
theorem dX4_priceOf_109 : decode cX4_priceOf 109 = .ok (.ladd, 1) := by decide +kernel
theorem dX4_priceOf_110 : decode cX4_priceOf 110 = .ok (.lstore 8, 2) := by decide +kernel
theorem dX4_priceOf_112 : decode cX4_priceOf 112 = .ok (.iconst 0, 1) := by decide +kernel
theorem dX4_priceOf_113 : decode cX4_priceOf 113 = .ok (.istore 10, 2) := by decide +kernel
theorem dX4_priceOf_115 : decode cX4_priceOf 115 = .ok (.iload 10, 2) := by decide +kernel
theorem dX4_priceOf_117 : decode cX4_priceOf 117 = .ok (.bipush 7, 2) := by decide +kernel
theorem dX4_priceOf_119 : decode cX4_priceOf 119 = .ok (.if_icmp .ge 64, 3) := by decide +kernel
theorem dX4_priceOf_122 : decode cX4_priceOf 122 = .ok (.aload_n 1, 1) := by decide +kernel
theorem dX4_priceOf_123 : decode cX4_priceOf 123 = .ok (.iload 10, 2) := by decide +kernel
theorem dX4_priceOf_125 : decode cX4_priceOf 125 = .ok (.invokevirtual 84, 3) := by decide +kernel
theorem dX4_priceOf_128 : decode cX4_priceOf 128 = .ok (.istore 11, 2) := by decide +kernel
theorem dX4_priceOf_130 : decode cX4_priceOf 130 = .ok (.iload 11, 2) := by decide +kernel
theorem dX4_priceOf_132 : decode cX4_priceOf 132 = .ok (.ifCond .le 45, 3) := by decide +kernel
theorem dX4_priceOf_135 : decode cX4_priceOf 135 = .ok (.aload_n 0, 1) := by decide +kernel
theorem dX4_priceOf_136 : decode cX4_priceOf 136 = .ok (.getfield 20, 3) := by decide +kernel
theorem dX4_priceOf_139 : decode cX4_priceOf 139 = .ok (.aload_n 0, 1) := by decide +kernel
theorem dX4_priceOf_140 : decode cX4_priceOf 140 = .ok (.getfield 20, 3) := by decide +kernel
theorem dX4_priceOf_143 : decode cX4_priceOf 143 = .ok (.iload 5, 2) := by decide +kernel
theorem dX4_priceOf_145 : decode cX4_priceOf 145 = .ok (.iload 10, 2) := by decide +kernel
theorem dX4_priceOf_147 : decode cX4_priceOf 147 = .ok (.invokevirtual 89, 3) := by decide +kernel
theorem dX4_priceOf_150 : decode cX4_priceOf 150 = .ok (.iload 6, 2) := by decide +kernel
theorem dX4_priceOf_152 : decode cX4_priceOf 152 = .ok (.invokevirtual 74, 3) := by decide +kernel
theorem dX4_priceOf_155 : decode cX4_priceOf 155 = .ok (.istore 12, 2) := by decide +kernel
theorem dX4_priceOf_157 : decode cX4_priceOf 157 = .ok (.lload 8, 2) := by decide +kernel
theorem dX4_priceOf_159 : decode cX4_priceOf 159 = .ok (.iload 11, 2) := by decide +kernel
theorem dX4_priceOf_161 : decode cX4_priceOf 161 = .ok (.i2l, 1) := by decide +kernel
theorem dX4_priceOf_162 : decode cX4_priceOf 162 = .ok (.aload_n 0, 1) := by decide +kernel
theorem dX4_priceOf_163 : decode cX4_priceOf 163 = .ok (.iload 12, 2) := by decide +kernel
theorem dX4_priceOf_165 : decode cX4_priceOf 165 = .ok (.iload 7, 2) := by decide +kernel
theorem dX4_priceOf_167 : decode cX4_priceOf 167 = .ok (.invokestatic 61, 3) := by decide +kernel
theorem dX4_priceOf_170 : decode cX4_priceOf 170 = .ok (.invokevirtual 92, 3) := by decide +kernel
theorem dX4_priceOf_173 : decode cX4_priceOf 173 = .ok (.lmul, 1) := by decide +kernel
theorem dX4_priceOf_174 : decode cX4_priceOf 174 = .ok (.ladd, 1) := by decide +kernel
theorem dX4_priceOf_175 : decode cX4_priceOf 175 = .ok (.lstore 8, 2) := by decide +kernel
theorem dX4_priceOf_177 : decode cX4_priceOf 177 = .ok (.iinc 10 1, 3) := by decide +kernel
theorem dX4_priceOf_180 : decode cX4_priceOf 180 = .ok (.goto (-65), 3) := by decide +kernel
theorem dX4_priceOf_183 : decode cX4_priceOf 183 = .ok (.lload 8, 2) := by decide +kernel
theorem dX4_priceOf_185 : decode cX4_priceOf 185 = .ok (.lreturn, 1) := by decide +kernel
theorem dX4_laterAt_0 : decode cX4_laterAt 0 = .ok (.iload_n 1, 1) := by decide +kernel
theorem dX4_laterAt_1 : decode cX4_laterAt 1 = .ok (.ifCond .lt 21, 3) := by decide +kernel
theorem dX4_laterAt_4 : decode cX4_laterAt 4 = .ok (.iload_n 1, 1) := by decide +kernel
theorem dX4_laterAt_5 : decode cX4_laterAt 5 = .ok (.aload_n 0, 1) := by decide +kernel
theorem dX4_laterAt_6 : decode cX4_laterAt 6 = .ok (.getfield 17, 3) := by decide +kernel
theorem dX4_laterAt_9 : decode cX4_laterAt 9 = .ok (.arraylength, 1) := by decide +kernel
theorem dX4_laterAt_10 : decode cX4_laterAt 10 = .ok (.if_icmp .ge 12, 3) := by decide +kernel
theorem dX4_laterAt_13 : decode cX4_laterAt 13 = .ok (.aload_n 0, 1) := by decide +kernel
theorem dX4_laterAt_14 : decode cX4_laterAt 14 = .ok (.getfield 17, 3) := by decide +kernel
theorem dX4_laterAt_17 : decode cX4_laterAt 17 = .ok (.iload_n 1, 1) := by decide +kernel
theorem dX4_laterAt_18 : decode cX4_laterAt 18 = .ok (.laload, 1) := by decide +kernel
theorem dX4_laterAt_19 : decode cX4_laterAt 19 = .ok (.goto 4, 3) := by decide +kernel
theorem dX4_laterAt_22 : decode cX4_laterAt 22 = .ok (.lconst 0, 1) := by decide +kernel
theorem dX4_laterAt_23 : decode cX4_laterAt 23 = .ok (.lreturn, 1) := by decide +kernel
theorem dX4_placeOf_0 : decode cX4_placeOf 0 = .ok (.iload_n 1, 1) := by decide +kernel
theorem dX4_placeOf_1 : decode cX4_placeOf 1 = .ok (.bipush 25, 2) := by decide +kernel
theorem dX4_placeOf_3 : decode cX4_placeOf 3 = .ok (.imul, 1) := by decide +kernel
theorem dX4_placeOf_4 : decode cX4_placeOf 4 = .ok (.iload_n 0, 1) := by decide +kernel
theorem dX4_placeOf_5 : decode cX4_placeOf 5 = .ok (.iadd, 1) := by decide +kernel
theorem dX4_placeOf_6 : decode cX4_placeOf 6 = .ok (.bipush (-12), 2) := by decide +kernel
theorem dX4_placeOf_8 : decode cX4_placeOf 8 = .ok (.isub, 1) := by decide +kernel
theorem dX4_placeOf_9 : decode cX4_placeOf 9 = .ok (.ireturn, 1) := by decide +kernel
theorem dX5_init_0 : decode cX5_init 0 = .ok (.aload_n 0, 1) := by decide +kernel
theorem dX5_init_1 : decode cX5_init 1 = .ok (.invokespecial 3, 3) := by decide +kernel
theorem dX5_init_4 : decode cX5_init 4 = .ok (.return_, 1) := by decide +kernel
theorem dX5_topMark_0 : decode cX5_topMark 0 = .ok (.bipush (-9), 2) := by decide +kernel
theorem dX5_topMark_2 : decode cX5_topMark 2 = .ok (.ireturn, 1) := by decide +kernel
theorem dX5_lowMark_0 : decode cX5_lowMark 0 = .ok (.bipush (-9), 2) := by decide +kernel
theorem dX5_lowMark_2 : decode cX5_lowMark 2 = .ok (.ireturn, 1) := by decide +kernel
theorem dX5_lotSize_0 : decode cX5_lotSize 0 = .ok (.bipush (-9), 2) := by decide +kernel
theorem dX5_lotSize_2 : decode cX5_lotSize 2 = .ok (.ireturn, 1) := by decide +kernel
theorem dX5_tableSize_0 : decode cX5_tableSize 0 = .ok (.bipush (-9), 2) := by decide +kernel
theorem dX5_tableSize_2 : decode cX5_tableSize 2 = .ok (.ireturn, 1) := by decide +kernel
theorem dX6_init_0 : decode cX6_init 0 = .ok (.aload_n 0, 1) := by decide +kernel
theorem dX6_init_1 : decode cX6_init 1 = .ok (.invokespecial 3, 3) := by decide +kernel
theorem dX6_init_4 : decode cX6_init 4 = .ok (.aload_n 0, 1) := by decide +kernel
theorem dX6_init_5 : decode cX6_init 5 = .ok (.bipush 12, 2) := by decide +kernel
theorem dX6_init_7 : decode cX6_init 7 = .ok (.putfield 9, 3) := by decide +kernel
theorem dX6_init_10 : decode cX6_init 10 = .ok (.aload_n 0, 1) := by decide +kernel
theorem dX6_init_11 : decode cX6_init 11 = .ok (.bipush 10, 2) := by decide +kernel
theorem dX6_init_13 : decode cX6_init 13 = .ok (.putfield 15, 3) := by decide +kernel
theorem dX6_init_16 : decode cX6_init 16 = .ok (.aload_n 0, 1) := by decide +kernel
theorem dX6_init_17 : decode cX6_init 17 = .ok (.iconst 1, 1) := by decide +kernel
theorem dX6_init_18 : decode cX6_init 18 = .ok (.putfield 18, 3) := by decide +kernel
theorem dX6_init_21 : decode cX6_init 21 = .ok (.aload_n 0, 1) := by decide +kernel
theorem dX6_init_22 : decode cX6_init 22 = .ok (.iconst 1, 1) := by decide +kernel
theorem dX6_init_23 : decode cX6_init 23 = .ok (.putfield 21, 3) := by decide +kernel
theorem dX6_init_26 : decode cX6_init 26 = .ok (.aload_n 0, 1) := by decide +kernel
theorem dX6_init_27 : decode cX6_init 27 = .ok (.iconst 5, 1) := by decide +kernel
theorem dX6_init_28 : decode cX6_init 28 = .ok (.putfield 24, 3) := by decide +kernel
theorem dX6_init_31 : decode cX6_init 31 = .ok (.aload_n 0, 1) := by decide +kernel
theorem dX6_init_32 : decode cX6_init 32 = .ok (.bipush 25, 2) := by decide +kernel
theorem dX6_init_34 : decode cX6_init 34 = .ok (.newarray .int, 2) := by decide +kernel
theorem dX6_init_36 : decode cX6_init 36 = .ok (.putfield 27, 3) := by decide +kernel
theorem dX6_init_39 : decode cX6_init 39 = .ok (.aload_n 0, 1) := by decide +kernel
theorem dX6_init_40 : decode cX6_init 40 = .ok (.bipush 25, 2) := by decide +kernel
theorem dX6_init_42 : decode cX6_init 42 = .ok (.newarray .int, 2) := by decide +kernel
theorem dX6_init_44 : decode cX6_init 44 = .ok (.putfield 31, 3) := by decide +kernel
theorem dX6_init_47 : decode cX6_init 47 = .ok (.aload_n 0, 1) := by decide +kernel
theorem dX6_init_48 : decode cX6_init 48 = .ok (.bipush 25, 2) := by decide +kernel
theorem dX6_init_50 : decode cX6_init 50 = .ok (.newarray .int, 2) := by decide +kernel
theorem dX6_init_52 : decode cX6_init 52 = .ok (.putfield 34, 3) := by decide +kernel
theorem dX6_init_55 : decode cX6_init 55 = .ok (.return_, 1) := by decide +kernel
theorem dX6_floor_0 : decode cX6_floor 0 = .ok (.aload_n 0, 1) := by decide +kernel
theorem dX6_floor_1 : decode cX6_floor 1 = .ok (.getfield 37, 3) := by decide +kernel
theorem dX6_floor_4 : decode cX6_floor 4 = .ok (.ifCond .eq 8, 3) := by decide +kernel
theorem dX6_floor_7 : decode cX6_floor 7 = .ok (.bipush (-12), 2) := by decide +kernel
theorem dX6_floor_9 : decode cX6_floor 9 = .ok (.goto 4, 3) := by decide +kernel
theorem dX6_floor_12 : decode cX6_floor 12 = .ok (.iconst 0, 1) := by decide +kernel
theorem dX6_floor_13 : decode cX6_floor 13 = .ok (.ireturn, 1) := by decide +kernel
theorem dX6_filled_0 : decode cX6_filled 0 = .ok (.iload_n 1, 1) := by decide +kernel
theorem dX6_filled_1 : decode cX6_filled 1 = .ok (.iload_n 2, 1) := by decide +kernel
theorem dX6_filled_2 : decode cX6_filled 2 = .ok (.iadd, 1) := by decide +kernel
theorem dX6_filled_3 : decode cX6_filled 3 = .ok (.aload_n 0, 1) := by decide +kernel
theorem dX6_filled_4 : decode cX6_filled 4 = .ok (.getfield 9, 3) := by decide +kernel
theorem dX6_filled_7 : decode cX6_filled 7 = .ok (.invokestatic 41, 3) := by decide +kernel
theorem dX6_filled_10 : decode cX6_filled 10 = .ok (.ireturn, 1) := by decide +kernel
theorem dX6_leftOf_0 : decode cX6_leftOf 0 = .ok (.iload_n 1, 1) := by decide +kernel
theorem dX6_leftOf_1 : decode cX6_leftOf 1 = .ok (.iload_n 2, 1) := by decide +kernel
theorem dX6_leftOf_2 : decode cX6_leftOf 2 = .ok (.isub, 1) := by decide +kernel
theorem dX6_leftOf_3 : decode cX6_leftOf 3 = .ok (.aload_n 0, 1) := by decide +kernel
theorem dX6_leftOf_4 : decode cX6_leftOf 4 = .ok (.getfield 37, 3) := by decide +kernel
theorem dX6_leftOf_7 : decode cX6_leftOf 7 = .ok (.ifCond .eq 8, 3) := by decide +kernel
theorem dX6_leftOf_10 : decode cX6_leftOf 10 = .ok (.bipush (-12), 2) := by decide +kernel
theorem dX6_leftOf_12 : decode cX6_leftOf 12 = .ok (.goto 4, 3) := by decide +kernel
theorem dX6_leftOf_15 : decode cX6_leftOf 15 = .ok (.iconst 0, 1) := by decide +kernel
theorem dX6_leftOf_16 : decode cX6_leftOf 16 = .ok (.invokestatic 47, 3) := by decide +kernel
theorem dX6_leftOf_19 : decode cX6_leftOf 19 = .ok (.ireturn, 1) := by decide +kernel
theorem dX6_orderPrice_0 : decode cX6_orderPrice 0 = .ok (.iload_n 1, 1) := by decide +kernel
theorem dX6_orderPrice_1 : decode cX6_orderPrice 1 = .ok (.ifCond .le 17, 3) := by decide +kernel
theorem dX6_orderPrice_4 : decode cX6_orderPrice 4 = .ok (.aload_n 0, 1) := by decide +kernel
theorem dX6_orderPrice_5 : decode cX6_orderPrice 5 = .ok (.getfield 15, 3) := by decide +kernel
theorem dX6_orderPrice_8 : decode cX6_orderPrice 8 = .ok (.aload_n 0, 1) := by decide +kernel
theorem dX6_orderPrice_9 : decode cX6_orderPrice 9 = .ok (.getfield 18, 3) := by decide +kernel
theorem dX6_orderPrice_12 : decode cX6_orderPrice 12 = .ok (.iload_n 1, 1) := by decide +kernel
theorem dX6_orderPrice_13 : decode cX6_orderPrice 13 = .ok (.imul, 1) := by decide +kernel
theorem dX6_orderPrice_14 : decode cX6_orderPrice 14 = .ok (.iadd, 1) := by decide +kernel
theorem dX6_orderPrice_15 : decode cX6_orderPrice 15 = .ok (.goto 4, 3) := by decide +kernel
theorem dX6_orderPrice_18 : decode cX6_orderPrice 18 = .ok (.iconst 0, 1) := by decide +kernel
theorem dX6_orderPrice_19 : decode cX6_orderPrice 19 = .ok (.ireturn, 1) := by decide +kernel
theorem dX6_reckon_0 : decode cX6_reckon 0 = .ok (.iconst 0, 1) := by decide +kernel
theorem dX6_reckon_1 : decode cX6_reckon 1 = .ok (.istore_n 2, 1) := by decide +kernel
theorem dX6_reckon_2 : decode cX6_reckon 2 = .ok (.iload_n 2, 1) := by decide +kernel
theorem dX6_reckon_3 : decode cX6_reckon 3 = .ok (.bipush 25, 2) := by decide +kernel
theorem dX6_reckon_5 : decode cX6_reckon 5 = .ok (.if_icmp .ge 55, 3) := by decide +kernel
theorem dX6_reckon_8 : decode cX6_reckon 8 = .ok (.aload_n 0, 1) := by decide +kernel
theorem dX6_reckon_9 : decode cX6_reckon 9 = .ok (.getfield 27, 3) := by decide +kernel
theorem dX6_reckon_12 : decode cX6_reckon 12 = .ok (.iload_n 2, 1) := by decide +kernel
theorem dX6_reckon_13 : decode cX6_reckon 13 = .ok (.iconst 0, 1) := by decide +kernel
theorem dX6_reckon_14 : decode cX6_reckon 14 = .ok (.iastore, 1) := by decide +kernel
theorem dX6_reckon_15 : decode cX6_reckon 15 = .ok (.aload_n 0, 1) := by decide +kernel
theorem dX6_reckon_16 : decode cX6_reckon 16 = .ok (.getfield 31, 3) := by decide +kernel
theorem dX6_reckon_19 : decode cX6_reckon 19 = .ok (.iload_n 2, 1) := by decide +kernel
theorem dX6_reckon_20 : decode cX6_reckon 20 = .ok (.iconst 0, 1) := by decide +kernel
theorem dX6_reckon_21 : decode cX6_reckon 21 = .ok (.iastore, 1) := by decide +kernel
theorem dX6_reckon_22 : decode cX6_reckon 22 = .ok (.aload_n 0, 1) := by decide +kernel
theorem dX6_reckon_23 : decode cX6_reckon 23 = .ok (.getfield 34, 3) := by decide +kernel
theorem dX6_reckon_26 : decode cX6_reckon 26 = .ok (.iload_n 2, 1) := by decide +kernel
theorem dX6_reckon_27 : decode cX6_reckon 27 = .ok (.iconst 0, 1) := by decide +kernel
theorem dX6_reckon_28 : decode cX6_reckon 28 = .ok (.iastore, 1) := by decide +kernel
theorem dX6_reckon_29 : decode cX6_reckon 29 = .ok (.iconst 0, 1) := by decide +kernel
theorem dX6_reckon_30 : decode cX6_reckon 30 = .ok (.istore_n 3, 1) := by decide +kernel
theorem dX6_reckon_31 : decode cX6_reckon 31 = .ok (.iload_n 3, 1) := by decide +kernel
theorem dX6_reckon_32 : decode cX6_reckon 32 = .ok (.bipush 7, 2) := by decide +kernel
theorem dX6_reckon_34 : decode cX6_reckon 34 = .ok (.if_icmp .ge 20, 3) := by decide +kernel
theorem dX6_reckon_37 : decode cX6_reckon 37 = .ok (.aload_n 0, 1) := by decide +kernel
theorem dX6_reckon_38 : decode cX6_reckon 38 = .ok (.iload_n 2, 1) := by decide +kernel
theorem dX6_reckon_39 : decode cX6_reckon 39 = .ok (.iload_n 3, 1) := by decide +kernel
theorem dX6_reckon_40 : decode cX6_reckon 40 = .ok (.aload_n 1, 1) := by decide +kernel
theorem dX6_reckon_41 : decode cX6_reckon 41 = .ok (.iload_n 3, 1) := by decide +kernel
theorem dX6_reckon_42 : decode cX6_reckon 42 = .ok (.invokevirtual 50, 3) := by decide +kernel
theorem dX6_reckon_45 : decode cX6_reckon 45 = .ok (.invokevirtual 56, 3) := by decide +kernel
theorem dX6_reckon_48 : decode cX6_reckon 48 = .ok (.iinc 3 1, 3) := by decide +kernel
theorem dX6_reckon_51 : decode cX6_reckon 51 = .ok (.goto (-20), 3) := by decide +kernel
theorem dX6_reckon_54 : decode cX6_reckon 54 = .ok (.iinc 2 1, 3) := by decide +kernel
theorem dX6_reckon_57 : decode cX6_reckon 57 = .ok (.goto (-55), 3) := by decide +kernel
theorem dX6_reckon_60 : decode cX6_reckon 60 = .ok (.return_, 1) := by decide +kernel
theorem dX6_reckonDemand_0 : decode cX6_reckonDemand 0 = .ok (.iload_n 1, 1) := by decide +kernel
theorem dX6_reckonDemand_1 : decode cX6_reckonDemand 1 = .ok (.bipush (-12), 2) := by decide +kernel
theorem dX6_reckonDemand_3 : decode cX6_reckonDemand 3 = .ok (.iadd, 1) := by decide +kernel
theorem dX6_reckonDemand_4 : decode cX6_reckonDemand 4 = .ok (.istore 4, 2) := by decide +kernel
theorem dX6_reckonDemand_6 : decode cX6_reckonDemand 6 = .ok (.iload_n 2, 1) := by decide +kernel
theorem dX6_reckonDemand_7 : decode cX6_reckonDemand 7 = .ok (.iload 4, 2) := by decide +kernel
theorem dX6_reckonDemand_9 : decode cX6_reckonDemand 9 = .ok (.iconst 0, 1) := by decide +kernel
theorem dX6_reckonDemand_10 : decode cX6_reckonDemand 10 = .ok (.invokestatic 47, 3) := by decide +kernel
theorem dX6_reckonDemand_13 : decode cX6_reckonDemand 13 = .ok (.invokestatic 41, 3) := by decide +kernel
theorem dX6_reckonDemand_16 : decode cX6_reckonDemand 16 = .ok (.istore 5, 2) := by decide +kernel
theorem dX6_reckonDemand_18 : decode cX6_reckonDemand 18 = .ok (.aload_n 0, 1) := by decide +kernel
theorem dX6_reckonDemand_19 : decode cX6_reckonDemand 19 = .ok (.iload 4, 2) := by decide +kernel
theorem dX6_reckonDemand_21 : decode cX6_reckonDemand 21 = .ok (.iload_n 2, 1) := by decide +kernel
theorem dX6_reckonDemand_22 : decode cX6_reckonDemand 22 = .ok (.invokevirtual 60, 3) := by decide +kernel
theorem dX6_reckonDemand_25 : decode cX6_reckonDemand 25 = .ok (.iconst 0, 1) := by decide +kernel
theorem dX6_reckonDemand_26 : decode cX6_reckonDemand 26 = .ok (.invokestatic 47, 3) := by decide +kernel
theorem dX6_reckonDemand_29 : decode cX6_reckonDemand 29 = .ok (.istore 6, 2) := by decide +kernel
theorem dX6_reckonDemand_31 : decode cX6_reckonDemand 31 = .ok (.aload_n 0, 1) := by decide +kernel
theorem dX6_reckonDemand_32 : decode cX6_reckonDemand 32 = .ok (.getfield 27, 3) := by decide +kernel
theorem dX6_reckonDemand_35 : decode cX6_reckonDemand 35 = .ok (.iload_n 1, 1) := by decide +kernel
theorem dX6_reckonDemand_36 : decode cX6_reckonDemand 36 = .ok (.dup2, 1) := by decide +kernel
theorem dX6_reckonDemand_37 : decode cX6_reckonDemand 37 = .ok (.iaload, 1) := by decide +kernel
theorem dX6_reckonDemand_38 : decode cX6_reckonDemand 38 = .ok (.iload_n 3, 1) := by decide +kernel
theorem dX6_reckonDemand_39 : decode cX6_reckonDemand 39 = .ok (.aload_n 0, 1) := by decide +kernel
theorem dX6_reckonDemand_40 : decode cX6_reckonDemand 40 = .ok (.getfield 21, 3) := by decide +kernel
theorem dX6_reckonDemand_43 : decode cX6_reckonDemand 43 = .ok (.iload 6, 2) := by decide +kernel
theorem dX6_reckonDemand_45 : decode cX6_reckonDemand 45 = .ok (.imul, 1) := by decide +kernel
theorem dX6_reckonDemand_46 : decode cX6_reckonDemand 46 = .ok (.aload_n 0, 1) := by decide +kernel
theorem dX6_reckonDemand_47 : decode cX6_reckonDemand 47 = .ok (.getfield 24, 3) := by decide +kernel
theorem dX6_reckonDemand_50 : decode cX6_reckonDemand 50 = .ok (.iload_n 2, 1) := by decide +kernel
theorem dX6_reckonDemand_51 : decode cX6_reckonDemand 51 = .ok (.iload 5, 2) := by decide +kernel
theorem dX6_reckonDemand_53 : decode cX6_reckonDemand 53 = .ok (.isub, 1) := by decide +kernel
theorem dX6_reckonDemand_54 : decode cX6_reckonDemand 54 = .ok (.imul, 1) := by decide +kernel
theorem dX6_reckonDemand_55 : decode cX6_reckonDemand 55 = .ok (.iadd, 1) := by decide +kernel
theorem dX6_reckonDemand_56 : decode cX6_reckonDemand 56 = .ok (.imul, 1) := by decide +kernel
theorem dX6_reckonDemand_57 : decode cX6_reckonDemand 57 = .ok (.iadd, 1) := by decide +kernel
theorem dX6_reckonDemand_58 : decode cX6_reckonDemand 58 = .ok (.iastore, 1) := by decide +kernel
theorem dX6_reckonDemand_59 : decode cX6_reckonDemand 59 = .ok (.aload_n 0, 1) := by decide +kernel
theorem dX6_reckonDemand_60 : decode cX6_reckonDemand 60 = .ok (.getfield 31, 3) := by decide +kernel
theorem dX6_reckonDemand_63 : decode cX6_reckonDemand 63 = .ok (.iload_n 1, 1) := by decide +kernel
theorem dX6_reckonDemand_64 : decode cX6_reckonDemand 64 = .ok (.dup2, 1) := by decide +kernel
theorem dX6_reckonDemand_65 : decode cX6_reckonDemand 65 = .ok (.iaload, 1) := by decide +kernel
theorem dX6_reckonDemand_66 : decode cX6_reckonDemand 66 = .ok (.iload_n 3, 1) := by decide +kernel
theorem dX6_reckonDemand_67 : decode cX6_reckonDemand 67 = .ok (.iload 5, 2) := by decide +kernel
theorem dX6_reckonDemand_69 : decode cX6_reckonDemand 69 = .ok (.imul, 1) := by decide +kernel
theorem dX6_reckonDemand_70 : decode cX6_reckonDemand 70 = .ok (.iadd, 1) := by decide +kernel
theorem dX6_reckonDemand_71 : decode cX6_reckonDemand 71 = .ok (.iastore, 1) := by decide +kernel
theorem dX6_reckonDemand_72 : decode cX6_reckonDemand 72 = .ok (.aload_n 0, 1) := by decide +kernel
theorem dX6_reckonDemand_73 : decode cX6_reckonDemand 73 = .ok (.getfield 34, 3) := by decide +kernel
theorem dX6_reckonDemand_76 : decode cX6_reckonDemand 76 = .ok (.iload_n 1, 1) := by decide +kernel
theorem dX6_reckonDemand_77 : decode cX6_reckonDemand 77 = .ok (.dup2, 1) := by decide +kernel
theorem dX6_reckonDemand_78 : decode cX6_reckonDemand 78 = .ok (.iaload, 1) := by decide +kernel
theorem dX6_reckonDemand_79 : decode cX6_reckonDemand 79 = .ok (.iload 6, 2) := by decide +kernel
theorem dX6_reckonDemand_81 : decode cX6_reckonDemand 81 = .ok (.ifCond .le 7, 3) := by decide +kernel
theorem dX6_reckonDemand_84 : decode cX6_reckonDemand 84 = .ok (.iload_n 3, 1) := by decide +kernel
theorem dX6_reckonDemand_85 : decode cX6_reckonDemand 85 = .ok (.goto 4, 3) := by decide +kernel
theorem dX6_reckonDemand_88 : decode cX6_reckonDemand 88 = .ok (.iconst 0, 1) := by decide +kernel
theorem dX6_reckonDemand_89 : decode cX6_reckonDemand 89 = .ok (.iadd, 1) := by decide +kernel
theorem dX6_reckonDemand_90 : decode cX6_reckonDemand 90 = .ok (.iastore, 1) := by decide +kernel
theorem dX6_reckonDemand_91 : decode cX6_reckonDemand 91 = .ok (.return_, 1) := by decide +kernel
theorem dX6_priceFrom_0 : decode cX6_priceFrom 0 = .ok (.iload_n 1, 1) := by decide +kernel
theorem dX6_priceFrom_1 : decode cX6_priceFrom 1 = .ok (.invokestatic 63, 3) := by decide +kernel
theorem dX6_priceFrom_4 : decode cX6_priceFrom 4 = .ok (.ifCond .eq 15, 3) := by decide +kernel
theorem dX6_priceFrom_7 : decode cX6_priceFrom 7 = .ok (.aload_n 0, 1) := by decide +kernel
theorem dX6_priceFrom_8 : decode cX6_priceFrom 8 = .ok (.getfield 27, 3) := by decide +kernel
theorem dX6_priceFrom_11 : decode cX6_priceFrom 11 = .ok (.iload_n 1, 1) := by decide +kernel
theorem dX6_priceFrom_12 : decode cX6_priceFrom 12 = .ok (.bipush (-12), 2) := by decide +kernel
theorem dX6_priceFrom_14 : decode cX6_priceFrom 14 = .ok (.isub, 1) := by decide +kernel
theorem dX6_priceFrom_15 : decode cX6_priceFrom 15 = .ok (.iaload, 1) := by decide +kernel
theorem dX6_priceFrom_16 : decode cX6_priceFrom 16 = .ok (.goto 4, 3) := by decide +kernel
theorem dX6_priceFrom_19 : decode cX6_priceFrom 19 = .ok (.iconst 0, 1) := by decide +kernel
theorem dX6_priceFrom_20 : decode cX6_priceFrom 20 = .ok (.ireturn, 1) := by decide +kernel
theorem dX6_metFrom_0 : decode cX6_metFrom 0 = .ok (.iload_n 1, 1) := by decide +kernel
theorem dX6_metFrom_1 : decode cX6_metFrom 1 = .ok (.invokestatic 63, 3) := by decide +kernel
theorem dX6_metFrom_4 : decode cX6_metFrom 4 = .ok (.ifCond .eq 15, 3) := by decide +kernel
theorem dX6_metFrom_7 : decode cX6_metFrom 7 = .ok (.aload_n 0, 1) := by decide +kernel
theorem dX6_metFrom_8 : decode cX6_metFrom 8 = .ok (.getfield 31, 3) := by decide +kernel
theorem dX6_metFrom_11 : decode cX6_metFrom 11 = .ok (.iload_n 1, 1) := by decide +kernel
theorem dX6_metFrom_12 : decode cX6_metFrom 12 = .ok (.bipush (-12), 2) := by decide +kernel
theorem dX6_metFrom_14 : decode cX6_metFrom 14 = .ok (.isub, 1) := by decide +kernel
theorem dX6_metFrom_15 : decode cX6_metFrom 15 = .ok (.iaload, 1) := by decide +kernel
theorem dX6_metFrom_16 : decode cX6_metFrom 16 = .ok (.goto 4, 3) := by decide +kernel
theorem dX6_metFrom_19 : decode cX6_metFrom 19 = .ok (.iconst 0, 1) := by decide +kernel
theorem dX6_metFrom_20 : decode cX6_metFrom 20 = .ok (.ireturn, 1) := by decide +kernel
theorem dX6_inHandFrom_0 : decode cX6_inHandFrom 0 = .ok (.iload_n 1, 1) := by decide +kernel
theorem dX6_inHandFrom_1 : decode cX6_inHandFrom 1 = .ok (.invokestatic 63, 3) := by decide +kernel
theorem dX6_inHandFrom_4 : decode cX6_inHandFrom 4 = .ok (.ifCond .eq 15, 3) := by decide +kernel
theorem dX6_inHandFrom_7 : decode cX6_inHandFrom 7 = .ok (.aload_n 0, 1) := by decide +kernel
theorem dX6_inHandFrom_8 : decode cX6_inHandFrom 8 = .ok (.getfield 34, 3) := by decide +kernel
theorem dX6_inHandFrom_11 : decode cX6_inHandFrom 11 = .ok (.iload_n 1, 1) := by decide +kernel
theorem dX6_inHandFrom_12 : decode cX6_inHandFrom 12 = .ok (.bipush (-12), 2) := by decide +kernel
theorem dX6_inHandFrom_14 : decode cX6_inHandFrom 14 = .ok (.isub, 1) := by decide +kernel
theorem dX6_inHandFrom_15 : decode cX6_inHandFrom 15 = .ok (.iaload, 1) := by decide +kernel
theorem dX6_inHandFrom_16 : decode cX6_inHandFrom 16 = .ok (.goto 4, 3) := by decide +kernel
theorem dX6_inHandFrom_19 : decode cX6_inHandFrom 19 = .ok (.iconst 0, 1) := by decide +kernel
theorem dX6_inHandFrom_20 : decode cX6_inHandFrom 20 = .ok (.ireturn, 1) := by decide +kernel
theorem dX6_isHand_0 : decode cX6_isHand 0 = .ok (.iload_n 0, 1) := by decide +kernel
theorem dX6_isHand_1 : decode cX6_isHand 1 = .ok (.bipush (-12), 2) := by decide +kernel
theorem dX6_isHand_3 : decode cX6_isHand 3 = .ok (.if_icmp .lt 13, 3) := by decide +kernel
theorem dX6_isHand_6 : decode cX6_isHand 6 = .ok (.iload_n 0, 1) := by decide +kernel
theorem dX6_isHand_7 : decode cX6_isHand 7 = .ok (.bipush 12, 2) := by decide +kernel
theorem dX6_isHand_9 : decode cX6_isHand 9 = .ok (.if_icmp .gt 7, 3) := by decide +kernel
theorem dX6_isHand_12 : decode cX6_isHand 12 = .ok (.iconst 1, 1) := by decide +kernel
theorem dX6_isHand_13 : decode cX6_isHand 13 = .ok (.goto 4, 3) := by decide +kernel
theorem dX6_isHand_16 : decode cX6_isHand 16 = .ok (.iconst 0, 1) := by decide +kernel
theorem dX6_isHand_17 : decode cX6_isHand 17 = .ok (.ireturn, 1) := by decide +kernel
theorem dX7_init_0 : decode cX7_init 0 = .ok (.aload_n 0, 1) := by decide +kernel
theorem dX7_init_1 : decode cX7_init 1 = .ok (.invokespecial 3, 3) := by decide +kernel
theorem dX7_init_4 : decode cX7_init 4 = .ok (.aload_n 0, 1) := by decide +kernel
theorem dX7_init_5 : decode cX7_init 5 = .ok (.iconst 3, 1) := by decide +kernel
theorem dX7_init_6 : decode cX7_init 6 = .ok (.newarray .int, 2) := by decide +kernel
theorem dX7_init_8 : decode cX7_init 8 = .ok (.putfield 9, 3) := by decide +kernel
theorem dX7_init_11 : decode cX7_init 11 = .ok (.aload_n 0, 1) := by decide +kernel
theorem dX7_init_12 : decode cX7_init 12 = .ok (.aload_n 1, 1) := by decide +kernel
theorem dX7_init_13 : decode cX7_init 13 = .ok (.putfield 15, 3) := by decide +kernel
theorem dX7_init_16 : decode cX7_init 16 = .ok (.return_, 1) := by decide +kernel
theorem dX7_begin_0 : decode cX7_begin 0 = .ok (.aload_n 0, 1) := by decide +kernel
theorem dX7_begin_1 : decode cX7_begin 1 = .ok (.iload_n 1, 1) := by decide +kernel
theorem dX7_begin_2 : decode cX7_begin 2 = .ok (.putfield 19, 3) := by decide +kernel
theorem dX7_begin_5 : decode cX7_begin 5 = .ok (.aload_n 0, 1) := by decide +kernel
theorem dX7_begin_6 : decode cX7_begin 6 = .ok (.iconst 1, 1) := by decide +kernel
theorem dX7_begin_7 : decode cX7_begin 7 = .ok (.iload_n 2, 1) := by decide +kernel
theorem dX7_begin_8 : decode cX7_begin 8 = .ok (.iconst 3, 1) := by decide +kernel
theorem dX7_begin_9 : decode cX7_begin 9 = .ok (.invokestatic 23, 3) := by decide +kernel
theorem dX7_begin_12 : decode cX7_begin 12 = .ok (.invokestatic 29, 3) := by decide +kernel
theorem dX7_begin_15 : decode cX7_begin 15 = .ok (.putfield 32, 3) := by decide +kernel
theorem dX7_begin_18 : decode cX7_begin 18 = .ok (.aload_n 0, 1) := by decide +kernel
theorem dX7_begin_19 : decode cX7_begin 19 = .ok (.iload_n 3, 1) := by decide +kernel
theorem dX7_begin_20 : decode cX7_begin 20 = .ok (.putfield 35, 3) := by decide +kernel
theorem dX7_begin_23 : decode cX7_begin 23 = .ok (.aload_n 0, 1) := by decide +kernel
theorem dX7_begin_24 : decode cX7_begin 24 = .ok (.lconst 0, 1) := by decide +kernel
theorem dX7_begin_25 : decode cX7_begin 25 = .ok (.putfield 39, 3) := by decide +kernel
theorem dX7_begin_28 : decode cX7_begin 28 = .ok (.aload_n 0, 1) := by decide +kernel
theorem dX7_begin_29 : decode cX7_begin 29 = .ok (.getfield 15, 3) := by decide +kernel
theorem dX7_begin_32 : decode cX7_begin 32 = .ok (.iconst 0, 1) := by decide +kernel
theorem dX7_begin_33 : decode cX7_begin 33 = .ok (.invokevirtual 43, 3) := by decide +kernel
theorem dX7_begin_36 : decode cX7_begin 36 = .ok (.return_, 1) := by decide +kernel
theorem dX7_follow_0 : decode cX7_follow 0 = .ok (.iconst 1, 1) := by decide +kernel
theorem dX7_follow_1 : decode cX7_follow 1 = .ok (.istore_n 3, 1) := by decide +kernel
theorem dX7_follow_2 : decode cX7_follow 2 = .ok (.iload_n 3, 1) := by decide +kernel
theorem dX7_follow_3 : decode cX7_follow 3 = .ok (.iload_n 2, 1) := by decide +kernel
theorem dX7_follow_4 : decode cX7_follow 4 = .ok (.if_icmp .gt 65, 3) := by decide +kernel
theorem dX7_follow_7 : decode cX7_follow 7 = .ok (.aload_n 0, 1) := by decide +kernel
theorem dX7_follow_8 : decode cX7_follow 8 = .ok (.dup, 1) := by decide +kernel
theorem dX7_follow_9 : decode cX7_follow 9 = .ok (.getfield 39, 3) := by decide +kernel
theorem dX7_follow_12 : decode cX7_follow 12 = .ok (.aload_n 1, 1) := by decide +kernel
theorem dX7_follow_13 : decode cX7_follow 13 = .ok (.invokevirtual 49, 3) := by decide +kernel
theorem dX7_follow_16 : decode cX7_follow 16 = .ok (.i2l, 1) := by decide +kernel
theorem dX7_follow_17 : decode cX7_follow 17 = .ok (.lmul, 1) := by decide +kernel
theorem dX7_follow_18 : decode cX7_follow 18 = .ok (.putfield 39, 3) := by decide +kernel
theorem dX7_follow_21 : decode cX7_follow 21 = .ok (.iconst 0, 1) := by decide +kernel
theorem dX7_follow_22 : decode cX7_follow 22 = .ok (.istore 4, 2) := by decide +kernel
theorem dX7_follow_24 : decode cX7_follow 24 = .ok (.iload 4, 2) := by decide +kernel
theorem dX7_follow_26 : decode cX7_follow 26 = .ok (.aload_n 0, 1) := by decide +kernel
theorem dX7_follow_27 : decode cX7_follow 27 = .ok (.getfield 15, 3) := by decide +kernel
theorem dX7_follow_30 : decode cX7_follow 30 = .ok (.invokevirtual 55, 3) := by decide +kernel
theorem dX7_follow_33 : decode cX7_follow 33 = .ok (.if_icmp .ge 23, 3) := by decide +kernel
theorem dX7_follow_36 : decode cX7_follow 36 = .ok (.aload_n 0, 1) := by decide +kernel
theorem dX7_follow_37 : decode cX7_follow 37 = .ok (.aload_n 0, 1) := by decide +kernel
theorem dX7_follow_38 : decode cX7_follow 38 = .ok (.getfield 15, 3) := by decide +kernel
theorem dX7_follow_41 : decode cX7_follow 41 = .ok (.iload 4, 2) := by decide +kernel
theorem dX7_follow_43 : decode cX7_follow 43 = .ok (.invokevirtual 58, 3) := by decide +kernel
theorem dX7_follow_46 : decode cX7_follow 46 = .ok (.aload_n 1, 1) := by decide +kernel
theorem dX7_follow_47 : decode cX7_follow 47 = .ok (.invokevirtual 62, 3) := by decide +kernel
theorem dX7_follow_50 : decode cX7_follow 50 = .ok (.iinc 4 1, 3) := by decide +kernel
theorem dX7_follow_53 : decode cX7_follow 53 = .ok (.goto (-29), 3) := by decide +kernel
theorem dX7_follow_56 : decode cX7_follow 56 = .ok (.aload_n 0, 1) := by decide +kernel
theorem dX7_follow_57 : decode cX7_follow 57 = .ok (.getfield 15, 3) := by decide +kernel
theorem dX7_follow_60 : decode cX7_follow 60 = .ok (.invokevirtual 66, 3) := by decide +kernel
theorem dX7_follow_63 : decode cX7_follow 63 = .ok (.iinc 3 1, 3) := by decide +kernel
theorem dX7_follow_66 : decode cX7_follow 66 = .ok (.goto (-64), 3) := by decide +kernel
theorem dX7_follow_69 : decode cX7_follow 69 = .ok (.aload_n 0, 1) := by decide +kernel
theorem dX7_follow_70 : decode cX7_follow 70 = .ok (.getfield 39, 3) := by decide +kernel
theorem dX7_follow_73 : decode cX7_follow 73 = .ok (.lreturn, 1) := by decide +kernel
theorem dX7_passFrom_0 : decode cX7_passFrom 0 = .ok (.iconst 0, 1) := by decide +kernel
theorem dX7_passFrom_1 : decode cX7_passFrom 1 = .ok (.istore_n 3, 1) := by decide +kernel
theorem dX7_passFrom_2 : decode cX7_passFrom 2 = .ok (.iload_n 3, 1) := by decide +kernel
theorem dX7_passFrom_3 : decode cX7_passFrom 3 = .ok (.bipush 7, 2) := by decide +kernel
theorem dX7_passFrom_5 : decode cX7_passFrom 5 = .ok (.if_icmp .ge 166, 3) := by decide +kernel
theorem dX7_passFrom_8 : decode cX7_passFrom 8 = .ok (.aload_n 0, 1) := by decide +kernel
theorem dX7_passFrom_9 : decode cX7_passFrom 9 = .ok (.getfield 15, 3) := by decide +kernel
theorem dX7_passFrom_12 : decode cX7_passFrom 12 = .ok (.iload_n 1, 1) := by decide +kernel
theorem dX7_passFrom_13 : decode cX7_passFrom 13 = .ok (.invokevirtual 69, 3) := by decide +kernel
theorem dX7_passFrom_16 : decode cX7_passFrom 16 = .ok (.aload_n 2, 1) := by decide +kernel
theorem dX7_passFrom_17 : decode cX7_passFrom 17 = .ok (.iload_n 3, 1) := by decide +kernel
theorem dX7_passFrom_18 : decode cX7_passFrom 18 = .ok (.invokevirtual 73, 3) := by decide +kernel
theorem dX7_passFrom_21 : decode cX7_passFrom 21 = .ok (.i2l, 1) := by decide +kernel
theorem dX7_passFrom_22 : decode cX7_passFrom 22 = .ok (.lmul, 1) := by decide +kernel
theorem dX7_passFrom_23 : decode cX7_passFrom 23 = .ok (.lstore 4, 2) := by decide +kernel
theorem dX7_passFrom_25 : decode cX7_passFrom 25 = .ok (.lload 4, 2) := by decide +kernel
theorem dX7_passFrom_27 : decode cX7_passFrom 27 = .ok (.lconst 0, 1) := by decide +kernel
theorem dX7_passFrom_28 : decode cX7_passFrom 28 = .ok (.lcmp, 1) := by decide +kernel
theorem dX7_passFrom_29 : decode cX7_passFrom 29 = .ok (.ifCond .ne 6, 3) := by decide +kernel
theorem dX7_passFrom_32 : decode cX7_passFrom 32 = .ok (.goto 133, 3) := by decide +kernel
theorem dX7_passFrom_35 : decode cX7_passFrom 35 = .ok (.aload_n 0, 1) := by decide +kernel
theorem dX7_passFrom_36 : decode cX7_passFrom 36 = .ok (.getfield 9, 3) := by decide +kernel
theorem dX7_passFrom_39 : decode cX7_passFrom 39 = .ok (.iconst 1, 1) := by decide +kernel
theorem dX7_passFrom_40 : decode cX7_passFrom 40 = .ok (.iload_n 1, 1) := by decide +kernel
theorem dX7_passFrom_41 : decode cX7_passFrom 41 = .ok (.bipush 13, 2) := by decide +kernel
theorem dX7_passFrom_43 : decode cX7_passFrom 43 = .ok (.irem, 1) := by decide +kernel
theorem dX7_passFrom_44 : decode cX7_passFrom 44 = .ok (.iastore, 1) := by decide +kernel
theorem dX7_passFrom_45 : decode cX7_passFrom 45 = .ok (.aload_n 0, 1) := by decide +kernel
theorem dX7_passFrom_46 : decode cX7_passFrom 46 = .ok (.getfield 9, 3) := by decide +kernel
theorem dX7_passFrom_49 : decode cX7_passFrom 49 = .ok (.iconst 2, 1) := by decide +kernel
theorem dX7_passFrom_50 : decode cX7_passFrom 50 = .ok (.iload_n 1, 1) := by decide +kernel
theorem dX7_passFrom_51 : decode cX7_passFrom 51 = .ok (.bipush 13, 2) := by decide +kernel
theorem dX7_passFrom_53 : decode cX7_passFrom 53 = .ok (.idiv, 1) := by decide +kernel
theorem dX7_passFrom_54 : decode cX7_passFrom 54 = .ok (.iastore, 1) := by decide +kernel
theorem dX7_passFrom_55 : decode cX7_passFrom 55 = .ok (.aload_n 0, 1) := by decide +kernel
theorem dX7_passFrom_56 : decode cX7_passFrom 56 = .ok (.getfield 9, 3) := by decide +kernel
theorem dX7_passFrom_59 : decode cX7_passFrom 59 = .ok (.iconst 0, 1) := by decide +kernel
theorem dX7_passFrom_60 : decode cX7_passFrom 60 = .ok (.aload_n 0, 1) := by decide +kernel
theorem dX7_passFrom_61 : decode cX7_passFrom 61 = .ok (.getfield 19, 3) := by decide +kernel
theorem dX7_passFrom_64 : decode cX7_passFrom 64 = .ok (.aload_n 0, 1) := by decide +kernel
theorem dX7_passFrom_65 : decode cX7_passFrom 65 = .ok (.getfield 9, 3) := by decide +kernel
theorem dX7_passFrom_68 : decode cX7_passFrom 68 = .ok (.iconst 1, 1) := by decide +kernel
theorem dX7_passFrom_69 : decode cX7_passFrom 69 = .ok (.iaload, 1) := by decide +kernel
theorem dX7_passFrom_70 : decode cX7_passFrom 70 = .ok (.isub, 1) := by decide +kernel
theorem dX7_passFrom_71 : decode cX7_passFrom 71 = .ok (.aload_n 0, 1) := by decide +kernel
theorem dX7_passFrom_72 : decode cX7_passFrom 72 = .ok (.getfield 9, 3) := by decide +kernel
theorem dX7_passFrom_75 : decode cX7_passFrom 75 = .ok (.iconst 2, 1) := by decide +kernel
theorem dX7_passFrom_76 : decode cX7_passFrom 76 = .ok (.iaload, 1) := by decide +kernel
theorem dX7_passFrom_77 : decode cX7_passFrom 77 = .ok (.isub, 1) := by decide +kernel
theorem dX7_passFrom_78 : decode cX7_passFrom 78 = .ok (.iastore, 1) := by decide +kernel
theorem dX7_passFrom_79 : decode cX7_passFrom 79 = .ok (.aload_n 0, 1) := by decide +kernel
theorem dX7_passFrom_80 : decode cX7_passFrom 80 = .ok (.iload_n 3, 1) := by decide +kernel
theorem dX7_passFrom_81 : decode cX7_passFrom 81 = .ok (.invokevirtual 76, 3) := by decide +kernel
theorem dX7_passFrom_84 : decode cX7_passFrom 84 = .ok (.aload_n 0, 1) := by decide +kernel
theorem dX7_passFrom_85 : decode cX7_passFrom 85 = .ok (.dup, 1) := by decide +kernel
theorem dX7_passFrom_86 : decode cX7_passFrom 86 = .ok (.getfield 39, 3) := by decide +kernel
theorem dX7_passFrom_89 : decode cX7_passFrom 89 = .ok (.lload 4, 2) := by decide +kernel
theorem dX7_passFrom_91 : decode cX7_passFrom 91 = .ok (.aload_n 0, 1) := by decide +kernel
theorem dX7_passFrom_92 : decode cX7_passFrom 92 = .ok (.getfield 9, 3) := by decide +kernel
theorem dX7_passFrom_95 : decode cX7_passFrom 95 = .ok (.aload_n 0, 1) := by decide +kernel
theorem dX7_passFrom_96 : decode cX7_passFrom 96 = .ok (.getfield 32, 3) := by decide +kernel
theorem dX7_passFrom_99 : decode cX7_passFrom 99 = .ok (.iconst 1, 1) := by decide +kernel
theorem dX7_passFrom_100 : decode cX7_passFrom 100 = .ok (.isub, 1) := by decide +kernel
theorem dX7_passFrom_101 : decode cX7_passFrom 101 = .ok (.iaload, 1) := by decide +kernel
theorem dX7_passFrom_102 : decode cX7_passFrom 102 = .ok (.i2l, 1) := by decide +kernel
theorem dX7_passFrom_103 : decode cX7_passFrom 103 = .ok (.lmul, 1) := by decide +kernel
theorem dX7_passFrom_104 : decode cX7_passFrom 104 = .ok (.ladd, 1) := by decide +kernel
theorem dX7_passFrom_105 : decode cX7_passFrom 105 = .ok (.putfield 39, 3) := by decide +kernel
theorem dX7_passFrom_108 : decode cX7_passFrom 108 = .ok (.aload_n 0, 1) := by decide +kernel
theorem dX7_passFrom_109 : decode cX7_passFrom 109 = .ok (.getfield 32, 3) := by decide +kernel
theorem dX7_passFrom_112 : decode cX7_passFrom 112 = .ok (.iconst 1, 1) := by decide +kernel
theorem dX7_passFrom_113 : decode cX7_passFrom 113 = .ok (.if_icmp .le 12, 3) := by decide +kernel
theorem dX7_passFrom_116 : decode cX7_passFrom 116 = .ok (.aload_n 0, 1) := by decide +kernel
theorem dX7_passFrom_117 : decode cX7_passFrom 117 = .ok (.getfield 9, 3) := by decide +kernel
theorem dX7_passFrom_120 : decode cX7_passFrom 120 = .ok (.iconst 0, 1) := by decide +kernel
theorem dX7_passFrom_121 : decode cX7_passFrom 121 = .ok (.iaload, 1) := by decide +kernel
theorem dX7_passFrom_122 : decode cX7_passFrom 122 = .ok (.goto 4, 3) := by decide +kernel
theorem dX7_passFrom_125 : decode cX7_passFrom 125 = .ok (.iconst 0, 1) := by decide +kernel
theorem dX7_passFrom_126 : decode cX7_passFrom 126 = .ok (.istore 6, 2) := by decide +kernel
theorem dX7_passFrom_128 : decode cX7_passFrom 128 = .ok (.aload_n 0, 1) := by decide +kernel
theorem dX7_passFrom_129 : decode cX7_passFrom 129 = .ok (.getfield 32, 3) := by decide +kernel
theorem dX7_passFrom_132 : decode cX7_passFrom 132 = .ok (.iconst 2, 1) := by decide +kernel
theorem dX7_passFrom_133 : decode cX7_passFrom 133 = .ok (.if_icmp .le 12, 3) := by decide +kernel
theorem dX7_passFrom_136 : decode cX7_passFrom 136 = .ok (.aload_n 0, 1) := by decide +kernel
theorem dX7_passFrom_137 : decode cX7_passFrom 137 = .ok (.getfield 9, 3) := by decide +kernel
theorem dX7_passFrom_140 : decode cX7_passFrom 140 = .ok (.iconst 1, 1) := by decide +kernel
theorem dX7_passFrom_141 : decode cX7_passFrom 141 = .ok (.iaload, 1) := by decide +kernel
theorem dX7_passFrom_142 : decode cX7_passFrom 142 = .ok (.goto 4, 3) := by decide +kernel
theorem dX7_passFrom_145 : decode cX7_passFrom 145 = .ok (.iconst 0, 1) := by decide +kernel
theorem dX7_passFrom_146 : decode cX7_passFrom 146 = .ok (.istore 7, 2) := by decide +kernel
theorem dX7_passFrom_148 : decode cX7_passFrom 148 = .ok (.aload_n 0, 1) := by decide +kernel
theorem dX7_passFrom_149 : decode cX7_passFrom 149 = .ok (.getfield 15, 3) := by decide +kernel
theorem dX7_passFrom_152 : decode cX7_passFrom 152 = .ok (.iload 7, 2) := by decide +kernel
theorem dX7_passFrom_154 : decode cX7_passFrom 154 = .ok (.bipush 13, 2) := by decide +kernel
theorem dX7_passFrom_156 : decode cX7_passFrom 156 = .ok (.imul, 1) := by decide +kernel
theorem dX7_passFrom_157 : decode cX7_passFrom 157 = .ok (.iload 6, 2) := by decide +kernel
theorem dX7_passFrom_159 : decode cX7_passFrom 159 = .ok (.iadd, 1) := by decide +kernel
theorem dX7_passFrom_160 : decode cX7_passFrom 160 = .ok (.lload 4, 2) := by decide +kernel
theorem dX7_passFrom_162 : decode cX7_passFrom 162 = .ok (.invokevirtual 79, 3) := by decide +kernel
theorem dX7_passFrom_165 : decode cX7_passFrom 165 = .ok (.iinc 3 1, 3) := by decide +kernel
theorem dX7_passFrom_168 : decode cX7_passFrom 168 = .ok (.goto (-166), 3) := by decide +kernel
theorem dX7_passFrom_171 : decode cX7_passFrom 171 = .ok (.return_, 1) := by decide +kernel
theorem dX7_give_0 : decode cX7_give 0 = .ok (.iload_n 1, 1) := by decide +kernel
theorem dX7_give_1 : decode cX7_give 1 = .ok (.istore_n 2, 1) := by decide +kernel
theorem dX7_give_2 : decode cX7_give 2 = .ok (.iconst 0, 1) := by decide +kernel
theorem dX7_give_3 : decode cX7_give 3 = .ok (.istore_n 3, 1) := by decide +kernel
theorem dX7_give_4 : decode cX7_give 4 = .ok (.iload_n 3, 1) := by decide +kernel
theorem dX7_give_5 : decode cX7_give 5 = .ok (.aload_n 0, 1) := by decide +kernel
theorem dX7_give_6 : decode cX7_give 6 = .ok (.getfield 32, 3) := by decide +kernel
theorem dX7_give_9 : decode cX7_give 9 = .ok (.if_icmp .ge 60, 3) := by decide +kernel
theorem dX7_give_12 : decode cX7_give 12 = .ok (.aload_n 0, 1) := by decide +kernel
theorem dX7_give_13 : decode cX7_give 13 = .ok (.getfield 35, 3) := by decide +kernel
theorem dX7_give_16 : decode cX7_give 16 = .ok (.ifCond .eq 7, 3) := by decide +kernel
theorem dX7_give_19 : decode cX7_give 19 = .ok (.iload_n 3, 1) := by decide +kernel
theorem dX7_give_20 : decode cX7_give 20 = .ok (.goto 11, 3) := by decide +kernel
theorem dX7_give_23 : decode cX7_give 23 = .ok (.aload_n 0, 1) := by decide +kernel
theorem dX7_give_24 : decode cX7_give 24 = .ok (.getfield 32, 3) := by decide +kernel
theorem dX7_give_27 : decode cX7_give 27 = .ok (.iconst 1, 1) := by decide +kernel
theorem dX7_give_28 : decode cX7_give 28 = .ok (.isub, 1) := by decide +kernel
theorem dX7_give_29 : decode cX7_give 29 = .ok (.iload_n 3, 1) := by decide +kernel
theorem dX7_give_30 : decode cX7_give 30 = .ok (.isub, 1) := by decide +kernel
theorem dX7_give_31 : decode cX7_give 31 = .ok (.istore 4, 2) := by decide +kernel
theorem dX7_give_33 : decode cX7_give 33 = .ok (.iload_n 2, 1) := by decide +kernel
theorem dX7_give_34 : decode cX7_give 34 = .ok (.aload_n 0, 1) := by decide +kernel
theorem dX7_give_35 : decode cX7_give 35 = .ok (.getfield 9, 3) := by decide +kernel
theorem dX7_give_38 : decode cX7_give 38 = .ok (.iload 4, 2) := by decide +kernel
theorem dX7_give_40 : decode cX7_give 40 = .ok (.iaload, 1) := by decide +kernel
theorem dX7_give_41 : decode cX7_give 41 = .ok (.invokestatic 23, 3) := by decide +kernel
theorem dX7_give_44 : decode cX7_give 44 = .ok (.istore 5, 2) := by decide +kernel
theorem dX7_give_46 : decode cX7_give 46 = .ok (.aload_n 0, 1) := by decide +kernel
theorem dX7_give_47 : decode cX7_give 47 = .ok (.getfield 9, 3) := by decide +kernel
theorem dX7_give_50 : decode cX7_give 50 = .ok (.iload 4, 2) := by decide +kernel
theorem dX7_give_52 : decode cX7_give 52 = .ok (.dup2, 1) := by decide +kernel
theorem dX7_give_53 : decode cX7_give 53 = .ok (.iaload, 1) := by decide +kernel
theorem dX7_give_54 : decode cX7_give 54 = .ok (.iload 5, 2) := by decide +kernel
theorem dX7_give_56 : decode cX7_give 56 = .ok (.isub, 1) := by decide +kernel
theorem dX7_give_57 : decode cX7_give 57 = .ok (.iastore, 1) := by decide +kernel
theorem dX7_give_58 : decode cX7_give 58 = .ok (.iload_n 2, 1) := by decide +kernel
theorem dX7_give_59 : decode cX7_give 59 = .ok (.iload 5, 2) := by decide +kernel
theorem dX7_give_61 : decode cX7_give 61 = .ok (.isub, 1) := by decide +kernel
theorem dX7_give_62 : decode cX7_give 62 = .ok (.istore_n 2, 1) := by decide +kernel
theorem dX7_give_63 : decode cX7_give 63 = .ok (.iinc 3 1, 3) := by decide +kernel
theorem dX7_give_66 : decode cX7_give 66 = .ok (.goto (-62), 3) := by decide +kernel
theorem dX7_give_69 : decode cX7_give 69 = .ok (.return_, 1) := by decide +kernel
theorem dX8_init_0 : decode cX8_init 0 = .ok (.aload_n 0, 1) := by decide +kernel
theorem dX8_init_1 : decode cX8_init 1 = .ok (.invokespecial 5, 3) := by decide +kernel
theorem dX8_init_4 : decode cX8_init 4 = .ok (.aload_n 0, 1) := by decide +kernel
theorem dX8_init_5 : decode cX8_init 5 = .ok (.sipush 481, 3) := by decide +kernel
theorem dX8_init_8 : decode cX8_init 8 = .ok (.newarray .long, 2) := by decide +kernel
theorem dX8_init_10 : decode cX8_init 10 = .ok (.putfield 13, 3) := by decide +kernel
theorem dX8_init_13 : decode cX8_init 13 = .ok (.aload_n 0, 1) := by decide +kernel
theorem dX8_init_14 : decode cX8_init 14 = .ok (.sipush 481, 3) := by decide +kernel
theorem dX8_init_17 : decode cX8_init 17 = .ok (.newarray .long, 2) := by decide +kernel
theorem dX8_init_19 : decode cX8_init 19 = .ok (.putfield 17, 3) := by decide +kernel
theorem dX8_init_22 : decode cX8_init 22 = .ok (.aload_n 0, 1) := by decide +kernel
theorem dX8_init_23 : decode cX8_init 23 = .ok (.sipush 481, 3) := by decide +kernel
theorem dX8_init_26 : decode cX8_init 26 = .ok (.newarray .int, 2) := by decide +kernel
theorem dX8_init_28 : decode cX8_init 28 = .ok (.putfield 20, 3) := by decide +kernel
theorem dX8_init_31 : decode cX8_init 31 = .ok (.aload_n 0, 1) := by decide +kernel
theorem dX8_init_32 : decode cX8_init 32 = .ok (.sipush 481, 3) := by decide +kernel
theorem dX8_init_35 : decode cX8_init 35 = .ok (.newarray .int, 2) := by decide +kernel
theorem dX8_init_37 : decode cX8_init 37 = .ok (.putfield 24, 3) := by decide +kernel
theorem dX8_init_40 : decode cX8_init 40 = .ok (.return_, 1) := by decide +kernel
theorem dX8_startAt_0 : decode cX8_startAt 0 = .ok (.aload_n 0, 1) := by decide +kernel
theorem dX8_startAt_1 : decode cX8_startAt 1 = .ok (.iload_n 1, 1) := by decide +kernel
theorem dX8_startAt_2 : decode cX8_startAt 2 = .ok (.lconst 1, 1) := by decide +kernel
theorem dX8_startAt_3 : decode cX8_startAt 3 = .ok (.invokevirtual 27, 3) := by decide +kernel
theorem dX8_startAt_6 : decode cX8_startAt 6 = .ok (.aload_n 0, 1) := by decide +kernel
theorem dX8_startAt_7 : decode cX8_startAt 7 = .ok (.invokevirtual 31, 3) := by decide +kernel
theorem dX8_startAt_10 : decode cX8_startAt 10 = .ok (.return_, 1) := by decide +kernel
theorem dX8_add_0 : decode cX8_add 0 = .ok (.iload_n 1, 1) := by decide +kernel
theorem dX8_add_1 : decode cX8_add 1 = .ok (.ifCond .lt 16, 3) := by decide +kernel
theorem dX8_add_4 : decode cX8_add 4 = .ok (.iload_n 1, 1) := by decide +kernel
theorem dX8_add_5 : decode cX8_add 5 = .ok (.sipush 481, 3) := by decide +kernel
theorem dX8_add_8 : decode cX8_add 8 = .ok (.if_icmp .ge 9, 3) := by decide +kernel
theorem dX8_add_11 : decode cX8_add 11 = .ok (.lload_n 2, 1) := by decide +kernel
theorem dX8_add_12 : decode cX8_add 12 = .ok (.lconst 0, 1) := by decide +kernel
theorem dX8_add_13 : decode cX8_add 13 = .ok (.lcmp, 1) := by decide +kernel
theorem dX8_add_14 : decode cX8_add 14 = .ok (.ifCond .gt 4, 3) := by decide +kernel
theorem dX8_add_17 : decode cX8_add 17 = .ok (.return_, 1) := by decide +kernel
theorem dX8_add_18 : decode cX8_add 18 = .ok (.aload_n 0, 1) := by decide +kernel
theorem dX8_add_19 : decode cX8_add 19 = .ok (.getfield 17, 3) := by decide +kernel
theorem dX8_add_22 : decode cX8_add 22 = .ok (.iload_n 1, 1) := by decide +kernel
theorem dX8_add_23 : decode cX8_add 23 = .ok (.laload, 1) := by decide +kernel
theorem dX8_add_24 : decode cX8_add 24 = .ok (.lconst 0, 1) := by decide +kernel
theorem dX8_add_25 : decode cX8_add 25 = .ok (.lcmp, 1) := by decide +kernel
theorem dX8_add_26 : decode cX8_add 26 = .ok (.ifCond .ne 33, 3) := by decide +kernel
theorem dX8_add_29 : decode cX8_add 29 = .ok (.aload_n 0, 1) := by decide +kernel
theorem dX8_add_30 : decode cX8_add 30 = .ok (.getfield 34, 3) := by decide +kernel
theorem dX8_add_33 : decode cX8_add 33 = .ok (.sipush 481, 3) := by decide +kernel
theorem dX8_add_36 : decode cX8_add 36 = .ok (.if_icmp .ge 23, 3) := by decide +kernel
theorem dX8_add_39 : decode cX8_add 39 = .ok (.aload_n 0, 1) := by decide +kernel
theorem dX8_add_40 : decode cX8_add 40 = .ok (.getfield 24, 3) := by decide +kernel
theorem dX8_add_43 : decode cX8_add 43 = .ok (.aload_n 0, 1) := by decide +kernel
theorem dX8_add_44 : decode cX8_add 44 = .ok (.getfield 34, 3) := by decide +kernel
theorem dX8_add_47 : decode cX8_add 47 = .ok (.iload_n 1, 1) := by decide +kernel
theorem dX8_add_48 : decode cX8_add 48 = .ok (.iastore, 1) := by decide +kernel
theorem dX8_add_49 : decode cX8_add 49 = .ok (.aload_n 0, 1) := by decide +kernel
theorem dX8_add_50 : decode cX8_add 50 = .ok (.dup, 1) := by decide +kernel
theorem dX8_add_51 : decode cX8_add 51 = .ok (.getfield 34, 3) := by decide +kernel
theorem dX8_add_54 : decode cX8_add 54 = .ok (.iconst 1, 1) := by decide +kernel
theorem dX8_add_55 : decode cX8_add 55 = .ok (.iadd, 1) := by decide +kernel
theorem dX8_add_56 : decode cX8_add 56 = .ok (.putfield 34, 3) := by decide +kernel
theorem dX8_add_59 : decode cX8_add 59 = .ok (.aload_n 0, 1) := by decide +kernel
theorem dX8_add_60 : decode cX8_add 60 = .ok (.getfield 17, 3) := by decide +kernel
theorem dX8_add_63 : decode cX8_add 63 = .ok (.iload_n 1, 1) := by decide +kernel
theorem dX8_add_64 : decode cX8_add 64 = .ok (.dup2, 1) := by decide +kernel
theorem dX8_add_65 : decode cX8_add 65 = .ok (.laload, 1) := by decide +kernel
theorem dX8_add_66 : decode cX8_add 66 = .ok (.lload_n 2, 1) := by decide +kernel
theorem dX8_add_67 : decode cX8_add 67 = .ok (.ladd, 1) := by decide +kernel
theorem dX8_add_68 : decode cX8_add 68 = .ok (.lastore, 1) := by decide +kernel
theorem dX8_add_69 : decode cX8_add 69 = .ok (.return_, 1) := by decide +kernel
theorem dX8_turnToTomorrow_0 : decode cX8_turnToTomorrow 0 = .ok (.iconst 0, 1) := by decide +kernel
theorem dX8_turnToTomorrow_1 : decode cX8_turnToTomorrow 1 = .ok (.istore_n 1, 1) := by decide +kernel
theorem dX8_turnToTomorrow_2 : decode cX8_turnToTomorrow 2 = .ok (.iload_n 1, 1) := by decide +kernel
theorem dX8_turnToTomorrow_3 : decode cX8_turnToTomorrow 3 = .ok (.aload_n 0, 1) := by decide +kernel
theorem dX8_turnToTomorrow_4 : decode cX8_turnToTomorrow 4 = .ok (.getfield 38, 3) := by decide +kernel
theorem dX8_turnToTomorrow_7 : decode cX8_turnToTomorrow 7 = .ok (.if_icmp .ge 29, 3) := by decide +kernel
theorem dX8_turnToTomorrow_10 : decode cX8_turnToTomorrow 10 = .ok (.aload_n 0, 1) := by decide +kernel
theorem dX8_turnToTomorrow_11 : decode cX8_turnToTomorrow 11 = .ok (.iload_n 1, 1) := by decide +kernel
theorem dX8_turnToTomorrow_12 : decode cX8_turnToTomorrow 12 = .ok (.invokevirtual 41, 3) := by decide +kernel
theorem dX8_turnToTomorrow_15 : decode cX8_turnToTomorrow 15 = .ok (.istore_n 2, 1) := by decide +kernel
theorem dX8_turnToTomorrow_16 : decode cX8_turnToTomorrow 16 = .ok (.iload_n 2, 1) := by decide +kernel
theorem dX8_turnToTomorrow_17 : decode cX8_turnToTomorrow 17 = .ok (.invokestatic 45, 3) := by decide +kernel
theorem dX8_turnToTomorrow_20 : decode cX8_turnToTomorrow 20 = .ok (.ifCond .eq 10, 3) := by decide +kernel
theorem dX8_turnToTomorrow_23 : decode cX8_turnToTomorrow 23 = .ok (.aload_n 0, 1) := by decide +kernel
theorem dX8_turnToTomorrow_24 : decode cX8_turnToTomorrow 24 = .ok (.getfield 13, 3) := by decide +kernel
theorem dX8_turnToTomorrow_27 : decode cX8_turnToTomorrow 27 = .ok (.iload_n 2, 1) := by decide +kernel
theorem dX8_turnToTomorrow_28 : decode cX8_turnToTomorrow 28 = .ok (.lconst 0, 1) := by decide +kernel
theorem dX8_turnToTomorrow_29 : decode cX8_turnToTomorrow 29 = .ok (.lastore, 1) := by decide +kernel
theorem dX8_turnToTomorrow_30 : decode cX8_turnToTomorrow 30 = .ok (.iinc 1 1, 3) := by decide +kernel
theorem dX8_turnToTomorrow_33 : decode cX8_turnToTomorrow 33 = .ok (.goto (-31), 3) := by decide +kernel
theorem dX8_turnToTomorrow_36 : decode cX8_turnToTomorrow 36 = .ok (.aload_n 0, 1) := by decide +kernel
theorem dX8_turnToTomorrow_37 : decode cX8_turnToTomorrow 37 = .ok (.getfield 13, 3) := by decide +kernel
theorem dX8_turnToTomorrow_40 : decode cX8_turnToTomorrow 40 = .ok (.astore_n 1, 1) := by decide +kernel
theorem dX8_turnToTomorrow_41 : decode cX8_turnToTomorrow 41 = .ok (.aload_n 0, 1) := by decide +kernel
theorem dX8_turnToTomorrow_42 : decode cX8_turnToTomorrow 42 = .ok (.aload_n 0, 1) := by decide +kernel
theorem dX8_turnToTomorrow_43 : decode cX8_turnToTomorrow 43 = .ok (.getfield 17, 3) := by decide +kernel
theorem dX8_turnToTomorrow_46 : decode cX8_turnToTomorrow 46 = .ok (.putfield 13, 3) := by decide +kernel
theorem dX8_turnToTomorrow_49 : decode cX8_turnToTomorrow 49 = .ok (.aload_n 0, 1) := by decide +kernel
theorem dX8_turnToTomorrow_50 : decode cX8_turnToTomorrow 50 = .ok (.aload_n 1, 1) := by decide +kernel
theorem dX8_turnToTomorrow_51 : decode cX8_turnToTomorrow 51 = .ok (.putfield 17, 3) := by decide +kernel
theorem dX8_turnToTomorrow_54 : decode cX8_turnToTomorrow 54 = .ok (.aload_n 0, 1) := by decide +kernel
theorem dX8_turnToTomorrow_55 : decode cX8_turnToTomorrow 55 = .ok (.getfield 20, 3) := by decide +kernel
theorem dX8_turnToTomorrow_58 : decode cX8_turnToTomorrow 58 = .ok (.astore_n 2, 1) := by decide +kernel
theorem dX8_turnToTomorrow_59 : decode cX8_turnToTomorrow 59 = .ok (.aload_n 0, 1) := by decide +kernel
theorem dX8_turnToTomorrow_60 : decode cX8_turnToTomorrow 60 = .ok (.aload_n 0, 1) := by decide +kernel
theorem dX8_turnToTomorrow_61 : decode cX8_turnToTomorrow 61 = .ok (.getfield 24, 3) := by decide +kernel
theorem dX8_turnToTomorrow_64 : decode cX8_turnToTomorrow 64 = .ok (.putfield 20, 3) := by decide +kernel
theorem dX8_turnToTomorrow_67 : decode cX8_turnToTomorrow 67 = .ok (.aload_n 0, 1) := by decide +kernel
theorem dX8_turnToTomorrow_68 : decode cX8_turnToTomorrow 68 = .ok (.aload_n 2, 1) := by decide +kernel
theorem dX8_turnToTomorrow_69 : decode cX8_turnToTomorrow 69 = .ok (.putfield 24, 3) := by decide +kernel
theorem dX8_turnToTomorrow_72 : decode cX8_turnToTomorrow 72 = .ok (.aload_n 0, 1) := by decide +kernel
theorem dX8_turnToTomorrow_73 : decode cX8_turnToTomorrow 73 = .ok (.aload_n 0, 1) := by decide +kernel
theorem dX8_turnToTomorrow_74 : decode cX8_turnToTomorrow 74 = .ok (.getfield 34, 3) := by decide +kernel
theorem dX8_turnToTomorrow_77 : decode cX8_turnToTomorrow 77 = .ok (.putfield 38, 3) := by decide +kernel
theorem dX8_turnToTomorrow_80 : decode cX8_turnToTomorrow 80 = .ok (.aload_n 0, 1) := by decide +kernel
theorem dX8_turnToTomorrow_81 : decode cX8_turnToTomorrow 81 = .ok (.iconst 0, 1) := by decide +kernel
theorem dX8_turnToTomorrow_82 : decode cX8_turnToTomorrow 82 = .ok (.putfield 34, 3) := by decide +kernel
theorem dX8_turnToTomorrow_85 : decode cX8_turnToTomorrow 85 = .ok (.return_, 1) := by decide +kernel
theorem dX8_places_0 : decode cX8_places 0 = .ok (.aload_n 0, 1) := by decide +kernel
theorem dX8_places_1 : decode cX8_places 1 = .ok (.getfield 38, 3) := by decide +kernel
theorem dX8_places_4 : decode cX8_places 4 = .ok (.ireturn, 1) := by decide +kernel
theorem dX8_placeAt_0 : decode cX8_placeAt 0 = .ok (.iload_n 1, 1) := by decide +kernel
theorem dX8_placeAt_1 : decode cX8_placeAt 1 = .ok (.invokestatic 45, 3) := by decide +kernel
theorem dX8_placeAt_4 : decode cX8_placeAt 4 = .ok (.ifCond .eq 12, 3) := by decide +kernel
theorem dX8_placeAt_7 : decode cX8_placeAt 7 = .ok (.aload_n 0, 1) := by decide +kernel
theorem dX8_placeAt_8 : decode cX8_placeAt 8 = .ok (.getfield 20, 3) := by decide +kernel
theorem dX8_placeAt_11 : decode cX8_placeAt 11 = .ok (.iload_n 1, 1) := by decide +kernel
theorem dX8_placeAt_12 : decode cX8_placeAt 12 = .ok (.iaload, 1) := by decide +kernel
theorem dX8_placeAt_13 : decode cX8_placeAt 13 = .ok (.goto 4, 3) := by decide +kernel
theorem dX8_placeAt_16 : decode cX8_placeAt 16 = .ok (.iconst 0, 1) := by decide +kernel
theorem dX8_placeAt_17 : decode cX8_placeAt 17 = .ok (.ireturn, 1) := by decide +kernel
theorem dX8_weightAt_0 : decode cX8_weightAt 0 = .ok (.iload_n 1, 1) := by decide +kernel
theorem dX8_weightAt_1 : decode cX8_weightAt 1 = .ok (.invokestatic 45, 3) := by decide +kernel
theorem dX8_weightAt_4 : decode cX8_weightAt 4 = .ok (.ifCond .eq 12, 3) := by decide +kernel
theorem dX8_weightAt_7 : decode cX8_weightAt 7 = .ok (.aload_n 0, 1) := by decide +kernel
theorem dX8_weightAt_8 : decode cX8_weightAt 8 = .ok (.getfield 13, 3) := by decide +kernel
theorem dX8_weightAt_11 : decode cX8_weightAt 11 = .ok (.iload_n 1, 1) := by decide +kernel
theorem dX8_weightAt_12 : decode cX8_weightAt 12 = .ok (.laload, 1) := by decide +kernel
theorem dX8_weightAt_13 : decode cX8_weightAt 13 = .ok (.goto 4, 3) := by decide +kernel
theorem dX8_weightAt_16 : decode cX8_weightAt 16 = .ok (.lconst 0, 1) := by decide +kernel
theorem dX8_weightAt_17 : decode cX8_weightAt 17 = .ok (.lreturn, 1) := by decide +kernel
theorem dX8_weightOfAll_0 : decode cX8_weightOfAll 0 = .ok (.lconst 0, 1) := by decide +kernel
theorem dX8_weightOfAll_1 : decode cX8_weightOfAll 1 = .ok (.lstore_n 1, 1) := by decide +kernel
theorem dX8_weightOfAll_2 : decode cX8_weightOfAll 2 = .ok (.iconst 0, 1) := by decide +kernel
theorem dX8_weightOfAll_3 : decode cX8_weightOfAll 3 = .ok (.istore_n 3, 1) := by decide +kernel
theorem dX8_weightOfAll_4 : decode cX8_weightOfAll 4 = .ok (.iload_n 3, 1) := by decide +kernel
theorem dX8_weightOfAll_5 : decode cX8_weightOfAll 5 = .ok (.aload_n 0, 1) := by decide +kernel
theorem dX8_weightOfAll_6 : decode cX8_weightOfAll 6 = .ok (.getfield 38, 3) := by decide +kernel
theorem dX8_weightOfAll_9 : decode cX8_weightOfAll 9 = .ok (.if_icmp .ge 21, 3) := by decide +kernel
theorem dX8_weightOfAll_12 : decode cX8_weightOfAll 12 = .ok (.lload_n 1, 1) := by decide +kernel
theorem dX8_weightOfAll_13 : decode cX8_weightOfAll 13 = .ok (.aload_n 0, 1) := by decide +kernel
theorem dX8_weightOfAll_14 : decode cX8_weightOfAll 14 = .ok (.aload_n 0, 1) := by decide +kernel
theorem dX8_weightOfAll_15 : decode cX8_weightOfAll 15 = .ok (.iload_n 3, 1) := by decide +kernel
theorem dX8_weightOfAll_16 : decode cX8_weightOfAll 16 = .ok (.invokevirtual 41, 3) := by decide +kernel
theorem dX8_weightOfAll_19 : decode cX8_weightOfAll 19 = .ok (.invokevirtual 49, 3) := by decide +kernel
theorem dX8_weightOfAll_22 : decode cX8_weightOfAll 22 = .ok (.ladd, 1) := by decide +kernel
theorem dX8_weightOfAll_23 : decode cX8_weightOfAll 23 = .ok (.lstore_n 1, 1) := by decide +kernel
theorem dX8_weightOfAll_24 : decode cX8_weightOfAll 24 = .ok (.iinc 3 1, 3) := by decide +kernel
theorem dX8_weightOfAll_27 : decode cX8_weightOfAll 27 = .ok (.goto (-23), 3) := by decide +kernel
theorem dX8_weightOfAll_30 : decode cX8_weightOfAll 30 = .ok (.lload_n 1, 1) := by decide +kernel
theorem dX8_weightOfAll_31 : decode cX8_weightOfAll 31 = .ok (.lreturn, 1) := by decide +kernel
theorem dX8_isPlace_0 : decode cX8_isPlace 0 = .ok (.iload_n 0, 1) := by decide +kernel
theorem dX8_isPlace_1 : decode cX8_isPlace 1 = .ok (.ifCond .lt 14, 3) := by decide +kernel
theorem dX8_isPlace_4 : decode cX8_isPlace 4 = .ok (.iload_n 0, 1) := by decide +kernel
theorem dX8_isPlace_5 : decode cX8_isPlace 5 = .ok (.sipush 481, 3) := by decide +kernel
theorem dX8_isPlace_8 : decode cX8_isPlace 8 = .ok (.if_icmp .ge 7, 3) := by decide +kernel
theorem dX8_isPlace_11 : decode cX8_isPlace 11 = .ok (.iconst 1, 1) := by decide +kernel
theorem dX8_isPlace_12 : decode cX8_isPlace 12 = .ok (.goto 4, 3) := by decide +kernel
theorem dX8_isPlace_15 : decode cX8_isPlace 15 = .ok (.iconst 0, 1) := by decide +kernel
theorem dX8_isPlace_16 : decode cX8_isPlace 16 = .ok (.ireturn, 1) := by decide +kernel
theorem dX9_init_0 : decode cX9_init 0 = .ok (.aload_n 0, 1) := by decide +kernel
theorem dX9_init_1 : decode cX9_init 1 = .ok (.invokespecial 3, 3) := by decide +kernel
theorem dX9_init_4 : decode cX9_init 4 = .ok (.iconst 0, 1) := by decide +kernel
theorem dX9_init_5 : decode cX9_init 5 = .ok (.iload_n 2, 1) := by decide +kernel
theorem dX9_init_6 : decode cX9_init 6 = .ok (.aload_n 1, 1) := by decide +kernel
theorem dX9_init_7 : decode cX9_init 7 = .ok (.arraylength, 1) := by decide +kernel
theorem dX9_init_8 : decode cX9_init 8 = .ok (.invokestatic 9, 3) := by decide +kernel
theorem dX9_init_11 : decode cX9_init 11 = .ok (.invokestatic 15, 3) := by decide +kernel
theorem dX9_init_14 : decode cX9_init 14 = .ok (.istore_n 3, 1) := by decide +kernel
theorem dX9_init_15 : decode cX9_init 15 = .ok (.aload_n 0, 1) := by decide +kernel
theorem dX9_init_16 : decode cX9_init 16 = .ok (.iload_n 3, 1) := by decide +kernel
theorem dX9_init_17 : decode cX9_init 17 = .ok (.newarray .byte, 2) := by decide +kernel
theorem dX9_init_19 : decode cX9_init 19 = .ok (.putfield 18, 3) := by decide +kernel
theorem dX9_init_22 : decode cX9_init 22 = .ok (.aload_n 1, 1) := by decide +kernel
theorem dX9_init_23 : decode cX9_init 23 = .ok (.iconst 0, 1) := by decide +kernel
theorem dX9_init_24 : decode cX9_init 24 = .ok (.aload_n 0, 1) := by decide +kernel
theorem dX9_init_25 : decode cX9_init 25 = .ok (.getfield 18, 3) := by decide +kernel
theorem dX9_init_28 : decode cX9_init 28 = .ok (.iconst 0, 1) := by decide +kernel
theorem dX9_init_29 : decode cX9_init 29 = .ok (.iload_n 3, 1) := by decide +kernel
theorem dX9_init_30 : decode cX9_init 30 = .ok (.invokestatic 24, 3) := by decide +kernel
theorem dX9_init_33 : decode cX9_init 33 = .ok (.return_, 1) := by decide +kernel
theorem dX9_kindNumber_0 : decode cX9_kindNumber 0 = .ok (.iconst 0, 1) := by decide +kernel
theorem dX9_kindNumber_1 : decode cX9_kindNumber 1 = .ok (.ireturn, 1) := by decide +kernel
theorem dX9_wants_0 : decode cX9_wants 0 = .ok (.iload_n 1, 1) := by decide +kernel
theorem dX9_wants_1 : decode cX9_wants 1 = .ok (.bipush (-12), 2) := by decide +kernel
theorem dX9_wants_3 : decode cX9_wants 3 = .ok (.isub, 1) := by decide +kernel
theorem dX9_wants_4 : decode cX9_wants 4 = .ok (.istore_n 2, 1) := by decide +kernel
theorem dX9_wants_5 : decode cX9_wants 5 = .ok (.iload_n 2, 1) := by decide +kernel
theorem dX9_wants_6 : decode cX9_wants 6 = .ok (.iconst 0, 1) := by decide +kernel
theorem dX9_wants_7 : decode cX9_wants 7 = .ok (.aload_n 0, 1) := by decide +kernel
theorem dX9_wants_8 : decode cX9_wants 8 = .ok (.getfield 18, 3) := by decide +kernel
theorem dX9_wants_11 : decode cX9_wants 11 = .ok (.arraylength, 1) := by decide +kernel
theorem dX9_wants_12 : decode cX9_wants 12 = .ok (.iconst 1, 1) := by decide +kernel
theorem dX9_wants_13 : decode cX9_wants 13 = .ok (.isub, 1) := by decide +kernel
theorem dX9_wants_14 : decode cX9_wants 14 = .ok (.invokestatic 30, 3) := by decide +kernel
theorem dX9_wants_17 : decode cX9_wants 17 = .ok (.ifCond .eq 12, 3) := by decide +kernel
theorem dX9_wants_20 : decode cX9_wants 20 = .ok (.aload_n 0, 1) := by decide +kernel
theorem dX9_wants_21 : decode cX9_wants 21 = .ok (.getfield 18, 3) := by decide +kernel
theorem dX9_wants_24 : decode cX9_wants 24 = .ok (.iload_n 2, 1) := by decide +kernel
theorem dX9_wants_25 : decode cX9_wants 25 = .ok (.baload, 1) := by decide +kernel
theorem dX9_wants_26 : decode cX9_wants 26 = .ok (.goto 4, 3) := by decide +kernel
theorem dX9_wants_29 : decode cX9_wants 29 = .ok (.iconst 0, 1) := by decide +kernel
theorem dX9_wants_30 : decode cX9_wants 30 = .ok (.ireturn, 1) := by decide +kernel
theorem dX9_tableSize_0 : decode cX9_tableSize 0 = .ok (.aload_n 0, 1) := by decide +kernel
theorem dX9_tableSize_1 : decode cX9_tableSize 1 = .ok (.getfield 18, 3) := by decide +kernel
theorem dX9_tableSize_4 : decode cX9_tableSize 4 = .ok (.arraylength, 1) := by decide +kernel
theorem dX9_tableSize_5 : decode cX9_tableSize 5 = .ok (.ireturn, 1) := by decide +kernel
theorem dX10_init_0 : decode cX10_init 0 = .ok (.aload_n 0, 1) := by decide +kernel
theorem dX10_init_1 : decode cX10_init 1 = .ok (.invokespecial 3, 3) := by decide +kernel
theorem dX10_init_4 : decode cX10_init 4 = .ok (.aload_n 0, 1) := by decide +kernel
theorem dX10_init_5 : decode cX10_init 5 = .ok (.bipush 49, 2) := by decide +kernel
theorem dX10_init_7 : decode cX10_init 7 = .ok (.newarray .int, 2) := by decide +kernel
theorem dX10_init_9 : decode cX10_init 9 = .ok (.putfield 9, 3) := by decide +kernel
theorem dX10_init_12 : decode cX10_init 12 = .ok (.aload_n 0, 1) := by decide +kernel
theorem dX10_init_13 : decode cX10_init 13 = .ok (.bipush 49, 2) := by decide +kernel
theorem dX10_init_15 : decode cX10_init 15 = .ok (.newarray .boolean, 2) := by decide +kernel
theorem dX10_init_17 : decode cX10_init 17 = .ok (.putfield 15, 3) := by decide +kernel
theorem dX10_init_20 : decode cX10_init 20 = .ok (.aload_n 0, 1) := by decide +kernel
theorem dX10_init_21 : decode cX10_init 21 = .ok (.aload_n 1, 1) := by decide +kernel
theorem dX10_init_22 : decode cX10_init 22 = .ok (.putfield 19, 3) := by decide +kernel
theorem dX10_init_25 : decode cX10_init 25 = .ok (.aload_n 0, 1) := by decide +kernel
theorem dX10_init_26 : decode cX10_init 26 = .ok (.aload_n 2, 1) := by decide +kernel
theorem dX10_init_27 : decode cX10_init 27 = .ok (.putfield 23, 3) := by decide +kernel
theorem dX10_init_30 : decode cX10_init 30 = .ok (.return_, 1) := by decide +kernel
theorem dX10_useRule_0 : decode cX10_useRule 0 = .ok (.iconst 0, 1) := by decide +kernel
theorem dX10_useRule_1 : decode cX10_useRule 1 = .ok (.istore_n 2, 1) := by decide +kernel
theorem dX10_useRule_2 : decode cX10_useRule 2 = .ok (.iload_n 2, 1) := by decide +kernel
theorem dX10_useRule_3 : decode cX10_useRule 3 = .ok (.aload_n 0, 1) := by decide +kernel
theorem dX10_useRule_4 : decode cX10_useRule 4 = .ok (.getfield 9, 3) := by decide +kernel
theorem dX10_useRule_7 : decode cX10_useRule 7 = .ok (.arraylength, 1) := by decide +kernel
theorem dX10_useRule_8 : decode cX10_useRule 8 = .ok (.if_icmp .ge 26, 3) := by decide +kernel
theorem dX10_useRule_11 : decode cX10_useRule 11 = .ok (.aload_n 0, 1) := by decide +kernel
theorem dX10_useRule_12 : decode cX10_useRule 12 = .ok (.getfield 9, 3) := by decide +kernel
theorem dX10_useRule_15 : decode cX10_useRule 15 = .ok (.iload_n 2, 1) := by decide +kernel
theorem dX10_useRule_16 : decode cX10_useRule 16 = .ok (.aload_n 1, 1) := by decide +kernel
theorem dX10_useRule_17 : decode cX10_useRule 17 = .ok (.iload_n 2, 1) := by decide +kernel
theorem dX10_useRule_18 : decode cX10_useRule 18 = .ok (.bipush (-12), 2) := by decide +kernel
theorem dX10_useRule_20 : decode cX10_useRule 20 = .ok (.iadd, 1) := by decide +kernel
theorem dX10_useRule_21 : decode cX10_useRule 21 = .ok (.invokevirtual 27, 3) := by decide +kernel
theorem dX10_useRule_24 : decode cX10_useRule 24 = .ok (.invokestatic 33, 3) := by decide +kernel
theorem dX10_useRule_27 : decode cX10_useRule 27 = .ok (.iastore, 1) := by decide +kernel
theorem dX10_useRule_28 : decode cX10_useRule 28 = .ok (.iinc 2 1, 3) := by decide +kernel
theorem dX10_useRule_31 : decode cX10_useRule 31 = .ok (.goto (-29), 3) := by decide +kernel
theorem dX10_useRule_34 : decode cX10_useRule 34 = .ok (.return_, 1) := by decide +kernel
theorem dX10_usePair_0 : decode cX10_usePair 0 = .ok (.iconst 0, 1) := by decide +kernel
theorem dX10_usePair_1 : decode cX10_usePair 1 = .ok (.istore_n 3, 1) := by decide +kernel
theorem dX10_usePair_2 : decode cX10_usePair 2 = .ok (.iload_n 3, 1) := by decide +kernel
theorem dX10_usePair_3 : decode cX10_usePair 3 = .ok (.aload_n 0, 1) := by decide +kernel
theorem dX10_usePair_4 : decode cX10_usePair 4 = .ok (.getfield 9, 3) := by decide +kernel
theorem dX10_usePair_7 : decode cX10_usePair 7 = .ok (.arraylength, 1) := by decide +kernel
theorem dX10_usePair_8 : decode cX10_usePair 8 = .ok (.if_icmp .ge 27, 3) := by decide +kernel
theorem dX10_usePair_11 : decode cX10_usePair 11 = .ok (.aload_n 0, 1) := by decide +kernel
theorem dX10_usePair_12 : decode cX10_usePair 12 = .ok (.getfield 9, 3) := by decide +kernel
theorem dX10_usePair_15 : decode cX10_usePair 15 = .ok (.iload_n 3, 1) := by decide +kernel
theorem dX10_usePair_16 : decode cX10_usePair 16 = .ok (.iload_n 1, 1) := by decide +kernel
theorem dX10_usePair_17 : decode cX10_usePair 17 = .ok (.iload_n 2, 1) := by decide +kernel
theorem dX10_usePair_18 : decode cX10_usePair 18 = .ok (.iload_n 3, 1) := by decide +kernel
theorem dX10_usePair_19 : decode cX10_usePair 19 = .ok (.bipush (-12), 2) := by decide +kernel
theorem dX10_usePair_21 : decode cX10_usePair 21 = .ok (.iadd, 1) := by decide +kernel
theorem dX10_usePair_22 : decode cX10_usePair 22 = .ok (.invokestatic 36, 3) := by decide +kernel
theorem dX10_usePair_25 : decode cX10_usePair 25 = .ok (.invokestatic 33, 3) := by decide +kernel
theorem dX10_usePair_28 : decode cX10_usePair 28 = .ok (.iastore, 1) := by decide +kernel
theorem dX10_usePair_29 : decode cX10_usePair 29 = .ok (.iinc 3 1, 3) := by decide +kernel
theorem dX10_usePair_32 : decode cX10_usePair 32 = .ok (.goto (-30), 3) := by decide +kernel
theorem dX10_usePair_35 : decode cX10_usePair 35 = .ok (.return_, 1) := by decide +kernel
theorem dX10_hasReached_0 : decode cX10_hasReached 0 = .ok (.iload_n 1, 1) := by decide +kernel
theorem dX10_hasReached_1 : decode cX10_hasReached 1 = .ok (.invokestatic 42, 3) := by decide +kernel
theorem dX10_hasReached_4 : decode cX10_hasReached 4 = .ok (.ifCond .eq 19, 3) := by decide +kernel
theorem dX10_hasReached_7 : decode cX10_hasReached 7 = .ok (.aload_n 0, 1) := by decide +kernel
theorem dX10_hasReached_8 : decode cX10_hasReached 8 = .ok (.getfield 15, 3) := by decide +kernel
theorem dX10_hasReached_11 : decode cX10_hasReached 11 = .ok (.iload_n 1, 1) := by decide +kernel
theorem dX10_hasReached_12 : decode cX10_hasReached 12 = .ok (.bipush (-12), 2) := by decide +kernel
theorem dX10_hasReached_14 : decode cX10_hasReached 14 = .ok (.isub, 1) := by decide +kernel
theorem dX10_hasReached_15 : decode cX10_hasReached 15 = .ok (.baload, 1) := by decide +kernel
theorem dX10_hasReached_16 : decode cX10_hasReached 16 = .ok (.ifCond .eq 7, 3) := by decide +kernel
theorem dX10_hasReached_19 : decode cX10_hasReached 19 = .ok (.iconst 1, 1) := by decide +kernel
theorem dX10_hasReached_20 : decode cX10_hasReached 20 = .ok (.goto 4, 3) := by decide +kernel
theorem dX10_hasReached_23 : decode cX10_hasReached 23 = .ok (.iconst 0, 1) := by decide +kernel
theorem dX10_hasReached_24 : decode cX10_hasReached 24 = .ok (.ireturn, 1) := by decide +kernel
theorem dX10_follow_0 : decode cX10_follow 0 = .ok (.aload_n 0, 1) := by decide +kernel
theorem dX10_follow_1 : decode cX10_follow 1 = .ok (.iconst 0, 1) := by decide +kernel
theorem dX10_follow_2 : decode cX10_follow 2 = .ok (.putfield 46, 3) := by decide +kernel
theorem dX10_follow_5 : decode cX10_follow 5 = .ok (.aload_n 0, 1) := by decide +kernel
theorem dX10_follow_6 : decode cX10_follow 6 = .ok (.iload_n 2, 1) := by decide +kernel
theorem dX10_follow_7 : decode cX10_follow 7 = .ok (.invokevirtual 50, 3) := by decide +kernel
theorem dX10_follow_10 : decode cX10_follow 10 = .ok (.iconst 1, 1) := by decide +kernel
theorem dX10_follow_11 : decode cX10_follow 11 = .ok (.istore 6, 2) := by decide +kernel
theorem dX10_follow_13 : decode cX10_follow 13 = .ok (.iload 6, 2) := by decide +kernel
theorem dX10_follow_15 : decode cX10_follow 15 = .ok (.iload_n 3, 1) := by decide +kernel
theorem dX10_follow_16 : decode cX10_follow 16 = .ok (.if_icmp .gt 40, 3) := by decide +kernel
theorem dX10_follow_19 : decode cX10_follow 19 = .ok (.aload_n 0, 1) := by decide +kernel
theorem dX10_follow_20 : decode cX10_follow 20 = .ok (.aload_n 1, 1) := by decide +kernel
theorem dX10_follow_21 : decode cX10_follow 21 = .ok (.invokevirtual 54, 3) := by decide +kernel
theorem dX10_follow_24 : decode cX10_follow 24 = .ok (.aload_n 0, 1) := by decide +kernel
theorem dX10_follow_25 : decode cX10_follow 25 = .ok (.getfield 58, 3) := by decide +kernel
theorem dX10_follow_28 : decode cX10_follow 28 = .ok (.aload_n 1, 1) := by decide +kernel
theorem dX10_follow_29 : decode cX10_follow 29 = .ok (.iload_n 3, 1) := by decide +kernel
theorem dX10_follow_30 : decode cX10_follow 30 = .ok (.iload 6, 2) := by decide +kernel
theorem dX10_follow_32 : decode cX10_follow 32 = .ok (.isub, 1) := by decide +kernel
theorem dX10_follow_33 : decode cX10_follow 33 = .ok (.invokestatic 62, 3) := by decide +kernel
theorem dX10_follow_36 : decode cX10_follow 36 = .ok (.lmul, 1) := by decide +kernel
theorem dX10_follow_37 : decode cX10_follow 37 = .ok (.lstore 7, 2) := by decide +kernel
theorem dX10_follow_39 : decode cX10_follow 39 = .ok (.lload 7, 2) := by decide +kernel
theorem dX10_follow_41 : decode cX10_follow 41 = .ok (.lload 4, 2) := by decide +kernel
theorem dX10_follow_43 : decode cX10_follow 43 = .ok (.lcmp, 1) := by decide +kernel
theorem dX10_follow_44 : decode cX10_follow 44 = .ok (.ifCond .lt 6, 3) := by decide +kernel
theorem dX10_follow_47 : decode cX10_follow 47 = .ok (.lload 7, 2) := by decide +kernel
theorem dX10_follow_49 : decode cX10_follow 49 = .ok (.lreturn, 1) := by decide +kernel
theorem dX10_follow_50 : decode cX10_follow 50 = .ok (.iinc 6 1, 3) := by decide +kernel
theorem dX10_follow_53 : decode cX10_follow 53 = .ok (.goto (-40), 3) := by decide +kernel
theorem dX10_follow_56 : decode cX10_follow 56 = .ok (.aload_n 0, 1) := by decide +kernel
theorem dX10_follow_57 : decode cX10_follow 57 = .ok (.getfield 58, 3) := by decide +kernel
theorem dX10_follow_60 : decode cX10_follow 60 = .ok (.lreturn, 1) := by decide +kernel
theorem dX10_followUnbroken_0 : decode cX10_followUnbroken 0 = .ok (.aload_n 0, 1) := by decide +kernel
theorem dX10_followUnbroken_1 : decode cX10_followUnbroken 1 = .ok (.iconst 1, 1) := by decide +kernel
theorem dX10_followUnbroken_2 : decode cX10_followUnbroken 2 = .ok (.putfield 46, 3) := by decide +kernel
theorem dX10_followUnbroken_5 : decode cX10_followUnbroken 5 = .ok (.aload_n 0, 1) := by decide +kernel
theorem dX10_followUnbroken_6 : decode cX10_followUnbroken 6 = .ok (.iload_n 2, 1) := by decide +kernel
theorem dX10_followUnbroken_7 : decode cX10_followUnbroken 7 = .ok (.invokevirtual 50, 3) := by decide +kernel
theorem dX10_followUnbroken_10 : decode cX10_followUnbroken 10 = .ok (.iconst 1, 1) := by decide +kernel
theorem dX10_followUnbroken_11 : decode cX10_followUnbroken 11 = .ok (.istore 4, 2) := by decide +kernel
theorem dX10_followUnbroken_13 : decode cX10_followUnbroken 13 = .ok (.iload 4, 2) := by decide +kernel
theorem dX10_followUnbroken_15 : decode cX10_followUnbroken 15 = .ok (.iload_n 3, 1) := by decide +kernel
theorem dX10_followUnbroken_16 : decode cX10_followUnbroken 16 = .ok (.if_icmp .gt 14, 3) := by decide +kernel
theorem dX10_followUnbroken_19 : decode cX10_followUnbroken 19 = .ok (.aload_n 0, 1) := by decide +kernel
theorem dX10_followUnbroken_20 : decode cX10_followUnbroken 20 = .ok (.aload_n 1, 1) := by decide +kernel
theorem dX10_followUnbroken_21 : decode cX10_followUnbroken 21 = .ok (.invokevirtual 54, 3) := by decide +kernel
theorem dX10_followUnbroken_24 : decode cX10_followUnbroken 24 = .ok (.iinc 4 1, 3) := by decide +kernel
theorem dX10_followUnbroken_27 : decode cX10_followUnbroken 27 = .ok (.goto (-14), 3) := by decide +kernel
theorem dX10_followUnbroken_30 : decode cX10_followUnbroken 30 = .ok (.aload_n 0, 1) := by decide +kernel
theorem dX10_followUnbroken_31 : decode cX10_followUnbroken 31 = .ok (.getfield 23, 3) := by decide +kernel
theorem dX10_followUnbroken_34 : decode cX10_followUnbroken 34 = .ok (.invokevirtual 66, 3) := by decide +kernel
theorem dX10_followUnbroken_37 : decode cX10_followUnbroken 37 = .ok (.lreturn, 1) := by decide +kernel
theorem dX10_begin_0 : decode cX10_begin 0 = .ok (.aload_n 0, 1) := by decide +kernel
theorem dX10_begin_1 : decode cX10_begin 1 = .ok (.lconst 0, 1) := by decide +kernel
theorem dX10_begin_2 : decode cX10_begin 2 = .ok (.putfield 58, 3) := by decide +kernel
theorem dX10_begin_5 : decode cX10_begin 5 = .ok (.aload_n 0, 1) := by decide +kernel
theorem dX10_begin_6 : decode cX10_begin 6 = .ok (.lconst 0, 1) := by decide +kernel
theorem dX10_begin_7 : decode cX10_begin 7 = .ok (.putfield 72, 3) := by decide +kernel
theorem dX10_begin_10 : decode cX10_begin 10 = .ok (.aload_n 0, 1) := by decide +kernel
theorem dX10_begin_11 : decode cX10_begin 11 = .ok (.lconst 0, 1) := by decide +kernel
theorem dX10_begin_12 : decode cX10_begin 12 = .ok (.putfield 75, 3) := by decide +kernel
theorem dX10_begin_15 : decode cX10_begin 15 = .ok (.iconst 0, 1) := by decide +kernel
theorem dX10_begin_16 : decode cX10_begin 16 = .ok (.istore_n 2, 1) := by decide +kernel
theorem dX10_begin_17 : decode cX10_begin 17 = .ok (.iload_n 2, 1) := by decide +kernel
theorem dX10_begin_18 : decode cX10_begin 18 = .ok (.aload_n 0, 1) := by decide +kernel
theorem dX10_begin_19 : decode cX10_begin 19 = .ok (.getfield 15, 3) := by decide +kernel
theorem dX10_begin_22 : decode cX10_begin 22 = .ok (.arraylength, 1) := by decide +kernel
theorem dX10_begin_23 : decode cX10_begin 23 = .ok (.if_icmp .ge 16, 3) := by decide +kernel
theorem dX10_begin_26 : decode cX10_begin 26 = .ok (.aload_n 0, 1) := by decide +kernel
theorem dX10_begin_27 : decode cX10_begin 27 = .ok (.getfield 15, 3) := by decide +kernel
theorem dX10_begin_30 : decode cX10_begin 30 = .ok (.iload_n 2, 1) := by decide +kernel
theorem dX10_begin_31 : decode cX10_begin 31 = .ok (.iconst 0, 1) := by decide +kernel
theorem dX10_begin_32 : decode cX10_begin 32 = .ok (.bastore, 1) := by decide +kernel
theorem dX10_begin_33 : decode cX10_begin 33 = .ok (.iinc 2 1, 3) := by decide +kernel
theorem dX10_begin_36 : decode cX10_begin 36 = .ok (.goto (-19), 3) := by decide +kernel
theorem dX10_begin_39 : decode cX10_begin 39 = .ok (.aload_n 0, 1) := by decide +kernel
theorem dX10_begin_40 : decode cX10_begin 40 = .ok (.getfield 23, 3) := by decide +kernel
theorem dX10_begin_43 : decode cX10_begin 43 = .ok (.iload_n 1, 1) := by decide +kernel
theorem dX10_begin_44 : decode cX10_begin 44 = .ok (.iconst 0, 1) := by decide +kernel
theorem dX10_begin_45 : decode cX10_begin 45 = .ok (.invokestatic 78, 3) := by decide +kernel
theorem dX10_begin_48 : decode cX10_begin 48 = .ok (.invokevirtual 82, 3) := by decide +kernel
theorem dX10_begin_51 : decode cX10_begin 51 = .ok (.return_, 1) := by decide +kernel
theorem dX10_passDay_0 : decode cX10_passDay 0 = .ok (.aload_n 1, 1) := by decide +kernel
theorem dX10_passDay_1 : decode cX10_passDay 1 = .ok (.invokevirtual 85, 3) := by decide +kernel
theorem dX10_passDay_4 : decode cX10_passDay 4 = .ok (.istore_n 2, 1) := by decide +kernel
theorem dX10_passDay_5 : decode cX10_passDay 5 = .ok (.aload_n 0, 1) := by decide +kernel
theorem dX10_passDay_6 : decode cX10_passDay 6 = .ok (.dup, 1) := by decide +kernel
theorem dX10_passDay_7 : decode cX10_passDay 7 = .ok (.getfield 58, 3) := by decide +kernel
theorem dX10_passDay_10 : decode cX10_passDay 10 = .ok (.iload_n 2, 1) := by decide +kernel
theorem dX10_passDay_11 : decode cX10_passDay 11 = .ok (.i2l, 1) := by decide +kernel
theorem dX10_passDay_12 : decode cX10_passDay 12 = .ok (.lmul, 1) := by decide +kernel
theorem dX10_passDay_13 : decode cX10_passDay 13 = .ok (.putfield 58, 3) := by decide +kernel
theorem dX10_passDay_16 : decode cX10_passDay 16 = .ok (.aload_n 0, 1) := by decide +kernel
theorem dX10_passDay_17 : decode cX10_passDay 17 = .ok (.dup, 1) := by decide +kernel
theorem dX10_passDay_18 : decode cX10_passDay 18 = .ok (.getfield 72, 3) := by decide +kernel
theorem dX10_passDay_21 : decode cX10_passDay 21 = .ok (.iload_n 2, 1) := by decide +kernel
theorem dX10_passDay_22 : decode cX10_passDay 22 = .ok (.i2l, 1) := by decide +kernel
theorem dX10_passDay_23 : decode cX10_passDay 23 = .ok (.lmul, 1) := by decide +kernel
theorem dX10_passDay_24 : decode cX10_passDay 24 = .ok (.putfield 72, 3) := by decide +kernel
theorem dX10_passDay_27 : decode cX10_passDay 27 = .ok (.aload_n 0, 1) := by decide +kernel
theorem dX10_passDay_28 : decode cX10_passDay 28 = .ok (.dup, 1) := by decide +kernel
theorem dX10_passDay_29 : decode cX10_passDay 29 = .ok (.getfield 75, 3) := by decide +kernel
theorem dX10_passDay_32 : decode cX10_passDay 32 = .ok (.iload_n 2, 1) := by decide +kernel
theorem dX10_passDay_33 : decode cX10_passDay 33 = .ok (.i2l, 1) := by decide +kernel
theorem dX10_passDay_34 : decode cX10_passDay 34 = .ok (.lmul, 1) := by decide +kernel
theorem dX10_passDay_35 : decode cX10_passDay 35 = .ok (.putfield 75, 3) := by decide +kernel
theorem dX10_passDay_38 : decode cX10_passDay 38 = .ok (.iconst 0, 1) := by decide +kernel
theorem dX10_passDay_39 : decode cX10_passDay 39 = .ok (.istore_n 3, 1) := by decide +kernel
theorem dX10_passDay_40 : decode cX10_passDay 40 = .ok (.iload_n 3, 1) := by decide +kernel
theorem dX10_passDay_41 : decode cX10_passDay 41 = .ok (.aload_n 0, 1) := by decide +kernel
theorem dX10_passDay_42 : decode cX10_passDay 42 = .ok (.getfield 23, 3) := by decide +kernel
theorem dX10_passDay_45 : decode cX10_passDay 45 = .ok (.invokevirtual 90, 3) := by decide +kernel
theorem dX10_passDay_48 : decode cX10_passDay 48 = .ok (.if_icmp .ge 23, 3) := by decide +kernel
theorem dX10_passDay_51 : decode cX10_passDay 51 = .ok (.aload_n 0, 1) := by decide +kernel
theorem dX10_passDay_52 : decode cX10_passDay 52 = .ok (.aload_n 0, 1) := by decide +kernel
theorem dX10_passDay_53 : decode cX10_passDay 53 = .ok (.getfield 23, 3) := by decide +kernel
theorem dX10_passDay_56 : decode cX10_passDay 56 = .ok (.iload_n 3, 1) := by decide +kernel
theorem dX10_passDay_57 : decode cX10_passDay 57 = .ok (.invokevirtual 93, 3) := by decide +kernel
theorem dX10_passDay_60 : decode cX10_passDay 60 = .ok (.aload_n 1, 1) := by decide +kernel
theorem dX10_passDay_61 : decode cX10_passDay 61 = .ok (.iload_n 2, 1) := by decide +kernel
theorem dX10_passDay_62 : decode cX10_passDay 62 = .ok (.invokevirtual 96, 3) := by decide +kernel
theorem dX10_passDay_65 : decode cX10_passDay 65 = .ok (.iinc 3 1, 3) := by decide +kernel
theorem dX10_passDay_68 : decode cX10_passDay 68 = .ok (.goto (-28), 3) := by decide +kernel
theorem dX10_passDay_71 : decode cX10_passDay 71 = .ok (.aload_n 0, 1) := by decide +kernel
theorem dX10_passDay_72 : decode cX10_passDay 72 = .ok (.getfield 23, 3) := by decide +kernel
theorem dX10_passDay_75 : decode cX10_passDay 75 = .ok (.invokevirtual 100, 3) := by decide +kernel
theorem dX10_passDay_78 : decode cX10_passDay 78 = .ok (.return_, 1) := by decide +kernel
theorem dX10_passFrom_0 : decode cX10_passFrom 0 = .ok (.iload_n 1, 1) := by decide +kernel
theorem dX10_passFrom_1 : decode cX10_passFrom 1 = .ok (.bipush 37, 2) := by decide +kernel
theorem dX10_passFrom_3 : decode cX10_passFrom 3 = .ok (.irem, 1) := by decide +kernel
theorem dX10_passFrom_4 : decode cX10_passFrom 4 = .ok (.bipush (-12), 2) := by decide +kernel
theorem dX10_passFrom_6 : decode cX10_passFrom 6 = .ok (.iadd, 1) := by decide +kernel
theorem dX10_passFrom_7 : decode cX10_passFrom 7 = .ok (.istore 4, 2) := by decide +kernel
theorem dX10_passFrom_9 : decode cX10_passFrom 9 = .ok (.iload_n 1, 1) := by decide +kernel
theorem dX10_passFrom_10 : decode cX10_passFrom 10 = .ok (.bipush 37, 2) := by decide +kernel
theorem dX10_passFrom_12 : decode cX10_passFrom 12 = .ok (.idiv, 1) := by decide +kernel
theorem dX10_passFrom_13 : decode cX10_passFrom 13 = .ok (.istore 5, 2) := by decide +kernel
theorem dX10_passFrom_15 : decode cX10_passFrom 15 = .ok (.aload_n 0, 1) := by decide +kernel
theorem dX10_passFrom_16 : decode cX10_passFrom 16 = .ok (.iload 4, 2) := by decide +kernel
theorem dX10_passFrom_18 : decode cX10_passFrom 18 = .ok (.iload 5, 2) := by decide +kernel
theorem dX10_passFrom_20 : decode cX10_passFrom 20 = .ok (.iadd, 1) := by decide +kernel
theorem dX10_passFrom_21 : decode cX10_passFrom 21 = .ok (.invokevirtual 103, 3) := by decide +kernel
theorem dX10_passFrom_24 : decode cX10_passFrom 24 = .ok (.istore 6, 2) := by decide +kernel
theorem dX10_passFrom_26 : decode cX10_passFrom 26 = .ok (.aload_n 0, 1) := by decide +kernel
theorem dX10_passFrom_27 : decode cX10_passFrom 27 = .ok (.getfield 19, 3) := by decide +kernel
theorem dX10_passFrom_30 : decode cX10_passFrom 30 = .ok (.iload 4, 2) := by decide +kernel
theorem dX10_passFrom_32 : decode cX10_passFrom 32 = .ok (.aload_n 0, 1) := by decide +kernel
theorem dX10_passFrom_33 : decode cX10_passFrom 33 = .ok (.getfield 19, 3) := by decide +kernel
theorem dX10_passFrom_36 : decode cX10_passFrom 36 = .ok (.getfield 106, 3) := by decide +kernel
theorem dX10_passFrom_39 : decode cX10_passFrom 39 = .ok (.ifCond .ne 8, 3) := by decide +kernel
theorem dX10_passFrom_42 : decode cX10_passFrom 42 = .ok (.iload 6, 2) := by decide +kernel
theorem dX10_passFrom_44 : decode cX10_passFrom 44 = .ok (.goto 4, 3) := by decide +kernel
theorem dX10_passFrom_47 : decode cX10_passFrom 47 = .ok (.iconst 0, 1) := by decide +kernel
theorem dX10_passFrom_48 : decode cX10_passFrom 48 = .ok (.invokevirtual 112, 3) := by decide +kernel
theorem dX10_passFrom_51 : decode cX10_passFrom 51 = .ok (.istore 7, 2) := by decide +kernel
theorem dX10_passFrom_53 : decode cX10_passFrom 53 = .ok (.aload_n 0, 1) := by decide +kernel
theorem dX10_passFrom_54 : decode cX10_passFrom 54 = .ok (.getfield 23, 3) := by decide +kernel
theorem dX10_passFrom_57 : decode cX10_passFrom 57 = .ok (.iload_n 1, 1) := by decide +kernel
theorem dX10_passFrom_58 : decode cX10_passFrom 58 = .ok (.invokevirtual 115, 3) := by decide +kernel
theorem dX10_passFrom_61 : decode cX10_passFrom 61 = .ok (.lstore 8, 2) := by decide +kernel
theorem dX10_passFrom_63 : decode cX10_passFrom 63 = .ok (.aload_n 0, 1) := by decide +kernel
theorem dX10_passFrom_64 : decode cX10_passFrom 64 = .ok (.dup, 1) := by decide +kernel
theorem dX10_passFrom_65 : decode cX10_passFrom 65 = .ok (.getfield 58, 3) := by decide +kernel
theorem dX10_passFrom_68 : decode cX10_passFrom 68 = .ok (.lload 8, 2) := by decide +kernel
theorem dX10_passFrom_70 : decode cX10_passFrom 70 = .ok (.iload_n 3, 1) := by decide +kernel
theorem dX10_passFrom_71 : decode cX10_passFrom 71 = .ok (.aload_n 0, 1) := by decide +kernel
theorem dX10_passFrom_72 : decode cX10_passFrom 72 = .ok (.getfield 19, 3) := by decide +kernel
theorem dX10_passFrom_75 : decode cX10_passFrom 75 = .ok (.iload 6, 2) := by decide +kernel
theorem dX10_passFrom_77 : decode cX10_passFrom 77 = .ok (.invokevirtual 119, 3) := by decide +kernel
theorem dX10_passFrom_80 : decode cX10_passFrom 80 = .ok (.imul, 1) := by decide +kernel
theorem dX10_passFrom_81 : decode cX10_passFrom 81 = .ok (.aload_n 0, 1) := by decide +kernel
theorem dX10_passFrom_82 : decode cX10_passFrom 82 = .ok (.getfield 19, 3) := by decide +kernel
theorem dX10_passFrom_85 : decode cX10_passFrom 85 = .ok (.iload 7, 2) := by decide +kernel
theorem dX10_passFrom_87 : decode cX10_passFrom 87 = .ok (.invokevirtual 122, 3) := by decide +kernel
theorem dX10_passFrom_90 : decode cX10_passFrom 90 = .ok (.iadd, 1) := by decide +kernel
theorem dX10_passFrom_91 : decode cX10_passFrom 91 = .ok (.i2l, 1) := by decide +kernel
theorem dX10_passFrom_92 : decode cX10_passFrom 92 = .ok (.lmul, 1) := by decide +kernel
theorem dX10_passFrom_93 : decode cX10_passFrom 93 = .ok (.ladd, 1) := by decide +kernel
theorem dX10_passFrom_94 : decode cX10_passFrom 94 = .ok (.putfield 58, 3) := by decide +kernel
theorem dX10_passFrom_97 : decode cX10_passFrom 97 = .ok (.aload_n 0, 1) := by decide +kernel
theorem dX10_passFrom_98 : decode cX10_passFrom 98 = .ok (.dup, 1) := by decide +kernel
theorem dX10_passFrom_99 : decode cX10_passFrom 99 = .ok (.getfield 72, 3) := by decide +kernel
theorem dX10_passFrom_102 : decode cX10_passFrom 102 = .ok (.lload 8, 2) := by decide +kernel
theorem dX10_passFrom_104 : decode cX10_passFrom 104 = .ok (.aload_n 0, 1) := by decide +kernel
theorem dX10_passFrom_105 : decode cX10_passFrom 105 = .ok (.getfield 19, 3) := by decide +kernel
theorem dX10_passFrom_108 : decode cX10_passFrom 108 = .ok (.iload 7, 2) := by decide +kernel
theorem dX10_passFrom_110 : decode cX10_passFrom 110 = .ok (.invokevirtual 125, 3) := by decide +kernel
theorem dX10_passFrom_113 : decode cX10_passFrom 113 = .ok (.i2l, 1) := by decide +kernel
theorem dX10_passFrom_114 : decode cX10_passFrom 114 = .ok (.lmul, 1) := by decide +kernel
theorem dX10_passFrom_115 : decode cX10_passFrom 115 = .ok (.ladd, 1) := by decide +kernel
theorem dX10_passFrom_116 : decode cX10_passFrom 116 = .ok (.putfield 72, 3) := by decide +kernel
theorem dX10_passFrom_119 : decode cX10_passFrom 119 = .ok (.aload_n 0, 1) := by decide +kernel
theorem dX10_passFrom_120 : decode cX10_passFrom 120 = .ok (.dup, 1) := by decide +kernel
theorem dX10_passFrom_121 : decode cX10_passFrom 121 = .ok (.getfield 75, 3) := by decide +kernel
theorem dX10_passFrom_124 : decode cX10_passFrom 124 = .ok (.lload 8, 2) := by decide +kernel
theorem dX10_passFrom_126 : decode cX10_passFrom 126 = .ok (.aload_n 0, 1) := by decide +kernel
theorem dX10_passFrom_127 : decode cX10_passFrom 127 = .ok (.getfield 19, 3) := by decide +kernel
theorem dX10_passFrom_130 : decode cX10_passFrom 130 = .ok (.iload 7, 2) := by decide +kernel
theorem dX10_passFrom_132 : decode cX10_passFrom 132 = .ok (.invokevirtual 128, 3) := by decide +kernel
theorem dX10_passFrom_135 : decode cX10_passFrom 135 = .ok (.i2l, 1) := by decide +kernel
theorem dX10_passFrom_136 : decode cX10_passFrom 136 = .ok (.lmul, 1) := by decide +kernel
theorem dX10_passFrom_137 : decode cX10_passFrom 137 = .ok (.ladd, 1) := by decide +kernel
theorem dX10_passFrom_138 : decode cX10_passFrom 138 = .ok (.putfield 75, 3) := by decide +kernel
theorem dX10_passFrom_141 : decode cX10_passFrom 141 = .ok (.aload_n 0, 1) := by decide +kernel
theorem dX10_passFrom_142 : decode cX10_passFrom 142 = .ok (.getfield 19, 3) := by decide +kernel
theorem dX10_passFrom_145 : decode cX10_passFrom 145 = .ok (.getfield 106, 3) := by decide +kernel
theorem dX10_passFrom_148 : decode cX10_passFrom 148 = .ok (.iconst 2, 1) := by decide +kernel
theorem dX10_passFrom_149 : decode cX10_passFrom 149 = .ok (.if_icmp .ne 8, 3) := by decide +kernel
theorem dX10_passFrom_152 : decode cX10_passFrom 152 = .ok (.iload 5, 2) := by decide +kernel
theorem dX10_passFrom_154 : decode cX10_passFrom 154 = .ok (.goto 20, 3) := by decide +kernel
theorem dX10_passFrom_157 : decode cX10_passFrom 157 = .ok (.aload_n 0, 1) := by decide +kernel
theorem dX10_passFrom_158 : decode cX10_passFrom 158 = .ok (.getfield 19, 3) := by decide +kernel
theorem dX10_passFrom_161 : decode cX10_passFrom 161 = .ok (.getfield 106, 3) := by decide +kernel
theorem dX10_passFrom_164 : decode cX10_passFrom 164 = .ok (.iconst 1, 1) := by decide +kernel
theorem dX10_passFrom_165 : decode cX10_passFrom 165 = .ok (.if_icmp .ne 8, 3) := by decide +kernel
theorem dX10_passFrom_168 : decode cX10_passFrom 168 = .ok (.iload 6, 2) := by decide +kernel
theorem dX10_passFrom_170 : decode cX10_passFrom 170 = .ok (.goto 4, 3) := by decide +kernel
theorem dX10_passFrom_173 : decode cX10_passFrom 173 = .ok (.iconst 0, 1) := by decide +kernel
theorem dX10_passFrom_174 : decode cX10_passFrom 174 = .ok (.istore 10, 2) := by decide +kernel
theorem dX10_passFrom_176 : decode cX10_passFrom 176 = .ok (.aload_n 0, 1) := by decide +kernel
theorem dX10_passFrom_177 : decode cX10_passFrom 177 = .ok (.getfield 19, 3) := by decide +kernel
theorem dX10_passFrom_180 : decode cX10_passFrom 180 = .ok (.getfield 106, 3) := by decide +kernel
theorem dX10_passFrom_183 : decode cX10_passFrom 183 = .ok (.iconst 2, 1) := by decide +kernel
theorem dX10_passFrom_184 : decode cX10_passFrom 184 = .ok (.if_icmp .ne 8, 3) := by decide +kernel
theorem dX10_passFrom_187 : decode cX10_passFrom 187 = .ok (.iload 6, 2) := by decide +kernel
theorem dX10_passFrom_189 : decode cX10_passFrom 189 = .ok (.goto 4, 3) := by decide +kernel
theorem dX10_passFrom_192 : decode cX10_passFrom 192 = .ok (.iconst 0, 1) := by decide +kernel
theorem dX10_passFrom_193 : decode cX10_passFrom 193 = .ok (.istore 11, 2) := by decide +kernel
theorem dX10_passFrom_195 : decode cX10_passFrom 195 = .ok (.aload_n 0, 1) := by decide +kernel
theorem dX10_passFrom_196 : decode cX10_passFrom 196 = .ok (.getfield 46, 3) := by decide +kernel
theorem dX10_passFrom_199 : decode cX10_passFrom 199 = .ok (.ifCond .eq 17, 3) := by decide +kernel
theorem dX10_passFrom_202 : decode cX10_passFrom 202 = .ok (.iload 7, 2) := by decide +kernel
theorem dX10_passFrom_204 : decode cX10_passFrom 204 = .ok (.iconst 0, 1) := by decide +kernel
theorem dX10_passFrom_205 : decode cX10_passFrom 205 = .ok (.invokestatic 131, 3) := by decide +kernel
theorem dX10_passFrom_208 : decode cX10_passFrom 208 = .ok (.bipush 6, 2) := by decide +kernel
theorem dX10_passFrom_210 : decode cX10_passFrom 210 = .ok (.invokestatic 136, 3) := by decide +kernel
theorem dX10_passFrom_213 : decode cX10_passFrom 213 = .ok (.goto 5, 3) := by decide +kernel
theorem dX10_passFrom_216 : decode cX10_passFrom 216 = .ok (.bipush 6, 2) := by decide +kernel
theorem dX10_passFrom_218 : decode cX10_passFrom 218 = .ok (.istore 12, 2) := by decide +kernel
theorem dX10_passFrom_220 : decode cX10_passFrom 220 = .ok (.iconst 0, 1) := by decide +kernel
theorem dX10_passFrom_221 : decode cX10_passFrom 221 = .ok (.istore 13, 2) := by decide +kernel
theorem dX10_passFrom_223 : decode cX10_passFrom 223 = .ok (.iload 13, 2) := by decide +kernel
theorem dX10_passFrom_225 : decode cX10_passFrom 225 = .ok (.iload 12, 2) := by decide +kernel
theorem dX10_passFrom_227 : decode cX10_passFrom 227 = .ok (.if_icmp .gt 49, 3) := by decide +kernel
theorem dX10_passFrom_230 : decode cX10_passFrom 230 = .ok (.aload_n 0, 1) := by decide +kernel
theorem dX10_passFrom_231 : decode cX10_passFrom 231 = .ok (.getfield 19, 3) := by decide +kernel
theorem dX10_passFrom_234 : decode cX10_passFrom 234 = .ok (.iload 7, 2) := by decide +kernel
theorem dX10_passFrom_236 : decode cX10_passFrom 236 = .ok (.iload 13, 2) := by decide +kernel
theorem dX10_passFrom_238 : decode cX10_passFrom 238 = .ok (.invokevirtual 139, 3) := by decide +kernel
theorem dX10_passFrom_241 : decode cX10_passFrom 241 = .ok (.istore 14, 2) := by decide +kernel
theorem dX10_passFrom_243 : decode cX10_passFrom 243 = .ok (.aload_n 0, 1) := by decide +kernel
theorem dX10_passFrom_244 : decode cX10_passFrom 244 = .ok (.getfield 23, 3) := by decide +kernel
theorem dX10_passFrom_247 : decode cX10_passFrom 247 = .ok (.iload 14, 2) := by decide +kernel
theorem dX10_passFrom_249 : decode cX10_passFrom 249 = .ok (.iload 10, 2) := by decide +kernel
theorem dX10_passFrom_251 : decode cX10_passFrom 251 = .ok (.iadd, 1) := by decide +kernel
theorem dX10_passFrom_252 : decode cX10_passFrom 252 = .ok (.iload 11, 2) := by decide +kernel
theorem dX10_passFrom_254 : decode cX10_passFrom 254 = .ok (.invokestatic 78, 3) := by decide +kernel
theorem dX10_passFrom_257 : decode cX10_passFrom 257 = .ok (.lload 8, 2) := by decide +kernel
theorem dX10_passFrom_259 : decode cX10_passFrom 259 = .ok (.aload_n 2, 1) := by decide +kernel
theorem dX10_passFrom_260 : decode cX10_passFrom 260 = .ok (.iload 13, 2) := by decide +kernel
theorem dX10_passFrom_262 : decode cX10_passFrom 262 = .ok (.invokevirtual 142, 3) := by decide +kernel
theorem dX10_passFrom_265 : decode cX10_passFrom 265 = .ok (.i2l, 1) := by decide +kernel
theorem dX10_passFrom_266 : decode cX10_passFrom 266 = .ok (.lmul, 1) := by decide +kernel
theorem dX10_passFrom_267 : decode cX10_passFrom 267 = .ok (.invokevirtual 145, 3) := by decide +kernel
theorem dX10_passFrom_270 : decode cX10_passFrom 270 = .ok (.iinc 13 1, 3) := by decide +kernel
theorem dX10_passFrom_273 : decode cX10_passFrom 273 = .ok (.goto (-50), 3) := by decide +kernel
theorem dX10_passFrom_276 : decode cX10_passFrom 276 = .ok (.return_, 1) := by decide +kernel
theorem dX10_orderAt_0 : decode cX10_orderAt 0 = .ok (.iload_n 1, 1) := by decide +kernel
theorem dX10_orderAt_1 : decode cX10_orderAt 1 = .ok (.invokestatic 42, 3) := by decide +kernel
theorem dX10_orderAt_4 : decode cX10_orderAt 4 = .ok (.ifCond .ne 5, 3) := by decide +kernel
theorem dX10_orderAt_7 : decode cX10_orderAt 7 = .ok (.iconst 0, 1) := by decide +kernel
theorem dX10_orderAt_8 : decode cX10_orderAt 8 = .ok (.ireturn, 1) := by decide +kernel
theorem dX10_orderAt_9 : decode cX10_orderAt 9 = .ok (.aload_n 0, 1) := by decide +kernel
theorem dX10_orderAt_10 : decode cX10_orderAt 10 = .ok (.getfield 15, 3) := by decide +kernel
theorem dX10_orderAt_13 : decode cX10_orderAt 13 = .ok (.iload_n 1, 1) := by decide +kernel
theorem dX10_orderAt_14 : decode cX10_orderAt 14 = .ok (.bipush (-12), 2) := by decide +kernel
theorem dX10_orderAt_16 : decode cX10_orderAt 16 = .ok (.isub, 1) := by decide +kernel
theorem dX10_orderAt_17 : decode cX10_orderAt 17 = .ok (.iconst 1, 1) := by decide +kernel
theorem dX10_orderAt_18 : decode cX10_orderAt 18 = .ok (.bastore, 1) := by decide +kernel
theorem dX10_orderAt_19 : decode cX10_orderAt 19 = .ok (.aload_n 0, 1) := by decide +kernel
theorem dX10_orderAt_20 : decode cX10_orderAt 20 = .ok (.getfield 9, 3) := by decide +kernel
theorem dX10_orderAt_23 : decode cX10_orderAt 23 = .ok (.iload_n 1, 1) := by decide +kernel
theorem dX10_orderAt_24 : decode cX10_orderAt 24 = .ok (.bipush (-12), 2) := by decide +kernel
theorem dX10_orderAt_26 : decode cX10_orderAt 26 = .ok (.isub, 1) := by decide +kernel
theorem dX10_orderAt_27 : decode cX10_orderAt 27 = .ok (.iaload, 1) := by decide +kernel
theorem dX10_orderAt_28 : decode cX10_orderAt 28 = .ok (.ireturn, 1) := by decide +kernel
theorem dX10_placeOf_0 : decode cX10_placeOf 0 = .ok (.iload_n 1, 1) := by decide +kernel
theorem dX10_placeOf_1 : decode cX10_placeOf 1 = .ok (.bipush 37, 2) := by decide +kernel
theorem dX10_placeOf_3 : decode cX10_placeOf 3 = .ok (.imul, 1) := by decide +kernel
theorem dX10_placeOf_4 : decode cX10_placeOf 4 = .ok (.iload_n 0, 1) := by decide +kernel
theorem dX10_placeOf_5 : decode cX10_placeOf 5 = .ok (.iadd, 1) := by decide +kernel
theorem dX10_placeOf_6 : decode cX10_placeOf 6 = .ok (.bipush (-12), 2) := by decide +kernel
theorem dX10_placeOf_8 : decode cX10_placeOf 8 = .ok (.isub, 1) := by decide +kernel
theorem dX10_placeOf_9 : decode cX10_placeOf 9 = .ok (.ireturn, 1) := by decide +kernel
end
section
theorem dX11_init_0 : decode cX11_init 0 = .ok (.aload_n 0, 1) := by decide +kernel
theorem dX11_init_1 : decode cX11_init 1 = .ok (.invokespecial 3, 3) := by decide +kernel
theorem dX11_init_4 : decode cX11_init 4 = .ok (.aload_n 0, 1) := by decide +kernel
theorem dX11_init_5 : decode cX11_init 5 = .ok (.iconst 4, 1) := by decide +kernel
theorem dX11_init_6 : decode cX11_init 6 = .ok (.anewarray 9, 3) := by decide +kernel
theorem dX11_init_9 : decode cX11_init 9 = .ok (.putfield 11, 3) := by decide +kernel
theorem dX11_init_12 : decode cX11_init 12 = .ok (.aload_n 0, 1) := by decide +kernel
theorem dX11_init_13 : decode cX11_init 13 = .ok (.iconst 4, 1) := by decide +kernel
theorem dX11_init_14 : decode cX11_init 14 = .ok (.bipush 25, 2) := by decide +kernel
theorem dX11_init_16 : decode cX11_init 16 = .ok (.multianewarray 15 2, 4) := by decide +kernel
theorem dX11_init_20 : decode cX11_init 20 = .ok (.putfield 17, 3) := by decide +kernel
theorem dX11_init_23 : decode cX11_init 23 = .ok (.aload_n 0, 1) := by decide +kernel
theorem dX11_init_24 : decode cX11_init 24 = .ok (.iconst 4, 1) := by decide +kernel
theorem dX11_init_25 : decode cX11_init 25 = .ok (.newarray .int, 2) := by decide +kernel
theorem dX11_init_27 : decode cX11_init 27 = .ok (.putfield 20, 3) := by decide +kernel
theorem dX11_init_30 : decode cX11_init 30 = .ok (.aload_n 0, 1) := by decide +kernel
theorem dX11_init_31 : decode cX11_init 31 = .ok (.bipush 12, 2) := by decide +kernel
theorem dX11_init_33 : decode cX11_init 33 = .ok (.anewarray 24, 3) := by decide +kernel
theorem dX11_init_36 : decode cX11_init 36 = .ok (.putfield 26, 3) := by decide +kernel
theorem dX11_init_39 : decode cX11_init 39 = .ok (.aload_n 0, 1) := by decide +kernel
theorem dX11_init_40 : decode cX11_init 40 = .ok (.new 30, 3) := by decide +kernel
theorem dX11_init_43 : decode cX11_init 43 = .ok (.dup, 1) := by decide +kernel
theorem dX11_init_44 : decode cX11_init 44 = .ok (.invokespecial 32, 3) := by decide +kernel
theorem dX11_init_47 : decode cX11_init 47 = .ok (.putfield 33, 3) := by decide +kernel
theorem dX11_init_50 : decode cX11_init 50 = .ok (.aload_n 0, 1) := by decide +kernel
theorem dX11_init_51 : decode cX11_init 51 = .ok (.bipush 6, 2) := by decide +kernel
theorem dX11_init_53 : decode cX11_init 53 = .ok (.newarray .int, 2) := by decide +kernel
theorem dX11_init_55 : decode cX11_init 55 = .ok (.putfield 37, 3) := by decide +kernel
theorem dX11_init_58 : decode cX11_init 58 = .ok (.aload_n 0, 1) := by decide +kernel
theorem dX11_init_59 : decode cX11_init 59 = .ok (.lconst 0, 1) := by decide +kernel
theorem dX11_init_60 : decode cX11_init 60 = .ok (.putfield 40, 3) := by decide +kernel
theorem dX11_init_63 : decode cX11_init 63 = .ok (.aload_n 0, 1) := by decide +kernel
theorem dX11_init_64 : decode cX11_init 64 = .ok (.lconst 1, 1) := by decide +kernel
theorem dX11_init_65 : decode cX11_init 65 = .ok (.putfield 44, 3) := by decide +kernel
theorem dX11_init_68 : decode cX11_init 68 = .ok (.aload_n 0, 1) := by decide +kernel
theorem dX11_init_69 : decode cX11_init 69 = .ok (.bipush 6, 2) := by decide +kernel
theorem dX11_init_71 : decode cX11_init 71 = .ok (.newarray .int, 2) := by decide +kernel
theorem dX11_init_73 : decode cX11_init 73 = .ok (.putfield 47, 3) := by decide +kernel
theorem dX11_init_76 : decode cX11_init 76 = .ok (.iconst 0, 1) := by decide +kernel
theorem dX11_init_77 : decode cX11_init 77 = .ok (.istore_n 1, 1) := by decide +kernel
theorem dX11_init_78 : decode cX11_init 78 = .ok (.iload_n 1, 1) := by decide +kernel
theorem dX11_init_79 : decode cX11_init 79 = .ok (.aload_n 0, 1) := by decide +kernel
theorem dX11_init_80 : decode cX11_init 80 = .ok (.getfield 11, 3) := by decide +kernel
theorem dX11_init_83 : decode cX11_init 83 = .ok (.arraylength, 1) := by decide +kernel
theorem dX11_init_84 : decode cX11_init 84 = .ok (.if_icmp .ge 22, 3) := by decide +kernel
theorem dX11_init_87 : decode cX11_init 87 = .ok (.aload_n 0, 1) := by decide +kernel
theorem dX11_init_88 : decode cX11_init 88 = .ok (.getfield 11, 3) := by decide +kernel
theorem dX11_init_91 : decode cX11_init 91 = .ok (.iload_n 1, 1) := by decide +kernel
theorem dX11_init_92 : decode cX11_init 92 = .ok (.new 9, 3) := by decide +kernel
theorem dX11_init_95 : decode cX11_init 95 = .ok (.dup, 1) := by decide +kernel
theorem dX11_init_96 : decode cX11_init 96 = .ok (.invokespecial 50, 3) := by decide +kernel
theorem dX11_init_99 : decode cX11_init 99 = .ok (.aastore, 1) := by decide +kernel
theorem dX11_init_100 : decode cX11_init 100 = .ok (.iinc 1 1, 3) := by decide +kernel
theorem dX11_init_103 : decode cX11_init 103 = .ok (.goto (-25), 3) := by decide +kernel
theorem dX11_init_106 : decode cX11_init 106 = .ok (.iconst 0, 1) := by decide +kernel
theorem dX11_init_107 : decode cX11_init 107 = .ok (.istore_n 1, 1) := by decide +kernel
theorem dX11_init_108 : decode cX11_init 108 = .ok (.iload_n 1, 1) := by decide +kernel
theorem dX11_init_109 : decode cX11_init 109 = .ok (.aload_n 0, 1) := by decide +kernel
theorem dX11_init_110 : decode cX11_init 110 = .ok (.getfield 20, 3) := by decide +kernel
theorem dX11_init_113 : decode cX11_init 113 = .ok (.arraylength, 1) := by decide +kernel
theorem dX11_init_114 : decode cX11_init 114 = .ok (.if_icmp .ge 16, 3) := by decide +kernel
theorem dX11_init_117 : decode cX11_init 117 = .ok (.aload_n 0, 1) := by decide +kernel
theorem dX11_init_118 : decode cX11_init 118 = .ok (.getfield 20, 3) := by decide +kernel
theorem dX11_init_121 : decode cX11_init 121 = .ok (.iload_n 1, 1) := by decide +kernel
theorem dX11_init_122 : decode cX11_init 122 = .ok (.iconst (-1), 1) := by decide +kernel
theorem dX11_init_123 : decode cX11_init 123 = .ok (.iastore, 1) := by decide +kernel
theorem dX11_init_124 : decode cX11_init 124 = .ok (.iinc 1 1, 3) := by decide +kernel
theorem dX11_init_127 : decode cX11_init 127 = .ok (.goto (-19), 3) := by decide +kernel
theorem dX11_init_130 : decode cX11_init 130 = .ok (.new 51, 3) := by decide +kernel
theorem dX11_init_133 : decode cX11_init 133 = .ok (.dup, 1) := by decide +kernel
theorem dX11_init_134 : decode cX11_init 134 = .ok (.invokespecial 53, 3) := by decide +kernel
theorem dX11_init_137 : decode cX11_init 137 = .ok (.astore_n 1, 1) := by decide +kernel
theorem dX11_init_138 : decode cX11_init 138 = .ok (.aload_n 0, 1) := by decide +kernel
theorem dX11_init_139 : decode cX11_init 139 = .ok (.new 54, 3) := by decide +kernel
theorem dX11_init_142 : decode cX11_init 142 = .ok (.dup, 1) := by decide +kernel
theorem dX11_init_143 : decode cX11_init 143 = .ok (.aload_n 0, 1) := by decide +kernel
theorem dX11_init_144 : decode cX11_init 144 = .ok (.getfield 33, 3) := by decide +kernel
theorem dX11_init_147 : decode cX11_init 147 = .ok (.aload_n 1, 1) := by decide +kernel
theorem dX11_init_148 : decode cX11_init 148 = .ok (.invokespecial 56, 3) := by decide +kernel
theorem dX11_init_151 : decode cX11_init 151 = .ok (.putfield 59, 3) := by decide +kernel
theorem dX11_init_154 : decode cX11_init 154 = .ok (.aload_n 0, 1) := by decide +kernel
theorem dX11_init_155 : decode cX11_init 155 = .ok (.new 63, 3) := by decide +kernel
theorem dX11_init_158 : decode cX11_init 158 = .ok (.dup, 1) := by decide +kernel
theorem dX11_init_159 : decode cX11_init 159 = .ok (.aload_n 0, 1) := by decide +kernel
theorem dX11_init_160 : decode cX11_init 160 = .ok (.getfield 33, 3) := by decide +kernel
theorem dX11_init_163 : decode cX11_init 163 = .ok (.invokespecial 65, 3) := by decide +kernel
theorem dX11_init_166 : decode cX11_init 166 = .ok (.putfield 68, 3) := by decide +kernel
theorem dX11_init_169 : decode cX11_init 169 = .ok (.aload_n 0, 1) := by decide +kernel
theorem dX11_init_170 : decode cX11_init 170 = .ok (.new 72, 3) := by decide +kernel
theorem dX11_init_173 : decode cX11_init 173 = .ok (.dup, 1) := by decide +kernel
theorem dX11_init_174 : decode cX11_init 174 = .ok (.aload_n 1, 1) := by decide +kernel
theorem dX11_init_175 : decode cX11_init 175 = .ok (.invokespecial 74, 3) := by decide +kernel
theorem dX11_init_178 : decode cX11_init 178 = .ok (.putfield 77, 3) := by decide +kernel
theorem dX11_init_181 : decode cX11_init 181 = .ok (.return_, 1) := by decide +kernel
theorem dX11_book_0 : decode cX11_book 0 = .ok (.iload_n 1, 1) := by decide +kernel
theorem dX11_book_1 : decode cX11_book 1 = .ok (.invokestatic 81, 3) := by decide +kernel
theorem dX11_book_4 : decode cX11_book 4 = .ok (.ifCond .ne 5, 3) := by decide +kernel
theorem dX11_book_7 : decode cX11_book 7 = .ok (.iconst (-1), 1) := by decide +kernel
theorem dX11_book_8 : decode cX11_book 8 = .ok (.ireturn, 1) := by decide +kernel
theorem dX11_book_9 : decode cX11_book 9 = .ok (.aload_n 0, 1) := by decide +kernel
theorem dX11_book_10 : decode cX11_book 10 = .ok (.getfield 11, 3) := by decide +kernel
theorem dX11_book_13 : decode cX11_book 13 = .ok (.iload_n 1, 1) := by decide +kernel
theorem dX11_book_14 : decode cX11_book 14 = .ok (.aaload, 1) := by decide +kernel
theorem dX11_book_15 : decode cX11_book 15 = .ok (.getfield 85, 3) := by decide +kernel
theorem dX11_book_18 : decode cX11_book 18 = .ok (.istore_n 2, 1) := by decide +kernel
theorem dX11_book_19 : decode cX11_book 19 = .ok (.aload_n 0, 1) := by decide +kernel
theorem dX11_book_20 : decode cX11_book 20 = .ok (.getfield 11, 3) := by decide +kernel
theorem dX11_book_23 : decode cX11_book 23 = .ok (.iload_n 1, 1) := by decide +kernel
theorem dX11_book_24 : decode cX11_book 24 = .ok (.aaload, 1) := by decide +kernel
theorem dX11_book_25 : decode cX11_book 25 = .ok (.invokevirtual 89, 3) := by decide +kernel
theorem dX11_book_28 : decode cX11_book 28 = .ok (.iload_n 2, 1) := by decide +kernel
theorem dX11_book_29 : decode cX11_book 29 = .ok (.ifCond .eq 7, 3) := by decide +kernel
theorem dX11_book_32 : decode cX11_book 32 = .ok (.iconst 1, 1) := by decide +kernel
theorem dX11_book_33 : decode cX11_book 33 = .ok (.goto 4, 3) := by decide +kernel
theorem dX11_book_36 : decode cX11_book 36 = .ok (.iconst 0, 1) := by decide +kernel
theorem dX11_book_37 : decode cX11_book 37 = .ok (.ireturn, 1) := by decide +kernel
theorem dX11_weigh_0 : decode cX11_weigh 0 = .ok (.iload_n 1, 1) := by decide +kernel
theorem dX11_weigh_1 : decode cX11_weigh 1 = .ok (.invokestatic 81, 3) := by decide +kernel
theorem dX11_weigh_4 : decode cX11_weigh 4 = .ok (.ifCond .eq 13, 3) := by decide +kernel
theorem dX11_weigh_7 : decode cX11_weigh 7 = .ok (.iload_n 3, 1) := by decide +kernel
theorem dX11_weigh_8 : decode cX11_weigh 8 = .ok (.iconst 0, 1) := by decide +kernel
theorem dX11_weigh_9 : decode cX11_weigh 9 = .ok (.bipush 9, 2) := by decide +kernel
theorem dX11_weigh_11 : decode cX11_weigh 11 = .ok (.invokestatic 92, 3) := by decide +kernel
theorem dX11_weigh_14 : decode cX11_weigh 14 = .ok (.ifCond .ne 5, 3) := by decide +kernel
theorem dX11_weigh_17 : decode cX11_weigh 17 = .ok (.iconst (-1), 1) := by decide +kernel
theorem dX11_weigh_18 : decode cX11_weigh 18 = .ok (.ireturn, 1) := by decide +kernel
theorem dX11_weigh_19 : decode cX11_weigh 19 = .ok (.aload_n 0, 1) := by decide +kernel
theorem dX11_weigh_20 : decode cX11_weigh 20 = .ok (.getfield 11, 3) := by decide +kernel
theorem dX11_weigh_23 : decode cX11_weigh 23 = .ok (.iload_n 1, 1) := by decide +kernel
theorem dX11_weigh_24 : decode cX11_weigh 24 = .ok (.aaload, 1) := by decide +kernel
theorem dX11_weigh_25 : decode cX11_weigh 25 = .ok (.getfield 85, 3) := by decide +kernel
theorem dX11_weigh_28 : decode cX11_weigh 28 = .ok (.ifCond .ne 9, 3) := by decide +kernel
theorem dX11_weigh_31 : decode cX11_weigh 31 = .ok (.aload_n 0, 1) := by decide +kernel
theorem dX11_weigh_32 : decode cX11_weigh 32 = .ok (.iconst 1, 1) := by decide +kernel
theorem dX11_weigh_33 : decode cX11_weigh 33 = .ok (.invokevirtual 96, 3) := by decide +kernel
theorem dX11_weigh_36 : decode cX11_weigh 36 = .ok (.ireturn, 1) := by decide +kernel
theorem dX11_weigh_37 : decode cX11_weigh 37 = .ok (.iload_n 2, 1) := by decide +kernel
theorem dX11_weigh_38 : decode cX11_weigh 38 = .ok (.invokestatic 100, 3) := by decide +kernel
theorem dX11_weigh_41 : decode cX11_weigh 41 = .ok (.ifCond .ne 9, 3) := by decide +kernel
theorem dX11_weigh_44 : decode cX11_weigh 44 = .ok (.aload_n 0, 1) := by decide +kernel
theorem dX11_weigh_45 : decode cX11_weigh 45 = .ok (.iconst 2, 1) := by decide +kernel
theorem dX11_weigh_46 : decode cX11_weigh 46 = .ok (.invokevirtual 96, 3) := by decide +kernel
theorem dX11_weigh_49 : decode cX11_weigh 49 = .ok (.ireturn, 1) := by decide +kernel
theorem dX11_weigh_50 : decode cX11_weigh 50 = .ok (.aload_n 0, 1) := by decide +kernel
theorem dX11_weigh_51 : decode cX11_weigh 51 = .ok (.getfield 11, 3) := by decide +kernel
theorem dX11_weigh_54 : decode cX11_weigh 54 = .ok (.iload_n 1, 1) := by decide +kernel
theorem dX11_weigh_55 : decode cX11_weigh 55 = .ok (.aaload, 1) := by decide +kernel
theorem dX11_weigh_56 : decode cX11_weigh 56 = .ok (.getfield 103, 3) := by decide +kernel
theorem dX11_weigh_59 : decode cX11_weigh 59 = .ok (.iload_n 2, 1) := by decide +kernel
theorem dX11_weigh_60 : decode cX11_weigh 60 = .ok (.iaload, 1) := by decide +kernel
theorem dX11_weigh_61 : decode cX11_weigh 61 = .ok (.istore 4, 2) := by decide +kernel
theorem dX11_weigh_63 : decode cX11_weigh 63 = .ok (.aload_n 0, 1) := by decide +kernel
theorem dX11_weigh_64 : decode cX11_weigh 64 = .ok (.getfield 11, 3) := by decide +kernel
theorem dX11_weigh_67 : decode cX11_weigh 67 = .ok (.iload_n 1, 1) := by decide +kernel
theorem dX11_weigh_68 : decode cX11_weigh 68 = .ok (.aaload, 1) := by decide +kernel
theorem dX11_weigh_69 : decode cX11_weigh 69 = .ok (.getfield 103, 3) := by decide +kernel
theorem dX11_weigh_72 : decode cX11_weigh 72 = .ok (.iload_n 2, 1) := by decide +kernel
theorem dX11_weigh_73 : decode cX11_weigh 73 = .ok (.iload_n 3, 1) := by decide +kernel
theorem dX11_weigh_74 : decode cX11_weigh 74 = .ok (.iastore, 1) := by decide +kernel
theorem dX11_weigh_75 : decode cX11_weigh 75 = .ok (.iload 4, 2) := by decide +kernel
theorem dX11_weigh_77 : decode cX11_weigh 77 = .ok (.ireturn, 1) := by decide +kernel
theorem dX11_close_0 : decode cX11_close 0 = .ok (.iload_n 1, 1) := by decide +kernel
theorem dX11_close_1 : decode cX11_close 1 = .ok (.invokestatic 81, 3) := by decide +kernel
theorem dX11_close_4 : decode cX11_close 4 = .ok (.ifCond .ne 5, 3) := by decide +kernel
theorem dX11_close_7 : decode cX11_close 7 = .ok (.iconst (-1), 1) := by decide +kernel
theorem dX11_close_8 : decode cX11_close 8 = .ok (.ireturn, 1) := by decide +kernel
theorem dX11_close_9 : decode cX11_close 9 = .ok (.aload_n 0, 1) := by decide +kernel
theorem dX11_close_10 : decode cX11_close 10 = .ok (.getfield 11, 3) := by decide +kernel
theorem dX11_close_13 : decode cX11_close 13 = .ok (.iload_n 1, 1) := by decide +kernel
theorem dX11_close_14 : decode cX11_close 14 = .ok (.aaload, 1) := by decide +kernel
theorem dX11_close_15 : decode cX11_close 15 = .ok (.getfield 85, 3) := by decide +kernel
theorem dX11_close_18 : decode cX11_close 18 = .ok (.ifCond .ne 9, 3) := by decide +kernel
theorem dX11_close_21 : decode cX11_close 21 = .ok (.aload_n 0, 1) := by decide +kernel
theorem dX11_close_22 : decode cX11_close 22 = .ok (.iconst 1, 1) := by decide +kernel
theorem dX11_close_23 : decode cX11_close 23 = .ok (.invokevirtual 96, 3) := by decide +kernel
theorem dX11_close_26 : decode cX11_close 26 = .ok (.ireturn, 1) := by decide +kernel
theorem dX11_close_27 : decode cX11_close 27 = .ok (.aload_n 0, 1) := by decide +kernel
theorem dX11_close_28 : decode cX11_close 28 = .ok (.getfield 11, 3) := by decide +kernel
theorem dX11_close_31 : decode cX11_close 31 = .ok (.iload_n 1, 1) := by decide +kernel
theorem dX11_close_32 : decode cX11_close 32 = .ok (.aaload, 1) := by decide +kernel
theorem dX11_close_33 : decode cX11_close 33 = .ok (.iconst 0, 1) := by decide +kernel
theorem dX11_close_34 : decode cX11_close 34 = .ok (.putfield 85, 3) := by decide +kernel
theorem dX11_close_37 : decode cX11_close 37 = .ok (.iconst 1, 1) := by decide +kernel
theorem dX11_close_38 : decode cX11_close 38 = .ok (.ireturn, 1) := by decide +kernel
theorem dX11_copy_0 : decode cX11_copy 0 = .ok (.iload_n 1, 1) := by decide +kernel
theorem dX11_copy_1 : decode cX11_copy 1 = .ok (.invokestatic 81, 3) := by decide +kernel
theorem dX11_copy_4 : decode cX11_copy 4 = .ok (.ifCond .eq 10, 3) := by decide +kernel
theorem dX11_copy_7 : decode cX11_copy 7 = .ok (.iload_n 3, 1) := by decide +kernel
theorem dX11_copy_8 : decode cX11_copy 8 = .ok (.invokestatic 81, 3) := by decide +kernel
theorem dX11_copy_11 : decode cX11_copy 11 = .ok (.ifCond .ne 5, 3) := by decide +kernel
theorem dX11_copy_14 : decode cX11_copy 14 = .ok (.iconst (-1), 1) := by decide +kernel
theorem dX11_copy_15 : decode cX11_copy 15 = .ok (.ireturn, 1) := by decide +kernel
theorem dX11_copy_16 : decode cX11_copy 16 = .ok (.aload_n 0, 1) := by decide +kernel
theorem dX11_copy_17 : decode cX11_copy 17 = .ok (.getfield 11, 3) := by decide +kernel
theorem dX11_copy_20 : decode cX11_copy 20 = .ok (.iload_n 1, 1) := by decide +kernel
theorem dX11_copy_21 : decode cX11_copy 21 = .ok (.aaload, 1) := by decide +kernel
theorem dX11_copy_22 : decode cX11_copy 22 = .ok (.getfield 85, 3) := by decide +kernel
theorem dX11_copy_25 : decode cX11_copy 25 = .ok (.ifCond .eq 15, 3) := by decide +kernel
theorem dX11_copy_28 : decode cX11_copy 28 = .ok (.aload_n 0, 1) := by decide +kernel
theorem dX11_copy_29 : decode cX11_copy 29 = .ok (.getfield 11, 3) := by decide +kernel
theorem dX11_copy_32 : decode cX11_copy 32 = .ok (.iload_n 3, 1) := by decide +kernel
theorem dX11_copy_33 : decode cX11_copy 33 = .ok (.aaload, 1) := by decide +kernel
theorem dX11_copy_34 : decode cX11_copy 34 = .ok (.getfield 85, 3) := by decide +kernel
theorem dX11_copy_37 : decode cX11_copy 37 = .ok (.ifCond .ne 9, 3) := by decide +kernel
theorem dX11_copy_40 : decode cX11_copy 40 = .ok (.aload_n 0, 1) := by decide +kernel
theorem dX11_copy_41 : decode cX11_copy 41 = .ok (.iconst 1, 1) := by decide +kernel
theorem dX11_copy_42 : decode cX11_copy 42 = .ok (.invokevirtual 96, 3) := by decide +kernel
theorem dX11_copy_45 : decode cX11_copy 45 = .ok (.ireturn, 1) := by decide +kernel
theorem dX11_copy_46 : decode cX11_copy 46 = .ok (.iload_n 2, 1) := by decide +kernel
theorem dX11_copy_47 : decode cX11_copy 47 = .ok (.iload 5, 2) := by decide +kernel
theorem dX11_copy_49 : decode cX11_copy 49 = .ok (.invokestatic 106, 3) := by decide +kernel
theorem dX11_copy_52 : decode cX11_copy 52 = .ok (.ifCond .eq 13, 3) := by decide +kernel
theorem dX11_copy_55 : decode cX11_copy 55 = .ok (.iload 4, 2) := by decide +kernel
theorem dX11_copy_57 : decode cX11_copy 57 = .ok (.iload 5, 2) := by decide +kernel
theorem dX11_copy_59 : decode cX11_copy 59 = .ok (.invokestatic 106, 3) := by decide +kernel
theorem dX11_copy_62 : decode cX11_copy 62 = .ok (.ifCond .ne 9, 3) := by decide +kernel
theorem dX11_copy_65 : decode cX11_copy 65 = .ok (.aload_n 0, 1) := by decide +kernel
theorem dX11_copy_66 : decode cX11_copy 66 = .ok (.iconst 2, 1) := by decide +kernel
theorem dX11_copy_67 : decode cX11_copy 67 = .ok (.invokevirtual 96, 3) := by decide +kernel
theorem dX11_copy_70 : decode cX11_copy 70 = .ok (.ireturn, 1) := by decide +kernel
theorem dX11_copy_71 : decode cX11_copy 71 = .ok (.aload_n 0, 1) := by decide +kernel
theorem dX11_copy_72 : decode cX11_copy 72 = .ok (.getfield 11, 3) := by decide +kernel
theorem dX11_copy_75 : decode cX11_copy 75 = .ok (.iload_n 1, 1) := by decide +kernel
theorem dX11_copy_76 : decode cX11_copy 76 = .ok (.aaload, 1) := by decide +kernel
theorem dX11_copy_77 : decode cX11_copy 77 = .ok (.getfield 103, 3) := by decide +kernel
theorem dX11_copy_80 : decode cX11_copy 80 = .ok (.iload_n 2, 1) := by decide +kernel
theorem dX11_copy_81 : decode cX11_copy 81 = .ok (.aload_n 0, 1) := by decide +kernel
theorem dX11_copy_82 : decode cX11_copy 82 = .ok (.getfield 11, 3) := by decide +kernel
theorem dX11_copy_85 : decode cX11_copy 85 = .ok (.iload_n 3, 1) := by decide +kernel
theorem dX11_copy_86 : decode cX11_copy 86 = .ok (.aaload, 1) := by decide +kernel
theorem dX11_copy_87 : decode cX11_copy 87 = .ok (.getfield 103, 3) := by decide +kernel
theorem dX11_copy_90 : decode cX11_copy 90 = .ok (.iload 4, 2) := by decide +kernel
theorem dX11_copy_92 : decode cX11_copy 92 = .ok (.iload 5, 2) := by decide +kernel
theorem dX11_copy_94 : decode cX11_copy 94 = .ok (.invokestatic 110, 3) := by decide +kernel
theorem dX11_copy_97 : decode cX11_copy 97 = .ok (.iconst 1, 1) := by decide +kernel
theorem dX11_copy_98 : decode cX11_copy 98 = .ok (.ireturn, 1) := by decide +kernel
theorem dX11_mean_0 : decode cX11_mean 0 = .ok (.iload_n 1, 1) := by decide +kernel
theorem dX11_mean_1 : decode cX11_mean 1 = .ok (.invokestatic 81, 3) := by decide +kernel
theorem dX11_mean_4 : decode cX11_mean 4 = .ok (.ifCond .ne 5, 3) := by decide +kernel
theorem dX11_mean_7 : decode cX11_mean 7 = .ok (.iconst (-1), 1) := by decide +kernel
theorem dX11_mean_8 : decode cX11_mean 8 = .ok (.ireturn, 1) := by decide +kernel
theorem dX11_mean_9 : decode cX11_mean 9 = .ok (.aload_n 0, 1) := by decide +kernel
theorem dX11_mean_10 : decode cX11_mean 10 = .ok (.getfield 11, 3) := by decide +kernel
theorem dX11_mean_13 : decode cX11_mean 13 = .ok (.iload_n 1, 1) := by decide +kernel
theorem dX11_mean_14 : decode cX11_mean 14 = .ok (.aaload, 1) := by decide +kernel
theorem dX11_mean_15 : decode cX11_mean 15 = .ok (.invokestatic 116, 3) := by decide +kernel
theorem dX11_mean_18 : decode cX11_mean 18 = .ok (.istore_n 2, 1) := by decide +kernel
theorem dX11_mean_19 : decode cX11_mean 19 = .ok (.iload_n 2, 1) := by decide +kernel
theorem dX11_mean_20 : decode cX11_mean 20 = .ok (.ifCond .eq 9, 3) := by decide +kernel
theorem dX11_mean_23 : decode cX11_mean 23 = .ok (.aload_n 0, 1) := by decide +kernel
theorem dX11_mean_24 : decode cX11_mean 24 = .ok (.iload_n 2, 1) := by decide +kernel
theorem dX11_mean_25 : decode cX11_mean 25 = .ok (.invokevirtual 96, 3) := by decide +kernel
theorem dX11_mean_28 : decode cX11_mean 28 = .ok (.ireturn, 1) := by decide +kernel
theorem dX11_mean_29 : decode cX11_mean 29 = .ok (.aload_n 0, 1) := by decide +kernel
theorem dX11_mean_30 : decode cX11_mean 30 = .ok (.getfield 11, 3) := by decide +kernel
theorem dX11_mean_33 : decode cX11_mean 33 = .ok (.iload_n 1, 1) := by decide +kernel
theorem dX11_mean_34 : decode cX11_mean 34 = .ok (.aaload, 1) := by decide +kernel
theorem dX11_mean_35 : decode cX11_mean 35 = .ok (.invokevirtual 120, 3) := by decide +kernel
theorem dX11_mean_38 : decode cX11_mean 38 = .ok (.istore_n 3, 1) := by decide +kernel
theorem dX11_mean_39 : decode cX11_mean 39 = .ok (.iload_n 3, 1) := by decide +kernel
theorem dX11_mean_40 : decode cX11_mean 40 = .ok (.ifCond .le 17, 3) := by decide +kernel
theorem dX11_mean_43 : decode cX11_mean 43 = .ok (.aload_n 0, 1) := by decide +kernel
theorem dX11_mean_44 : decode cX11_mean 44 = .ok (.getfield 11, 3) := by decide +kernel
theorem dX11_mean_47 : decode cX11_mean 47 = .ok (.iload_n 1, 1) := by decide +kernel
theorem dX11_mean_48 : decode cX11_mean 48 = .ok (.aaload, 1) := by decide +kernel
theorem dX11_mean_49 : decode cX11_mean 49 = .ok (.invokevirtual 124, 3) := by decide +kernel
theorem dX11_mean_52 : decode cX11_mean 52 = .ok (.iload_n 3, 1) := by decide +kernel
theorem dX11_mean_53 : decode cX11_mean 53 = .ok (.idiv, 1) := by decide +kernel
theorem dX11_mean_54 : decode cX11_mean 54 = .ok (.goto 4, 3) := by decide +kernel
theorem dX11_mean_57 : decode cX11_mean 57 = .ok (.iconst 0, 1) := by decide +kernel
theorem dX11_mean_58 : decode cX11_mean 58 = .ok (.ireturn, 1) := by decide +kernel
theorem dX11_sheet_0 : decode cX11_sheet 0 = .ok (.iload_n 1, 1) := by decide +kernel
theorem dX11_sheet_1 : decode cX11_sheet 1 = .ok (.invokestatic 127, 3) := by decide +kernel
theorem dX11_sheet_4 : decode cX11_sheet 4 = .ok (.ifCond .eq 9, 3) := by decide +kernel
theorem dX11_sheet_7 : decode cX11_sheet 7 = .ok (.iload_n 2, 1) := by decide +kernel
theorem dX11_sheet_8 : decode cX11_sheet 8 = .ok (.bipush 25, 2) := by decide +kernel
theorem dX11_sheet_10 : decode cX11_sheet 10 = .ok (.if_icmp .le 5, 3) := by decide +kernel
theorem dX11_sheet_13 : decode cX11_sheet 13 = .ok (.iconst (-1), 1) := by decide +kernel
theorem dX11_sheet_14 : decode cX11_sheet 14 = .ok (.ireturn, 1) := by decide +kernel
theorem dX11_sheet_15 : decode cX11_sheet 15 = .ok (.iload_n 2, 1) := by decide +kernel
theorem dX11_sheet_16 : decode cX11_sheet 16 = .ok (.ifCond .ge 9, 3) := by decide +kernel
theorem dX11_sheet_19 : decode cX11_sheet 19 = .ok (.aload_n 0, 1) := by decide +kernel
theorem dX11_sheet_20 : decode cX11_sheet 20 = .ok (.iconst 5, 1) := by decide +kernel
theorem dX11_sheet_21 : decode cX11_sheet 21 = .ok (.invokevirtual 96, 3) := by decide +kernel
theorem dX11_sheet_24 : decode cX11_sheet 24 = .ok (.ireturn, 1) := by decide +kernel
theorem dX11_sheet_25 : decode cX11_sheet 25 = .ok (.iconst 0, 1) := by decide +kernel
theorem dX11_sheet_26 : decode cX11_sheet 26 = .ok (.istore_n 3, 1) := by decide +kernel
theorem dX11_sheet_27 : decode cX11_sheet 27 = .ok (.iload_n 3, 1) := by decide +kernel
theorem dX11_sheet_28 : decode cX11_sheet 28 = .ok (.aload_n 0, 1) := by decide +kernel
theorem dX11_sheet_29 : decode cX11_sheet 29 = .ok (.getfield 17, 3) := by decide +kernel
theorem dX11_sheet_32 : decode cX11_sheet 32 = .ok (.iload_n 1, 1) := by decide +kernel
theorem dX11_sheet_33 : decode cX11_sheet 33 = .ok (.aaload, 1) := by decide +kernel
theorem dX11_sheet_34 : decode cX11_sheet 34 = .ok (.arraylength, 1) := by decide +kernel
theorem dX11_sheet_35 : decode cX11_sheet 35 = .ok (.if_icmp .ge 18, 3) := by decide +kernel
theorem dX11_sheet_38 : decode cX11_sheet 38 = .ok (.aload_n 0, 1) := by decide +kernel
theorem dX11_sheet_39 : decode cX11_sheet 39 = .ok (.getfield 17, 3) := by decide +kernel
theorem dX11_sheet_42 : decode cX11_sheet 42 = .ok (.iload_n 1, 1) := by decide +kernel
theorem dX11_sheet_43 : decode cX11_sheet 43 = .ok (.aaload, 1) := by decide +kernel
theorem dX11_sheet_44 : decode cX11_sheet 44 = .ok (.iload_n 3, 1) := by decide +kernel
theorem dX11_sheet_45 : decode cX11_sheet 45 = .ok (.iconst 0, 1) := by decide +kernel
theorem dX11_sheet_46 : decode cX11_sheet 46 = .ok (.bastore, 1) := by decide +kernel
theorem dX11_sheet_47 : decode cX11_sheet 47 = .ok (.iinc 3 1, 3) := by decide +kernel
theorem dX11_sheet_50 : decode cX11_sheet 50 = .ok (.goto (-23), 3) := by decide +kernel
theorem dX11_sheet_53 : decode cX11_sheet 53 = .ok (.aload_n 0, 1) := by decide +kernel
theorem dX11_sheet_54 : decode cX11_sheet 54 = .ok (.getfield 20, 3) := by decide +kernel
theorem dX11_sheet_57 : decode cX11_sheet 57 = .ok (.iload_n 1, 1) := by decide +kernel
theorem dX11_sheet_58 : decode cX11_sheet 58 = .ok (.iload_n 2, 1) := by decide +kernel
theorem dX11_sheet_59 : decode cX11_sheet 59 = .ok (.iastore, 1) := by decide +kernel
theorem dX11_sheet_60 : decode cX11_sheet 60 = .ok (.iload_n 2, 1) := by decide +kernel
theorem dX11_sheet_61 : decode cX11_sheet 61 = .ok (.ireturn, 1) := by decide +kernel
theorem dX11_lay_0 : decode cX11_lay 0 = .ok (.iload_n 1, 1) := by decide +kernel
theorem dX11_lay_1 : decode cX11_lay 1 = .ok (.invokestatic 127, 3) := by decide +kernel
theorem dX11_lay_4 : decode cX11_lay 4 = .ok (.ifCond .ne 5, 3) := by decide +kernel
theorem dX11_lay_7 : decode cX11_lay 7 = .ok (.iconst (-1), 1) := by decide +kernel
theorem dX11_lay_8 : decode cX11_lay 8 = .ok (.ireturn, 1) := by decide +kernel
theorem dX11_lay_9 : decode cX11_lay 9 = .ok (.aload_n 0, 1) := by decide +kernel
theorem dX11_lay_10 : decode cX11_lay 10 = .ok (.getfield 20, 3) := by decide +kernel
theorem dX11_lay_13 : decode cX11_lay 13 = .ok (.iload_n 1, 1) := by decide +kernel
theorem dX11_lay_14 : decode cX11_lay 14 = .ok (.iaload, 1) := by decide +kernel
theorem dX11_lay_15 : decode cX11_lay 15 = .ok (.ifCond .ge 9, 3) := by decide +kernel
theorem dX11_lay_18 : decode cX11_lay 18 = .ok (.aload_n 0, 1) := by decide +kernel
theorem dX11_lay_19 : decode cX11_lay 19 = .ok (.iconst 1, 1) := by decide +kernel
theorem dX11_lay_20 : decode cX11_lay 20 = .ok (.invokevirtual 96, 3) := by decide +kernel
theorem dX11_lay_23 : decode cX11_lay 23 = .ok (.ireturn, 1) := by decide +kernel
theorem dX11_lay_24 : decode cX11_lay 24 = .ok (.iload_n 2, 1) := by decide +kernel
theorem dX11_lay_25 : decode cX11_lay 25 = .ok (.iconst 0, 1) := by decide +kernel
theorem dX11_lay_26 : decode cX11_lay 26 = .ok (.aload_n 0, 1) := by decide +kernel
theorem dX11_lay_27 : decode cX11_lay 27 = .ok (.getfield 20, 3) := by decide +kernel
theorem dX11_lay_30 : decode cX11_lay 30 = .ok (.iload_n 1, 1) := by decide +kernel
theorem dX11_lay_31 : decode cX11_lay 31 = .ok (.iaload, 1) := by decide +kernel
theorem dX11_lay_32 : decode cX11_lay 32 = .ok (.iconst 1, 1) := by decide +kernel
theorem dX11_lay_33 : decode cX11_lay 33 = .ok (.isub, 1) := by decide +kernel
theorem dX11_lay_34 : decode cX11_lay 34 = .ok (.invokestatic 92, 3) := by decide +kernel
theorem dX11_lay_37 : decode cX11_lay 37 = .ok (.ifCond .ne 9, 3) := by decide +kernel
theorem dX11_lay_40 : decode cX11_lay 40 = .ok (.aload_n 0, 1) := by decide +kernel
theorem dX11_lay_41 : decode cX11_lay 41 = .ok (.iconst 2, 1) := by decide +kernel
theorem dX11_lay_42 : decode cX11_lay 42 = .ok (.invokevirtual 96, 3) := by decide +kernel
theorem dX11_lay_45 : decode cX11_lay 45 = .ok (.ireturn, 1) := by decide +kernel
theorem dX11_lay_46 : decode cX11_lay 46 = .ok (.aload_n 0, 1) := by decide +kernel
theorem dX11_lay_47 : decode cX11_lay 47 = .ok (.getfield 17, 3) := by decide +kernel
theorem dX11_lay_50 : decode cX11_lay 50 = .ok (.iload_n 1, 1) := by decide +kernel
theorem dX11_lay_51 : decode cX11_lay 51 = .ok (.aaload, 1) := by decide +kernel
theorem dX11_lay_52 : decode cX11_lay 52 = .ok (.iload_n 2, 1) := by decide +kernel
theorem dX11_lay_53 : decode cX11_lay 53 = .ok (.baload, 1) := by decide +kernel
theorem dX11_lay_54 : decode cX11_lay 54 = .ok (.istore 4, 2) := by decide +kernel
theorem dX11_lay_56 : decode cX11_lay 56 = .ok (.aload_n 0, 1) := by decide +kernel
theorem dX11_lay_57 : decode cX11_lay 57 = .ok (.getfield 17, 3) := by decide +kernel
theorem dX11_lay_60 : decode cX11_lay 60 = .ok (.iload_n 1, 1) := by decide +kernel
theorem dX11_lay_61 : decode cX11_lay 61 = .ok (.aaload, 1) := by decide +kernel
theorem dX11_lay_62 : decode cX11_lay 62 = .ok (.iload_n 2, 1) := by decide +kernel
theorem dX11_lay_63 : decode cX11_lay 63 = .ok (.iload_n 3, 1) := by decide +kernel
theorem dX11_lay_64 : decode cX11_lay 64 = .ok (.i2b, 1) := by decide +kernel
theorem dX11_lay_65 : decode cX11_lay 65 = .ok (.bastore, 1) := by decide +kernel
theorem dX11_lay_66 : decode cX11_lay 66 = .ok (.iload 4, 2) := by decide +kernel
theorem dX11_lay_68 : decode cX11_lay 68 = .ok (.sipush 1000, 3) := by decide +kernel
theorem dX11_lay_71 : decode cX11_lay 71 = .ok (.iadd, 1) := by decide +kernel
theorem dX11_lay_72 : decode cX11_lay 72 = .ok (.ireturn, 1) := by decide +kernel
theorem dX11_tear_0 : decode cX11_tear 0 = .ok (.iload_n 1, 1) := by decide +kernel
theorem dX11_tear_1 : decode cX11_tear 1 = .ok (.invokestatic 127, 3) := by decide +kernel
theorem dX11_tear_4 : decode cX11_tear 4 = .ok (.ifCond .ne 5, 3) := by decide +kernel
theorem dX11_tear_7 : decode cX11_tear 7 = .ok (.iconst (-1), 1) := by decide +kernel
theorem dX11_tear_8 : decode cX11_tear 8 = .ok (.ireturn, 1) := by decide +kernel
theorem dX11_tear_9 : decode cX11_tear 9 = .ok (.aload_n 0, 1) := by decide +kernel
theorem dX11_tear_10 : decode cX11_tear 10 = .ok (.getfield 20, 3) := by decide +kernel
theorem dX11_tear_13 : decode cX11_tear 13 = .ok (.iload_n 1, 1) := by decide +kernel
theorem dX11_tear_14 : decode cX11_tear 14 = .ok (.iaload, 1) := by decide +kernel
theorem dX11_tear_15 : decode cX11_tear 15 = .ok (.ifCond .ge 9, 3) := by decide +kernel
theorem dX11_tear_18 : decode cX11_tear 18 = .ok (.aload_n 0, 1) := by decide +kernel
theorem dX11_tear_19 : decode cX11_tear 19 = .ok (.iconst 1, 1) := by decide +kernel
theorem dX11_tear_20 : decode cX11_tear 20 = .ok (.invokevirtual 96, 3) := by decide +kernel
theorem dX11_tear_23 : decode cX11_tear 23 = .ok (.ireturn, 1) := by decide +kernel
theorem dX11_tear_24 : decode cX11_tear 24 = .ok (.aload_n 0, 1) := by decide +kernel
theorem dX11_tear_25 : decode cX11_tear 25 = .ok (.getfield 20, 3) := by decide +kernel
theorem dX11_tear_28 : decode cX11_tear 28 = .ok (.iload_n 1, 1) := by decide +kernel
theorem dX11_tear_29 : decode cX11_tear 29 = .ok (.iconst (-1), 1) := by decide +kernel
theorem dX11_tear_30 : decode cX11_tear 30 = .ok (.iastore, 1) := by decide +kernel
theorem dX11_tear_31 : decode cX11_tear 31 = .ok (.iconst 1, 1) := by decide +kernel
theorem dX11_tear_32 : decode cX11_tear 32 = .ok (.ireturn, 1) := by decide +kernel
theorem dX11_table_0 : decode cX11_table 0 = .ok (.iload_n 1, 1) := by decide +kernel
theorem dX11_table_1 : decode cX11_table 1 = .ok (.invokestatic 127, 3) := by decide +kernel
theorem dX11_table_4 : decode cX11_table 4 = .ok (.ifCond .ne 5, 3) := by decide +kernel
theorem dX11_table_7 : decode cX11_table 7 = .ok (.iconst (-1), 1) := by decide +kernel
theorem dX11_table_8 : decode cX11_table 8 = .ok (.ireturn, 1) := by decide +kernel
theorem dX11_table_9 : decode cX11_table 9 = .ok (.aload_n 0, 1) := by decide +kernel
theorem dX11_table_10 : decode cX11_table 10 = .ok (.getfield 130, 3) := by decide +kernel
theorem dX11_table_13 : decode cX11_table 13 = .ok (.bipush 12, 2) := by decide +kernel
theorem dX11_table_15 : decode cX11_table 15 = .ok (.if_icmp .lt 6, 3) := by decide +kernel
theorem dX11_table_18 : decode cX11_table 18 = .ok (.bipush (-2), 2) := by decide +kernel
theorem dX11_table_20 : decode cX11_table 20 = .ok (.ireturn, 1) := by decide +kernel
theorem dX11_table_21 : decode cX11_table 21 = .ok (.aload_n 0, 1) := by decide +kernel
theorem dX11_table_22 : decode cX11_table 22 = .ok (.getfield 20, 3) := by decide +kernel
theorem dX11_table_25 : decode cX11_table 25 = .ok (.iload_n 1, 1) := by decide +kernel
theorem dX11_table_26 : decode cX11_table 26 = .ok (.iaload, 1) := by decide +kernel
theorem dX11_table_27 : decode cX11_table 27 = .ok (.ifCond .ge 9, 3) := by decide +kernel
theorem dX11_table_30 : decode cX11_table 30 = .ok (.aload_n 0, 1) := by decide +kernel
theorem dX11_table_31 : decode cX11_table 31 = .ok (.iconst 1, 1) := by decide +kernel
theorem dX11_table_32 : decode cX11_table 32 = .ok (.invokevirtual 96, 3) := by decide +kernel
theorem dX11_table_35 : decode cX11_table 35 = .ok (.ireturn, 1) := by decide +kernel
theorem dX11_table_36 : decode cX11_table 36 = .ok (.aload_n 0, 1) := by decide +kernel
theorem dX11_table_37 : decode cX11_table 37 = .ok (.new 134, 3) := by decide +kernel
theorem dX11_table_40 : decode cX11_table 40 = .ok (.dup, 1) := by decide +kernel
theorem dX11_table_41 : decode cX11_table 41 = .ok (.aload_n 0, 1) := by decide +kernel
theorem dX11_table_42 : decode cX11_table 42 = .ok (.getfield 17, 3) := by decide +kernel
theorem dX11_table_45 : decode cX11_table 45 = .ok (.iload_n 1, 1) := by decide +kernel
theorem dX11_table_46 : decode cX11_table 46 = .ok (.aaload, 1) := by decide +kernel
theorem dX11_table_47 : decode cX11_table 47 = .ok (.aload_n 0, 1) := by decide +kernel
theorem dX11_table_48 : decode cX11_table 48 = .ok (.getfield 20, 3) := by decide +kernel
theorem dX11_table_51 : decode cX11_table 51 = .ok (.iload_n 1, 1) := by decide +kernel
theorem dX11_table_52 : decode cX11_table 52 = .ok (.iaload, 1) := by decide +kernel
theorem dX11_table_53 : decode cX11_table 53 = .ok (.invokespecial 136, 3) := by decide +kernel
theorem dX11_table_56 : decode cX11_table 56 = .ok (.invokevirtual 139, 3) := by decide +kernel
theorem dX11_table_59 : decode cX11_table 59 = .ok (.ireturn, 1) := by decide +kernel
theorem dX11_rule_0 : decode cX11_rule 0 = .ok (.iload_n 1, 1) := by decide +kernel
theorem dX11_rule_1 : decode cX11_rule 1 = .ok (.iload_n 2, 1) := by decide +kernel
theorem dX11_rule_2 : decode cX11_rule 2 = .ok (.iload_n 3, 1) := by decide +kernel
theorem dX11_rule_3 : decode cX11_rule 3 = .ok (.invokestatic 143, 3) := by decide +kernel
theorem dX11_rule_6 : decode cX11_rule 6 = .ok (.ifCond .ne 5, 3) := by decide +kernel
theorem dX11_rule_9 : decode cX11_rule 9 = .ok (.iconst (-1), 1) := by decide +kernel
theorem dX11_rule_10 : decode cX11_rule 10 = .ok (.ireturn, 1) := by decide +kernel
theorem dX11_rule_11 : decode cX11_rule 11 = .ok (.aload_n 0, 1) := by decide +kernel
theorem dX11_rule_12 : decode cX11_rule 12 = .ok (.getfield 130, 3) := by decide +kernel
theorem dX11_rule_15 : decode cX11_rule 15 = .ok (.bipush 12, 2) := by decide +kernel
theorem dX11_rule_17 : decode cX11_rule 17 = .ok (.if_icmp .lt 6, 3) := by decide +kernel
theorem dX11_rule_20 : decode cX11_rule 20 = .ok (.bipush (-2), 2) := by decide +kernel
theorem dX11_rule_22 : decode cX11_rule 22 = .ok (.ireturn, 1) := by decide +kernel
theorem dX11_rule_23 : decode cX11_rule 23 = .ok (.iload_n 1, 1) := by decide +kernel
theorem dX11_rule_24 : decode cX11_rule 24 = .ok (.iconst 1, 1) := by decide +kernel
theorem dX11_rule_25 : decode cX11_rule 25 = .ok (.if_icmp .ne 16, 3) := by decide +kernel
theorem dX11_rule_28 : decode cX11_rule 28 = .ok (.aload_n 0, 1) := by decide +kernel
theorem dX11_rule_29 : decode cX11_rule 29 = .ok (.new 146, 3) := by decide +kernel
theorem dX11_rule_32 : decode cX11_rule 32 = .ok (.dup, 1) := by decide +kernel
theorem dX11_rule_33 : decode cX11_rule 33 = .ok (.iload_n 2, 1) := by decide +kernel
theorem dX11_rule_34 : decode cX11_rule 34 = .ok (.invokespecial 148, 3) := by decide +kernel
theorem dX11_rule_37 : decode cX11_rule 37 = .ok (.invokevirtual 139, 3) := by decide +kernel
theorem dX11_rule_40 : decode cX11_rule 40 = .ok (.ireturn, 1) := by decide +kernel
theorem dX11_rule_41 : decode cX11_rule 41 = .ok (.iload_n 1, 1) := by decide +kernel
theorem dX11_rule_42 : decode cX11_rule 42 = .ok (.iconst 2, 1) := by decide +kernel
theorem dX11_rule_43 : decode cX11_rule 43 = .ok (.if_icmp .ne 19, 3) := by decide +kernel
theorem dX11_rule_46 : decode cX11_rule 46 = .ok (.aload_n 0, 1) := by decide +kernel
theorem dX11_rule_47 : decode cX11_rule 47 = .ok (.new 151, 3) := by decide +kernel
theorem dX11_rule_50 : decode cX11_rule 50 = .ok (.dup, 1) := by decide +kernel
theorem dX11_rule_51 : decode cX11_rule 51 = .ok (.iload_n 2, 1) := by decide +kernel
theorem dX11_rule_52 : decode cX11_rule 52 = .ok (.iload_n 3, 1) := by decide +kernel
theorem dX11_rule_53 : decode cX11_rule 53 = .ok (.invokespecial 153, 3) := by decide +kernel
theorem dX11_rule_56 : decode cX11_rule 56 = .ok (.invokevirtual 139, 3) := by decide +kernel
theorem dX11_rule_59 : decode cX11_rule 59 = .ok (.goto 16, 3) := by decide +kernel
theorem dX11_rule_62 : decode cX11_rule 62 = .ok (.aload_n 0, 1) := by decide +kernel
theorem dX11_rule_63 : decode cX11_rule 63 = .ok (.new 156, 3) := by decide +kernel
theorem dX11_rule_66 : decode cX11_rule 66 = .ok (.dup, 1) := by decide +kernel
theorem dX11_rule_67 : decode cX11_rule 67 = .ok (.iload_n 2, 1) := by decide +kernel
theorem dX11_rule_68 : decode cX11_rule 68 = .ok (.iload_n 3, 1) := by decide +kernel
theorem dX11_rule_69 : decode cX11_rule 69 = .ok (.invokespecial 158, 3) := by decide +kernel
theorem dX11_rule_72 : decode cX11_rule 72 = .ok (.invokevirtual 139, 3) := by decide +kernel
theorem dX11_rule_75 : decode cX11_rule 75 = .ok (.ireturn, 1) := by decide +kernel
theorem dX11_drop_0 : decode cX11_drop 0 = .ok (.aload_n 0, 1) := by decide +kernel
theorem dX11_drop_1 : decode cX11_drop 1 = .ok (.iload_n 1, 1) := by decide +kernel
theorem dX11_drop_2 : decode cX11_drop 2 = .ok (.invokevirtual 159, 3) := by decide +kernel
theorem dX11_drop_5 : decode cX11_drop 5 = .ok (.ifCond .ne 5, 3) := by decide +kernel
theorem dX11_drop_8 : decode cX11_drop 8 = .ok (.iconst (-1), 1) := by decide +kernel
theorem dX11_drop_9 : decode cX11_drop 9 = .ok (.ireturn, 1) := by decide +kernel
theorem dX11_drop_10 : decode cX11_drop 10 = .ok (.aload_n 0, 1) := by decide +kernel
theorem dX11_drop_11 : decode cX11_drop 11 = .ok (.getfield 26, 3) := by decide +kernel
theorem dX11_drop_14 : decode cX11_drop 14 = .ok (.iload_n 1, 1) := by decide +kernel
theorem dX11_drop_15 : decode cX11_drop 15 = .ok (.aaload, 1) := by decide +kernel
theorem dX11_drop_16 : decode cX11_drop 16 = .ok (.ifnonnull 9, 3) := by decide +kernel
theorem dX11_drop_19 : decode cX11_drop 19 = .ok (.aload_n 0, 1) := by decide +kernel
theorem dX11_drop_20 : decode cX11_drop 20 = .ok (.iconst 1, 1) := by decide +kernel
theorem dX11_drop_21 : decode cX11_drop 21 = .ok (.invokevirtual 96, 3) := by decide +kernel
theorem dX11_drop_24 : decode cX11_drop 24 = .ok (.ireturn, 1) := by decide +kernel
theorem dX11_drop_25 : decode cX11_drop 25 = .ok (.aload_n 0, 1) := by decide +kernel
theorem dX11_drop_26 : decode cX11_drop 26 = .ok (.getfield 26, 3) := by decide +kernel
theorem dX11_drop_29 : decode cX11_drop 29 = .ok (.iload_n 1, 1) := by decide +kernel
theorem dX11_drop_30 : decode cX11_drop 30 = .ok (.aconst_null, 1) := by decide +kernel
theorem dX11_drop_31 : decode cX11_drop 31 = .ok (.aastore, 1) := by decide +kernel
theorem dX11_drop_32 : decode cX11_drop 32 = .ok (.iconst 1, 1) := by decide +kernel
theorem dX11_drop_33 : decode cX11_drop 33 = .ok (.ireturn, 1) := by decide +kernel
theorem dX11_told_0 : decode cX11_told 0 = .ok (.aload_n 0, 1) := by decide +kernel
theorem dX11_told_1 : decode cX11_told 1 = .ok (.iload_n 1, 1) := by decide +kernel
theorem dX11_told_2 : decode cX11_told 2 = .ok (.invokevirtual 159, 3) := by decide +kernel
theorem dX11_told_5 : decode cX11_told 5 = .ok (.ifCond .eq 12, 3) := by decide +kernel
theorem dX11_told_8 : decode cX11_told 8 = .ok (.iload_n 2, 1) := by decide +kernel
theorem dX11_told_9 : decode cX11_told 9 = .ok (.iconst 0, 1) := by decide +kernel
theorem dX11_told_10 : decode cX11_told 10 = .ok (.iconst 4, 1) := by decide +kernel
theorem dX11_told_11 : decode cX11_told 11 = .ok (.invokestatic 92, 3) := by decide +kernel
theorem dX11_told_14 : decode cX11_told 14 = .ok (.ifCond .ne 5, 3) := by decide +kernel
theorem dX11_told_17 : decode cX11_told 17 = .ok (.iconst (-1), 1) := by decide +kernel
theorem dX11_told_18 : decode cX11_told 18 = .ok (.ireturn, 1) := by decide +kernel
theorem dX11_told_19 : decode cX11_told 19 = .ok (.aload_n 0, 1) := by decide +kernel
theorem dX11_told_20 : decode cX11_told 20 = .ok (.getfield 26, 3) := by decide +kernel
theorem dX11_told_23 : decode cX11_told 23 = .ok (.iload_n 1, 1) := by decide +kernel
theorem dX11_told_24 : decode cX11_told 24 = .ok (.aaload, 1) := by decide +kernel
theorem dX11_told_25 : decode cX11_told 25 = .ok (.ifnonnull 9, 3) := by decide +kernel
theorem dX11_told_28 : decode cX11_told 28 = .ok (.aload_n 0, 1) := by decide +kernel
theorem dX11_told_29 : decode cX11_told 29 = .ok (.iconst 1, 1) := by decide +kernel
theorem dX11_told_30 : decode cX11_told 30 = .ok (.invokevirtual 96, 3) := by decide +kernel
theorem dX11_told_33 : decode cX11_told 33 = .ok (.ireturn, 1) := by decide +kernel
theorem dX11_told_34 : decode cX11_told 34 = .ok (.aload_n 0, 1) := by decide +kernel
theorem dX11_told_35 : decode cX11_told 35 = .ok (.getfield 26, 3) := by decide +kernel
theorem dX11_told_38 : decode cX11_told 38 = .ok (.iload_n 1, 1) := by decide +kernel
theorem dX11_told_39 : decode cX11_told 39 = .ok (.aaload, 1) := by decide +kernel
theorem dX11_told_40 : decode cX11_told 40 = .ok (.iload_n 2, 1) := by decide +kernel
theorem dX11_told_41 : decode cX11_told 41 = .ok (.invokestatic 162, 3) := by decide +kernel
theorem dX11_told_44 : decode cX11_told 44 = .ok (.ireturn, 1) := by decide +kernel
theorem dX11_mark_0 : decode cX11_mark 0 = .ok (.aload_n 0, 1) := by decide +kernel
theorem dX11_mark_1 : decode cX11_mark 1 = .ok (.iload_n 1, 1) := by decide +kernel
theorem dX11_mark_2 : decode cX11_mark 2 = .ok (.invokevirtual 159, 3) := by decide +kernel
theorem dX11_mark_5 : decode cX11_mark 5 = .ok (.ifCond .eq 12, 3) := by decide +kernel
theorem dX11_mark_8 : decode cX11_mark 8 = .ok (.iload_n 2, 1) := by decide +kernel
theorem dX11_mark_9 : decode cX11_mark 9 = .ok (.iconst 0, 1) := by decide +kernel
theorem dX11_mark_10 : decode cX11_mark 10 = .ok (.iconst 3, 1) := by decide +kernel
theorem dX11_mark_11 : decode cX11_mark 11 = .ok (.invokestatic 92, 3) := by decide +kernel
theorem dX11_mark_14 : decode cX11_mark 14 = .ok (.ifCond .ne 5, 3) := by decide +kernel
theorem dX11_mark_17 : decode cX11_mark 17 = .ok (.iconst (-1), 1) := by decide +kernel
theorem dX11_mark_18 : decode cX11_mark 18 = .ok (.ireturn, 1) := by decide +kernel
theorem dX11_mark_19 : decode cX11_mark 19 = .ok (.aload_n 0, 1) := by decide +kernel
theorem dX11_mark_20 : decode cX11_mark 20 = .ok (.getfield 26, 3) := by decide +kernel
theorem dX11_mark_23 : decode cX11_mark 23 = .ok (.iload_n 1, 1) := by decide +kernel
theorem dX11_mark_24 : decode cX11_mark 24 = .ok (.aaload, 1) := by decide +kernel
theorem dX11_mark_25 : decode cX11_mark 25 = .ok (.astore_n 3, 1) := by decide +kernel
theorem dX11_mark_26 : decode cX11_mark 26 = .ok (.aload_n 3, 1) := by decide +kernel
theorem dX11_mark_27 : decode cX11_mark 27 = .ok (.ifnonnull 9, 3) := by decide +kernel
theorem dX11_mark_30 : decode cX11_mark 30 = .ok (.aload_n 0, 1) := by decide +kernel
theorem dX11_mark_31 : decode cX11_mark 31 = .ok (.iconst 1, 1) := by decide +kernel
theorem dX11_mark_32 : decode cX11_mark 32 = .ok (.invokevirtual 96, 3) := by decide +kernel
theorem dX11_mark_35 : decode cX11_mark 35 = .ok (.ireturn, 1) := by decide +kernel
theorem dX11_mark_36 : decode cX11_mark 36 = .ok (.iload_n 2, 1) := by decide +kernel
theorem dX11_mark_37 : decode cX11_mark 37 = .ok (.ifCond .ne 5, 3) := by decide +kernel
theorem dX11_mark_40 : decode cX11_mark 40 = .ok (.iload_n 1, 1) := by decide +kernel
theorem dX11_mark_41 : decode cX11_mark 41 = .ok (.ireturn, 1) := by decide +kernel
theorem dX11_mark_42 : decode cX11_mark 42 = .ok (.iload_n 2, 1) := by decide +kernel
theorem dX11_mark_43 : decode cX11_mark 43 = .ok (.iconst 1, 1) := by decide +kernel
theorem dX11_mark_44 : decode cX11_mark 44 = .ok (.if_icmp .ne 22, 3) := by decide +kernel
theorem dX11_mark_47 : decode cX11_mark 47 = .ok (.aload_n 3, 1) := by decide +kernel
theorem dX11_mark_48 : decode cX11_mark 48 = .ok (.instanceof 146, 3) := by decide +kernel
theorem dX11_mark_51 : decode cX11_mark 51 = .ok (.ifCond .eq 15, 3) := by decide +kernel
theorem dX11_mark_54 : decode cX11_mark 54 = .ok (.aload_n 3, 1) := by decide +kernel
theorem dX11_mark_55 : decode cX11_mark 55 = .ok (.checkcast 146, 3) := by decide +kernel
theorem dX11_mark_58 : decode cX11_mark 58 = .ok (.astore 4, 2) := by decide +kernel
theorem dX11_mark_60 : decode cX11_mark 60 = .ok (.aload 4, 2) := by decide +kernel
theorem dX11_mark_62 : decode cX11_mark 62 = .ok (.getfield 166, 3) := by decide +kernel
theorem dX11_mark_65 : decode cX11_mark 65 = .ok (.ireturn, 1) := by decide +kernel
theorem dX11_mark_66 : decode cX11_mark 66 = .ok (.iload_n 2, 1) := by decide +kernel
theorem dX11_mark_67 : decode cX11_mark 67 = .ok (.iconst 2, 1) := by decide +kernel
theorem dX11_mark_68 : decode cX11_mark 68 = .ok (.if_icmp .ne 28, 3) := by decide +kernel
theorem dX11_mark_71 : decode cX11_mark 71 = .ok (.aload_n 3, 1) := by decide +kernel
theorem dX11_mark_72 : decode cX11_mark 72 = .ok (.instanceof 151, 3) := by decide +kernel
theorem dX11_mark_75 : decode cX11_mark 75 = .ok (.ifCond .eq 21, 3) := by decide +kernel
theorem dX11_mark_78 : decode cX11_mark 78 = .ok (.aload_n 3, 1) := by decide +kernel
theorem dX11_mark_79 : decode cX11_mark 79 = .ok (.checkcast 151, 3) := by decide +kernel
theorem dX11_mark_82 : decode cX11_mark 82 = .ok (.astore 4, 2) := by decide +kernel
theorem dX11_mark_84 : decode cX11_mark 84 = .ok (.aload 4, 2) := by decide +kernel
theorem dX11_mark_86 : decode cX11_mark 86 = .ok (.getfield 169, 3) := by decide +kernel
theorem dX11_mark_89 : decode cX11_mark 89 = .ok (.aload 4, 2) := by decide +kernel
theorem dX11_mark_91 : decode cX11_mark 91 = .ok (.getfield 170, 3) := by decide +kernel
theorem dX11_mark_94 : decode cX11_mark 94 = .ok (.isub, 1) := by decide +kernel
theorem dX11_mark_95 : decode cX11_mark 95 = .ok (.ireturn, 1) := by decide +kernel
theorem dX11_mark_96 : decode cX11_mark 96 = .ok (.iload_n 2, 1) := by decide +kernel
theorem dX11_mark_97 : decode cX11_mark 97 = .ok (.iconst 3, 1) := by decide +kernel
theorem dX11_mark_98 : decode cX11_mark 98 = .ok (.if_icmp .ne 22, 3) := by decide +kernel
theorem dX11_mark_101 : decode cX11_mark 101 = .ok (.aload_n 3, 1) := by decide +kernel
theorem dX11_mark_102 : decode cX11_mark 102 = .ok (.instanceof 156, 3) := by decide +kernel
theorem dX11_mark_105 : decode cX11_mark 105 = .ok (.ifCond .eq 15, 3) := by decide +kernel
theorem dX11_mark_108 : decode cX11_mark 108 = .ok (.aload_n 3, 1) := by decide +kernel
theorem dX11_mark_109 : decode cX11_mark 109 = .ok (.checkcast 156, 3) := by decide +kernel
theorem dX11_mark_112 : decode cX11_mark 112 = .ok (.astore 4, 2) := by decide +kernel
theorem dX11_mark_114 : decode cX11_mark 114 = .ok (.aload 4, 2) := by decide +kernel
theorem dX11_mark_116 : decode cX11_mark 116 = .ok (.getfield 173, 3) := by decide +kernel
theorem dX11_mark_119 : decode cX11_mark 119 = .ok (.ireturn, 1) := by decide +kernel
theorem dX11_mark_120 : decode cX11_mark 120 = .ok (.aload_n 0, 1) := by decide +kernel
theorem dX11_mark_121 : decode cX11_mark 121 = .ok (.iconst 3, 1) := by decide +kernel
theorem dX11_mark_122 : decode cX11_mark 122 = .ok (.invokevirtual 96, 3) := by decide +kernel
theorem dX11_mark_125 : decode cX11_mark 125 = .ok (.ireturn, 1) := by decide +kernel
theorem dX11_order_0 : decode cX11_order 0 = .ok (.aload_n 0, 1) := by decide +kernel
theorem dX11_order_1 : decode cX11_order 1 = .ok (.iload_n 1, 1) := by decide +kernel
theorem dX11_order_2 : decode cX11_order 2 = .ok (.invokevirtual 159, 3) := by decide +kernel
theorem dX11_order_5 : decode cX11_order 5 = .ok (.ifCond .eq 10, 3) := by decide +kernel
theorem dX11_order_8 : decode cX11_order 8 = .ok (.iload_n 2, 1) := by decide +kernel
theorem dX11_order_9 : decode cX11_order 9 = .ok (.invokestatic 176, 3) := by decide +kernel
theorem dX11_order_12 : decode cX11_order 12 = .ok (.ifCond .ne 5, 3) := by decide +kernel
theorem dX11_order_15 : decode cX11_order 15 = .ok (.iconst (-1), 1) := by decide +kernel
theorem dX11_order_16 : decode cX11_order 16 = .ok (.ireturn, 1) := by decide +kernel
theorem dX11_order_17 : decode cX11_order 17 = .ok (.aload_n 0, 1) := by decide +kernel
theorem dX11_order_18 : decode cX11_order 18 = .ok (.getfield 26, 3) := by decide +kernel
theorem dX11_order_21 : decode cX11_order 21 = .ok (.iload_n 1, 1) := by decide +kernel
theorem dX11_order_22 : decode cX11_order 22 = .ok (.aaload, 1) := by decide +kernel
theorem dX11_order_23 : decode cX11_order 23 = .ok (.ifnonnull 9, 3) := by decide +kernel
theorem dX11_order_26 : decode cX11_order 26 = .ok (.aload_n 0, 1) := by decide +kernel
theorem dX11_order_27 : decode cX11_order 27 = .ok (.iconst 1, 1) := by decide +kernel
theorem dX11_order_28 : decode cX11_order 28 = .ok (.invokevirtual 96, 3) := by decide +kernel
theorem dX11_order_31 : decode cX11_order 31 = .ok (.ireturn, 1) := by decide +kernel
theorem dX11_order_32 : decode cX11_order 32 = .ok (.aload_n 0, 1) := by decide +kernel
theorem dX11_order_33 : decode cX11_order 33 = .ok (.getfield 26, 3) := by decide +kernel
theorem dX11_order_36 : decode cX11_order 36 = .ok (.iload_n 1, 1) := by decide +kernel
theorem dX11_order_37 : decode cX11_order 37 = .ok (.aaload, 1) := by decide +kernel
theorem dX11_order_38 : decode cX11_order 38 = .ok (.iload_n 2, 1) := by decide +kernel
theorem dX11_order_39 : decode cX11_order 39 = .ok (.invokevirtual 179, 3) := by decide +kernel
theorem dX11_order_42 : decode cX11_order 42 = .ok (.invokestatic 182, 3) := by decide +kernel
theorem dX11_order_45 : decode cX11_order 45 = .ok (.ireturn, 1) := by decide +kernel
theorem dX11_shop_0 : decode cX11_shop 0 = .ok (.iload_n 1, 1) := by decide +kernel
theorem dX11_shop_1 : decode cX11_shop 1 = .ok (.iconst 1, 1) := by decide +kernel
theorem dX11_shop_2 : decode cX11_shop 2 = .ok (.bipush 12, 2) := by decide +kernel
theorem dX11_shop_4 : decode cX11_shop 4 = .ok (.invokestatic 92, 3) := by decide +kernel
theorem dX11_shop_7 : decode cX11_shop 7 = .ok (.ifCond .eq 12, 3) := by decide +kernel
theorem dX11_shop_10 : decode cX11_shop 10 = .ok (.iload_n 2, 1) := by decide +kernel
theorem dX11_shop_11 : decode cX11_shop 11 = .ok (.iconst 0, 1) := by decide +kernel
theorem dX11_shop_12 : decode cX11_shop 12 = .ok (.iconst 2, 1) := by decide +kernel
theorem dX11_shop_13 : decode cX11_shop 13 = .ok (.invokestatic 92, 3) := by decide +kernel
theorem dX11_shop_16 : decode cX11_shop 16 = .ok (.ifCond .ne 5, 3) := by decide +kernel
theorem dX11_shop_19 : decode cX11_shop 19 = .ok (.iconst (-1), 1) := by decide +kernel
theorem dX11_shop_20 : decode cX11_shop 20 = .ok (.ireturn, 1) := by decide +kernel
theorem dX11_shop_21 : decode cX11_shop 21 = .ok (.aload_n 0, 1) := by decide +kernel
theorem dX11_shop_22 : decode cX11_shop 22 = .ok (.getfield 33, 3) := by decide +kernel
theorem dX11_shop_25 : decode cX11_shop 25 = .ok (.iload_n 1, 1) := by decide +kernel
theorem dX11_shop_26 : decode cX11_shop 26 = .ok (.putfield 185, 3) := by decide +kernel
theorem dX11_shop_29 : decode cX11_shop 29 = .ok (.aload_n 0, 1) := by decide +kernel
theorem dX11_shop_30 : decode cX11_shop 30 = .ok (.getfield 33, 3) := by decide +kernel
theorem dX11_shop_33 : decode cX11_shop 33 = .ok (.iload_n 2, 1) := by decide +kernel
theorem dX11_shop_34 : decode cX11_shop 34 = .ok (.putfield 188, 3) := by decide +kernel
theorem dX11_shop_37 : decode cX11_shop 37 = .ok (.aload_n 0, 1) := by decide +kernel
theorem dX11_shop_38 : decode cX11_shop 38 = .ok (.getfield 33, 3) := by decide +kernel
theorem dX11_shop_41 : decode cX11_shop 41 = .ok (.iload_n 3, 1) := by decide +kernel
theorem dX11_shop_42 : decode cX11_shop 42 = .ok (.putfield 191, 3) := by decide +kernel
theorem dX11_shop_45 : decode cX11_shop 45 = .ok (.iconst 1, 1) := by decide +kernel
theorem dX11_shop_46 : decode cX11_shop 46 = .ok (.ireturn, 1) := by decide +kernel
theorem dX11_costs_0 : decode cX11_costs 0 = .ok (.iload_n 1, 1) := by decide +kernel
theorem dX11_costs_1 : decode cX11_costs 1 = .ok (.invokestatic 194, 3) := by decide +kernel
theorem dX11_costs_4 : decode cX11_costs 4 = .ok (.ifCond .eq 25, 3) := by decide +kernel
theorem dX11_costs_7 : decode cX11_costs 7 = .ok (.iload_n 2, 1) := by decide +kernel
theorem dX11_costs_8 : decode cX11_costs 8 = .ok (.invokestatic 194, 3) := by decide +kernel
theorem dX11_costs_11 : decode cX11_costs 11 = .ok (.ifCond .eq 18, 3) := by decide +kernel
theorem dX11_costs_14 : decode cX11_costs 14 = .ok (.iload_n 3, 1) := by decide +kernel
theorem dX11_costs_15 : decode cX11_costs 15 = .ok (.invokestatic 194, 3) := by decide +kernel
theorem dX11_costs_18 : decode cX11_costs 18 = .ok (.ifCond .eq 11, 3) := by decide +kernel
theorem dX11_costs_21 : decode cX11_costs 21 = .ok (.iload 4, 2) := by decide +kernel
theorem dX11_costs_23 : decode cX11_costs 23 = .ok (.invokestatic 194, 3) := by decide +kernel
theorem dX11_costs_26 : decode cX11_costs 26 = .ok (.ifCond .ne 5, 3) := by decide +kernel
theorem dX11_costs_29 : decode cX11_costs 29 = .ok (.iconst (-1), 1) := by decide +kernel
theorem dX11_costs_30 : decode cX11_costs 30 = .ok (.ireturn, 1) := by decide +kernel
theorem dX11_costs_31 : decode cX11_costs 31 = .ok (.aload_n 0, 1) := by decide +kernel
theorem dX11_costs_32 : decode cX11_costs 32 = .ok (.getfield 33, 3) := by decide +kernel
theorem dX11_costs_35 : decode cX11_costs 35 = .ok (.iload_n 1, 1) := by decide +kernel
theorem dX11_costs_36 : decode cX11_costs 36 = .ok (.putfield 197, 3) := by decide +kernel
theorem dX11_costs_39 : decode cX11_costs 39 = .ok (.aload_n 0, 1) := by decide +kernel
theorem dX11_costs_40 : decode cX11_costs 40 = .ok (.getfield 33, 3) := by decide +kernel
theorem dX11_costs_43 : decode cX11_costs 43 = .ok (.iload_n 2, 1) := by decide +kernel
theorem dX11_costs_44 : decode cX11_costs 44 = .ok (.putfield 200, 3) := by decide +kernel
theorem dX11_costs_47 : decode cX11_costs 47 = .ok (.aload_n 0, 1) := by decide +kernel
theorem dX11_costs_48 : decode cX11_costs 48 = .ok (.getfield 33, 3) := by decide +kernel
theorem dX11_costs_51 : decode cX11_costs 51 = .ok (.iload_n 3, 1) := by decide +kernel
theorem dX11_costs_52 : decode cX11_costs 52 = .ok (.putfield 203, 3) := by decide +kernel
theorem dX11_costs_55 : decode cX11_costs 55 = .ok (.aload_n 0, 1) := by decide +kernel
theorem dX11_costs_56 : decode cX11_costs 56 = .ok (.getfield 33, 3) := by decide +kernel
theorem dX11_costs_59 : decode cX11_costs 59 = .ok (.iload 4, 2) := by decide +kernel
theorem dX11_costs_61 : decode cX11_costs 61 = .ok (.putfield 206, 3) := by decide +kernel
theorem dX11_costs_64 : decode cX11_costs 64 = .ok (.iconst 1, 1) := by decide +kernel
theorem dX11_costs_65 : decode cX11_costs 65 = .ok (.ireturn, 1) := by decide +kernel
theorem dX11_cost_0 : decode cX11_cost 0 = .ok (.aload_n 0, 1) := by decide +kernel
theorem dX11_cost_1 : decode cX11_cost 1 = .ok (.iload_n 1, 1) := by decide +kernel
theorem dX11_cost_2 : decode cX11_cost 2 = .ok (.invokevirtual 159, 3) := by decide +kernel
theorem dX11_cost_5 : decode cX11_cost 5 = .ok (.ifCond .eq 14, 3) := by decide +kernel
theorem dX11_cost_8 : decode cX11_cost 8 = .ok (.aload_n 0, 1) := by decide +kernel
theorem dX11_cost_9 : decode cX11_cost 9 = .ok (.iload_n 2, 1) := by decide +kernel
theorem dX11_cost_10 : decode cX11_cost 10 = .ok (.iload_n 3, 1) := by decide +kernel
theorem dX11_cost_11 : decode cX11_cost 11 = .ok (.iload 4, 2) := by decide +kernel
theorem dX11_cost_13 : decode cX11_cost 13 = .ok (.invokevirtual 209, 3) := by decide +kernel
theorem dX11_cost_16 : decode cX11_cost 16 = .ok (.ifCond .ne 5, 3) := by decide +kernel
theorem dX11_cost_19 : decode cX11_cost 19 = .ok (.iconst (-1), 1) := by decide +kernel
theorem dX11_cost_20 : decode cX11_cost 20 = .ok (.ireturn, 1) := by decide +kernel
theorem dX11_cost_21 : decode cX11_cost 21 = .ok (.aload_n 0, 1) := by decide +kernel
theorem dX11_cost_22 : decode cX11_cost 22 = .ok (.getfield 26, 3) := by decide +kernel
theorem dX11_cost_25 : decode cX11_cost 25 = .ok (.iload_n 1, 1) := by decide +kernel
theorem dX11_cost_26 : decode cX11_cost 26 = .ok (.aaload, 1) := by decide +kernel
theorem dX11_cost_27 : decode cX11_cost 27 = .ok (.aload_n 0, 1) := by decide +kernel
theorem dX11_cost_28 : decode cX11_cost 28 = .ok (.getfield 11, 3) := by decide +kernel
theorem dX11_cost_31 : decode cX11_cost 31 = .ok (.iload_n 2, 1) := by decide +kernel
theorem dX11_cost_32 : decode cX11_cost 32 = .ok (.aaload, 1) := by decide +kernel
theorem dX11_cost_33 : decode cX11_cost 33 = .ok (.invokestatic 212, 3) := by decide +kernel
theorem dX11_cost_36 : decode cX11_cost 36 = .ok (.istore 5, 2) := by decide +kernel
theorem dX11_cost_38 : decode cX11_cost 38 = .ok (.iload 5, 2) := by decide +kernel
theorem dX11_cost_40 : decode cX11_cost 40 = .ok (.ifCond .eq 10, 3) := by decide +kernel
theorem dX11_cost_43 : decode cX11_cost 43 = .ok (.aload_n 0, 1) := by decide +kernel
theorem dX11_cost_44 : decode cX11_cost 44 = .ok (.iload 5, 2) := by decide +kernel
theorem dX11_cost_46 : decode cX11_cost 46 = .ok (.invokevirtual 96, 3) := by decide +kernel
theorem dX11_cost_49 : decode cX11_cost 49 = .ok (.ireturn, 1) := by decide +kernel
theorem dX11_cost_50 : decode cX11_cost 50 = .ok (.aload_n 0, 1) := by decide +kernel
theorem dX11_cost_51 : decode cX11_cost 51 = .ok (.getfield 33, 3) := by decide +kernel
theorem dX11_cost_54 : decode cX11_cost 54 = .ok (.aload_n 0, 1) := by decide +kernel
theorem dX11_cost_55 : decode cX11_cost 55 = .ok (.getfield 11, 3) := by decide +kernel
theorem dX11_cost_58 : decode cX11_cost 58 = .ok (.iload_n 2, 1) := by decide +kernel
theorem dX11_cost_59 : decode cX11_cost 59 = .ok (.aaload, 1) := by decide +kernel
theorem dX11_cost_60 : decode cX11_cost 60 = .ok (.invokevirtual 215, 3) := by decide +kernel
theorem dX11_cost_63 : decode cX11_cost 63 = .ok (.aload_n 0, 1) := by decide +kernel
theorem dX11_cost_64 : decode cX11_cost 64 = .ok (.getfield 59, 3) := by decide +kernel
theorem dX11_cost_67 : decode cX11_cost 67 = .ok (.aload_n 0, 1) := by decide +kernel
theorem dX11_cost_68 : decode cX11_cost 68 = .ok (.getfield 26, 3) := by decide +kernel
theorem dX11_cost_71 : decode cX11_cost 71 = .ok (.iload_n 1, 1) := by decide +kernel
theorem dX11_cost_72 : decode cX11_cost 72 = .ok (.aaload, 1) := by decide +kernel
theorem dX11_cost_73 : decode cX11_cost 73 = .ok (.invokevirtual 219, 3) := by decide +kernel
theorem dX11_cost_76 : decode cX11_cost 76 = .ok (.aload_n 0, 1) := by decide +kernel
theorem dX11_cost_77 : decode cX11_cost 77 = .ok (.getfield 59, 3) := by decide +kernel
theorem dX11_cost_80 : decode cX11_cost 80 = .ok (.aload_n 0, 1) := by decide +kernel
theorem dX11_cost_81 : decode cX11_cost 81 = .ok (.getfield 11, 3) := by decide +kernel
theorem dX11_cost_84 : decode cX11_cost 84 = .ok (.iload_n 2, 1) := by decide +kernel
theorem dX11_cost_85 : decode cX11_cost 85 = .ok (.aaload, 1) := by decide +kernel
theorem dX11_cost_86 : decode cX11_cost 86 = .ok (.iload_n 3, 1) := by decide +kernel
theorem dX11_cost_87 : decode cX11_cost 87 = .ok (.iload 4, 2) := by decide +kernel
theorem dX11_cost_89 : decode cX11_cost 89 = .ok (.ldc2_w 223, 3) := by decide +kernel
theorem dX11_cost_92 : decode cX11_cost 92 = .ok (.invokevirtual 225, 3) := by decide +kernel
theorem dX11_cost_95 : decode cX11_cost 95 = .ok (.lstore 6, 2) := by decide +kernel
theorem dX11_cost_97 : decode cX11_cost 97 = .ok (.aload_n 0, 1) := by decide +kernel
theorem dX11_cost_98 : decode cX11_cost 98 = .ok (.lload 6, 2) := by decide +kernel
theorem dX11_cost_100 : decode cX11_cost 100 = .ok (.aload_n 0, 1) := by decide +kernel
theorem dX11_cost_101 : decode cX11_cost 101 = .ok (.getfield 11, 3) := by decide +kernel
theorem dX11_cost_104 : decode cX11_cost 104 = .ok (.iload_n 2, 1) := by decide +kernel
theorem dX11_cost_105 : decode cX11_cost 105 = .ok (.aaload, 1) := by decide +kernel
theorem dX11_cost_106 : decode cX11_cost 106 = .ok (.iload 4, 2) := by decide +kernel
theorem dX11_cost_108 : decode cX11_cost 108 = .ok (.invokestatic 229, 3) := by decide +kernel
theorem dX11_cost_111 : decode cX11_cost 111 = .ok (.invokevirtual 233, 3) := by decide +kernel
theorem dX11_cost_114 : decode cX11_cost 114 = .ok (.ireturn, 1) := by decide +kernel
theorem dX11_service_0 : decode cX11_service 0 = .ok (.iload_n 1, 1) := by decide +kernel
theorem dX11_service_1 : decode cX11_service 1 = .ok (.iconst 0, 1) := by decide +kernel
theorem dX11_service_2 : decode cX11_service 2 = .ok (.iconst 2, 1) := by decide +kernel
theorem dX11_service_3 : decode cX11_service 3 = .ok (.invokestatic 92, 3) := by decide +kernel
theorem dX11_service_6 : decode cX11_service 6 = .ok (.ifCond .eq 23, 3) := by decide +kernel
theorem dX11_service_9 : decode cX11_service 9 = .ok (.aload_n 0, 1) := by decide +kernel
theorem dX11_service_10 : decode cX11_service 10 = .ok (.iload_n 2, 1) := by decide +kernel
theorem dX11_service_11 : decode cX11_service 11 = .ok (.invokevirtual 159, 3) := by decide +kernel
theorem dX11_service_14 : decode cX11_service 14 = .ok (.ifCond .eq 15, 3) := by decide +kernel
theorem dX11_service_17 : decode cX11_service 17 = .ok (.aload_n 0, 1) := by decide +kernel
theorem dX11_service_18 : decode cX11_service 18 = .ok (.iload_n 3, 1) := by decide +kernel
theorem dX11_service_19 : decode cX11_service 19 = .ok (.iload 4, 2) := by decide +kernel
theorem dX11_service_21 : decode cX11_service 21 = .ok (.iload 5, 2) := by decide +kernel
theorem dX11_service_23 : decode cX11_service 23 = .ok (.invokevirtual 209, 3) := by decide +kernel
theorem dX11_service_26 : decode cX11_service 26 = .ok (.ifCond .ne 5, 3) := by decide +kernel
theorem dX11_service_29 : decode cX11_service 29 = .ok (.iconst (-1), 1) := by decide +kernel
theorem dX11_service_30 : decode cX11_service 30 = .ok (.ireturn, 1) := by decide +kernel
theorem dX11_service_31 : decode cX11_service 31 = .ok (.aload_n 0, 1) := by decide +kernel
theorem dX11_service_32 : decode cX11_service 32 = .ok (.getfield 26, 3) := by decide +kernel
theorem dX11_service_35 : decode cX11_service 35 = .ok (.iload_n 2, 1) := by decide +kernel
theorem dX11_service_36 : decode cX11_service 36 = .ok (.aaload, 1) := by decide +kernel
theorem dX11_service_37 : decode cX11_service 37 = .ok (.aload_n 0, 1) := by decide +kernel
theorem dX11_service_38 : decode cX11_service 38 = .ok (.getfield 11, 3) := by decide +kernel
theorem dX11_service_41 : decode cX11_service 41 = .ok (.iload_n 3, 1) := by decide +kernel
theorem dX11_service_42 : decode cX11_service 42 = .ok (.aaload, 1) := by decide +kernel
theorem dX11_service_43 : decode cX11_service 43 = .ok (.invokestatic 212, 3) := by decide +kernel
theorem dX11_service_46 : decode cX11_service 46 = .ok (.istore 6, 2) := by decide +kernel
theorem dX11_service_48 : decode cX11_service 48 = .ok (.iload 6, 2) := by decide +kernel
theorem dX11_service_50 : decode cX11_service 50 = .ok (.ifCond .eq 10, 3) := by decide +kernel
theorem dX11_service_53 : decode cX11_service 53 = .ok (.aload_n 0, 1) := by decide +kernel
theorem dX11_service_54 : decode cX11_service 54 = .ok (.iload 6, 2) := by decide +kernel
theorem dX11_service_56 : decode cX11_service 56 = .ok (.invokevirtual 96, 3) := by decide +kernel
theorem dX11_service_59 : decode cX11_service 59 = .ok (.ireturn, 1) := by decide +kernel
theorem dX11_service_60 : decode cX11_service 60 = .ok (.aload_n 0, 1) := by decide +kernel
theorem dX11_service_61 : decode cX11_service 61 = .ok (.getfield 11, 3) := by decide +kernel
theorem dX11_service_64 : decode cX11_service 64 = .ok (.iload_n 3, 1) := by decide +kernel
theorem dX11_service_65 : decode cX11_service 65 = .ok (.aaload, 1) := by decide +kernel
theorem dX11_service_66 : decode cX11_service 66 = .ok (.astore 7, 2) := by decide +kernel
theorem dX11_service_68 : decode cX11_service 68 = .ok (.aload_n 0, 1) := by decide +kernel
theorem dX11_service_69 : decode cX11_service 69 = .ok (.getfield 33, 3) := by decide +kernel
theorem dX11_service_72 : decode cX11_service 72 = .ok (.aload 7, 2) := by decide +kernel
theorem dX11_service_74 : decode cX11_service 74 = .ok (.invokevirtual 215, 3) := by decide +kernel
theorem dX11_service_77 : decode cX11_service 77 = .ok (.aload_n 0, 1) := by decide +kernel
theorem dX11_service_78 : decode cX11_service 78 = .ok (.getfield 59, 3) := by decide +kernel
theorem dX11_service_81 : decode cX11_service 81 = .ok (.aload_n 0, 1) := by decide +kernel
theorem dX11_service_82 : decode cX11_service 82 = .ok (.getfield 26, 3) := by decide +kernel
theorem dX11_service_85 : decode cX11_service 85 = .ok (.iload_n 2, 1) := by decide +kernel
theorem dX11_service_86 : decode cX11_service 86 = .ok (.aaload, 1) := by decide +kernel
theorem dX11_service_87 : decode cX11_service 87 = .ok (.invokevirtual 219, 3) := by decide +kernel
theorem dX11_service_90 : decode cX11_service 90 = .ok (.iload_n 1, 1) := by decide +kernel
theorem dX11_service_91 : decode cX11_service 91 = .ok (.ifCond .ne 28, 3) := by decide +kernel
theorem dX11_service_94 : decode cX11_service 94 = .ok (.aload_n 0, 1) := by decide +kernel
theorem dX11_service_95 : decode cX11_service 95 = .ok (.aload_n 0, 1) := by decide +kernel
theorem dX11_service_96 : decode cX11_service 96 = .ok (.getfield 59, 3) := by decide +kernel
theorem dX11_service_99 : decode cX11_service 99 = .ok (.aload 7, 2) := by decide +kernel
theorem dX11_service_101 : decode cX11_service 101 = .ok (.iload 4, 2) := by decide +kernel
theorem dX11_service_103 : decode cX11_service 103 = .ok (.iload 5, 2) := by decide +kernel
theorem dX11_service_105 : decode cX11_service 105 = .ok (.invokevirtual 237, 3) := by decide +kernel
theorem dX11_service_108 : decode cX11_service 108 = .ok (.aload 7, 2) := by decide +kernel
theorem dX11_service_110 : decode cX11_service 110 = .ok (.iload 5, 2) := by decide +kernel
theorem dX11_service_112 : decode cX11_service 112 = .ok (.invokestatic 229, 3) := by decide +kernel
theorem dX11_service_115 : decode cX11_service 115 = .ok (.invokevirtual 233, 3) := by decide +kernel
theorem dX11_service_118 : decode cX11_service 118 = .ok (.ireturn, 1) := by decide +kernel
theorem dX11_service_119 : decode cX11_service 119 = .ok (.aload_n 0, 1) := by decide +kernel
theorem dX11_service_120 : decode cX11_service 120 = .ok (.getfield 59, 3) := by decide +kernel
theorem dX11_service_123 : decode cX11_service 123 = .ok (.aload 7, 2) := by decide +kernel
theorem dX11_service_125 : decode cX11_service 125 = .ok (.iload 4, 2) := by decide +kernel
theorem dX11_service_127 : decode cX11_service 127 = .ok (.iload 5, 2) := by decide +kernel
theorem dX11_service_129 : decode cX11_service 129 = .ok (.ldc2_w 223, 3) := by decide +kernel
theorem dX11_service_132 : decode cX11_service 132 = .ok (.invokevirtual 225, 3) := by decide +kernel
theorem dX11_service_135 : decode cX11_service 135 = .ok (.pop2, 1) := by decide +kernel
theorem dX11_service_136 : decode cX11_service 136 = .ok (.iload_n 1, 1) := by decide +kernel
theorem dX11_service_137 : decode cX11_service 137 = .ok (.iconst 1, 1) := by decide +kernel
theorem dX11_service_138 : decode cX11_service 138 = .ok (.if_icmp .ne 34, 3) := by decide +kernel
theorem dX11_service_141 : decode cX11_service 141 = .ok (.aload_n 0, 1) := by decide +kernel
theorem dX11_service_142 : decode cX11_service 142 = .ok (.aload_n 0, 1) := by decide +kernel
theorem dX11_service_143 : decode cX11_service 143 = .ok (.getfield 59, 3) := by decide +kernel
theorem dX11_service_146 : decode cX11_service 146 = .ok (.getfield 241, 3) := by decide +kernel
theorem dX11_service_149 : decode cX11_service 149 = .ok (.iload 5, 2) := by decide +kernel
theorem dX11_service_151 : decode cX11_service 151 = .ok (.aload 7, 2) := by decide +kernel
theorem dX11_service_153 : decode cX11_service 153 = .ok (.invokevirtual 124, 3) := by decide +kernel
theorem dX11_service_156 : decode cX11_service 156 = .ok (.imul, 1) := by decide +kernel
theorem dX11_service_157 : decode cX11_service 157 = .ok (.i2l, 1) := by decide +kernel
theorem dX11_service_158 : decode cX11_service 158 = .ok (.aload 7, 2) := by decide +kernel
theorem dX11_service_160 : decode cX11_service 160 = .ok (.iload 5, 2) := by decide +kernel
theorem dX11_service_162 : decode cX11_service 162 = .ok (.iconst 1, 1) := by decide +kernel
theorem dX11_service_163 : decode cX11_service 163 = .ok (.isub, 1) := by decide +kernel
theorem dX11_service_164 : decode cX11_service 164 = .ok (.invokestatic 229, 3) := by decide +kernel
theorem dX11_service_167 : decode cX11_service 167 = .ok (.lmul, 1) := by decide +kernel
theorem dX11_service_168 : decode cX11_service 168 = .ok (.invokevirtual 233, 3) := by decide +kernel
theorem dX11_service_171 : decode cX11_service 171 = .ok (.ireturn, 1) := by decide +kernel
theorem dX11_service_172 : decode cX11_service 172 = .ok (.aload_n 0, 1) := by decide +kernel
theorem dX11_service_173 : decode cX11_service 173 = .ok (.aload_n 0, 1) := by decide +kernel
theorem dX11_service_174 : decode cX11_service 174 = .ok (.getfield 59, 3) := by decide +kernel
theorem dX11_service_177 : decode cX11_service 177 = .ok (.getfield 244, 3) := by decide +kernel
theorem dX11_service_180 : decode cX11_service 180 = .ok (.iload 5, 2) := by decide +kernel
theorem dX11_service_182 : decode cX11_service 182 = .ok (.i2l, 1) := by decide +kernel
theorem dX11_service_183 : decode cX11_service 183 = .ok (.aload 7, 2) := by decide +kernel
theorem dX11_service_185 : decode cX11_service 185 = .ok (.iload 5, 2) := by decide +kernel
theorem dX11_service_187 : decode cX11_service 187 = .ok (.invokestatic 229, 3) := by decide +kernel
theorem dX11_service_190 : decode cX11_service 190 = .ok (.lmul, 1) := by decide +kernel
theorem dX11_service_191 : decode cX11_service 191 = .ok (.invokevirtual 233, 3) := by decide +kernel
theorem dX11_service_194 : decode cX11_service 194 = .ok (.ireturn, 1) := by decide +kernel
theorem dX11_best_0 : decode cX11_best 0 = .ok (.aload_n 0, 1) := by decide +kernel
theorem dX11_best_1 : decode cX11_best 1 = .ok (.iload_n 1, 1) := by decide +kernel
theorem dX11_best_2 : decode cX11_best 2 = .ok (.iload_n 2, 1) := by decide +kernel
theorem dX11_best_3 : decode cX11_best 3 = .ok (.iload_n 3, 1) := by decide +kernel
theorem dX11_best_4 : decode cX11_best 4 = .ok (.invokevirtual 209, 3) := by decide +kernel
theorem dX11_best_7 : decode cX11_best 7 = .ok (.ifCond .ne 5, 3) := by decide +kernel
theorem dX11_best_10 : decode cX11_best 10 = .ok (.iconst (-1), 1) := by decide +kernel
theorem dX11_best_11 : decode cX11_best 11 = .ok (.ireturn, 1) := by decide +kernel
theorem dX11_best_12 : decode cX11_best 12 = .ok (.aload_n 0, 1) := by decide +kernel
theorem dX11_best_13 : decode cX11_best 13 = .ok (.getfield 11, 3) := by decide +kernel
theorem dX11_best_16 : decode cX11_best 16 = .ok (.iload_n 1, 1) := by decide +kernel
theorem dX11_best_17 : decode cX11_best 17 = .ok (.aaload, 1) := by decide +kernel
theorem dX11_best_18 : decode cX11_best 18 = .ok (.invokestatic 116, 3) := by decide +kernel
theorem dX11_best_21 : decode cX11_best 21 = .ok (.istore 4, 2) := by decide +kernel
theorem dX11_best_23 : decode cX11_best 23 = .ok (.iload 4, 2) := by decide +kernel
theorem dX11_best_25 : decode cX11_best 25 = .ok (.ifCond .eq 10, 3) := by decide +kernel
theorem dX11_best_28 : decode cX11_best 28 = .ok (.aload_n 0, 1) := by decide +kernel
theorem dX11_best_29 : decode cX11_best 29 = .ok (.iload 4, 2) := by decide +kernel
theorem dX11_best_31 : decode cX11_best 31 = .ok (.invokevirtual 96, 3) := by decide +kernel
theorem dX11_best_34 : decode cX11_best 34 = .ok (.ireturn, 1) := by decide +kernel
theorem dX11_best_35 : decode cX11_best 35 = .ok (.aload_n 0, 1) := by decide +kernel
theorem dX11_best_36 : decode cX11_best 36 = .ok (.getfield 33, 3) := by decide +kernel
theorem dX11_best_39 : decode cX11_best 39 = .ok (.aload_n 0, 1) := by decide +kernel
theorem dX11_best_40 : decode cX11_best 40 = .ok (.getfield 11, 3) := by decide +kernel
theorem dX11_best_43 : decode cX11_best 43 = .ok (.iload_n 1, 1) := by decide +kernel
theorem dX11_best_44 : decode cX11_best 44 = .ok (.aaload, 1) := by decide +kernel
theorem dX11_best_45 : decode cX11_best 45 = .ok (.invokevirtual 215, 3) := by decide +kernel
theorem dX11_best_48 : decode cX11_best 48 = .ok (.aload_n 0, 1) := by decide +kernel
theorem dX11_best_49 : decode cX11_best 49 = .ok (.getfield 68, 3) := by decide +kernel
theorem dX11_best_52 : decode cX11_best 52 = .ok (.aload_n 0, 1) := by decide +kernel
theorem dX11_best_53 : decode cX11_best 53 = .ok (.getfield 11, 3) := by decide +kernel
theorem dX11_best_56 : decode cX11_best 56 = .ok (.iload_n 1, 1) := by decide +kernel
theorem dX11_best_57 : decode cX11_best 57 = .ok (.aaload, 1) := by decide +kernel
theorem dX11_best_58 : decode cX11_best 58 = .ok (.iload_n 2, 1) := by decide +kernel
theorem dX11_best_59 : decode cX11_best 59 = .ok (.iload_n 3, 1) := by decide +kernel
theorem dX11_best_60 : decode cX11_best 60 = .ok (.invokevirtual 247, 3) := by decide +kernel
theorem dX11_best_63 : decode cX11_best 63 = .ok (.aload_n 0, 1) := by decide +kernel
theorem dX11_best_64 : decode cX11_best 64 = .ok (.aload_n 0, 1) := by decide +kernel
theorem dX11_best_65 : decode cX11_best 65 = .ok (.getfield 68, 3) := by decide +kernel
theorem dX11_best_68 : decode cX11_best 68 = .ok (.getfield 251, 3) := by decide +kernel
theorem dX11_best_71 : decode cX11_best 71 = .ok (.aload_n 0, 1) := by decide +kernel
theorem dX11_best_72 : decode cX11_best 72 = .ok (.getfield 11, 3) := by decide +kernel
theorem dX11_best_75 : decode cX11_best 75 = .ok (.iload_n 1, 1) := by decide +kernel
theorem dX11_best_76 : decode cX11_best 76 = .ok (.aaload, 1) := by decide +kernel
theorem dX11_best_77 : decode cX11_best 77 = .ok (.iload_n 3, 1) := by decide +kernel
theorem dX11_best_78 : decode cX11_best 78 = .ok (.invokestatic 229, 3) := by decide +kernel
theorem dX11_best_81 : decode cX11_best 81 = .ok (.invokevirtual 233, 3) := by decide +kernel
theorem dX11_best_84 : decode cX11_best 84 = .ok (.pop, 1) := by decide +kernel
theorem dX11_best_85 : decode cX11_best 85 = .ok (.aload_n 0, 1) := by decide +kernel
theorem dX11_best_86 : decode cX11_best 86 = .ok (.getfield 68, 3) := by decide +kernel
theorem dX11_best_89 : decode cX11_best 89 = .ok (.getfield 254, 3) := by decide +kernel
theorem dX11_best_92 : decode cX11_best 92 = .ok (.ireturn, 1) := by decide +kernel
theorem dX11_bestPair_0 : decode cX11_bestPair 0 = .ok (.aload_n 0, 1) := by decide +kernel
theorem dX11_bestPair_1 : decode cX11_bestPair 1 = .ok (.iload_n 1, 1) := by decide +kernel
theorem dX11_bestPair_2 : decode cX11_bestPair 2 = .ok (.iload_n 2, 1) := by decide +kernel
theorem dX11_bestPair_3 : decode cX11_bestPair 3 = .ok (.iload_n 3, 1) := by decide +kernel
theorem dX11_bestPair_4 : decode cX11_bestPair 4 = .ok (.invokevirtual 209, 3) := by decide +kernel
theorem dX11_bestPair_7 : decode cX11_bestPair 7 = .ok (.ifCond .ne 5, 3) := by decide +kernel
theorem dX11_bestPair_10 : decode cX11_bestPair 10 = .ok (.iconst (-1), 1) := by decide +kernel
theorem dX11_bestPair_11 : decode cX11_bestPair 11 = .ok (.ireturn, 1) := by decide +kernel
theorem dX11_bestPair_12 : decode cX11_bestPair 12 = .ok (.aload_n 0, 1) := by decide +kernel
theorem dX11_bestPair_13 : decode cX11_bestPair 13 = .ok (.getfield 11, 3) := by decide +kernel
theorem dX11_bestPair_16 : decode cX11_bestPair 16 = .ok (.iload_n 1, 1) := by decide +kernel
theorem dX11_bestPair_17 : decode cX11_bestPair 17 = .ok (.aaload, 1) := by decide +kernel
theorem dX11_bestPair_18 : decode cX11_bestPair 18 = .ok (.invokestatic 116, 3) := by decide +kernel
theorem dX11_bestPair_21 : decode cX11_bestPair 21 = .ok (.istore 4, 2) := by decide +kernel
theorem dX11_bestPair_23 : decode cX11_bestPair 23 = .ok (.iload 4, 2) := by decide +kernel
theorem dX11_bestPair_25 : decode cX11_bestPair 25 = .ok (.ifCond .eq 10, 3) := by decide +kernel
theorem dX11_bestPair_28 : decode cX11_bestPair 28 = .ok (.aload_n 0, 1) := by decide +kernel
theorem dX11_bestPair_29 : decode cX11_bestPair 29 = .ok (.iload 4, 2) := by decide +kernel
theorem dX11_bestPair_31 : decode cX11_bestPair 31 = .ok (.invokevirtual 96, 3) := by decide +kernel
theorem dX11_bestPair_34 : decode cX11_bestPair 34 = .ok (.ireturn, 1) := by decide +kernel
theorem dX11_bestPair_35 : decode cX11_bestPair 35 = .ok (.aload_n 0, 1) := by decide +kernel
theorem dX11_bestPair_36 : decode cX11_bestPair 36 = .ok (.getfield 33, 3) := by decide +kernel
theorem dX11_bestPair_39 : decode cX11_bestPair 39 = .ok (.aload_n 0, 1) := by decide +kernel
theorem dX11_bestPair_40 : decode cX11_bestPair 40 = .ok (.getfield 11, 3) := by decide +kernel
theorem dX11_bestPair_43 : decode cX11_bestPair 43 = .ok (.iload_n 1, 1) := by decide +kernel
theorem dX11_bestPair_44 : decode cX11_bestPair 44 = .ok (.aaload, 1) := by decide +kernel
theorem dX11_bestPair_45 : decode cX11_bestPair 45 = .ok (.invokevirtual 215, 3) := by decide +kernel
theorem dX11_bestPair_48 : decode cX11_bestPair 48 = .ok (.aload_n 0, 1) := by decide +kernel
theorem dX11_bestPair_49 : decode cX11_bestPair 49 = .ok (.aload_n 0, 1) := by decide +kernel
theorem dX11_bestPair_50 : decode cX11_bestPair 50 = .ok (.getfield 11, 3) := by decide +kernel
theorem dX11_bestPair_53 : decode cX11_bestPair 53 = .ok (.iload_n 1, 1) := by decide +kernel
theorem dX11_bestPair_54 : decode cX11_bestPair 54 = .ok (.aaload, 1) := by decide +kernel
theorem dX11_bestPair_55 : decode cX11_bestPair 55 = .ok (.iload_n 2, 1) := by decide +kernel
theorem dX11_bestPair_56 : decode cX11_bestPair 56 = .ok (.iload_n 3, 1) := by decide +kernel
theorem dX11_bestPair_57 : decode cX11_bestPair 57 = .ok (.invokevirtual 257, 3) := by decide +kernel
theorem dX11_bestPair_60 : decode cX11_bestPair 60 = .ok (.lstore 5, 2) := by decide +kernel
theorem dX11_bestPair_62 : decode cX11_bestPair 62 = .ok (.aload_n 0, 1) := by decide +kernel
theorem dX11_bestPair_63 : decode cX11_bestPair 63 = .ok (.lload 5, 2) := by decide +kernel
theorem dX11_bestPair_65 : decode cX11_bestPair 65 = .ok (.aload_n 0, 1) := by decide +kernel
theorem dX11_bestPair_66 : decode cX11_bestPair 66 = .ok (.getfield 11, 3) := by decide +kernel
theorem dX11_bestPair_69 : decode cX11_bestPair 69 = .ok (.iload_n 1, 1) := by decide +kernel
theorem dX11_bestPair_70 : decode cX11_bestPair 70 = .ok (.aaload, 1) := by decide +kernel
theorem dX11_bestPair_71 : decode cX11_bestPair 71 = .ok (.iload_n 3, 1) := by decide +kernel
theorem dX11_bestPair_72 : decode cX11_bestPair 72 = .ok (.invokestatic 229, 3) := by decide +kernel
theorem dX11_bestPair_75 : decode cX11_bestPair 75 = .ok (.invokevirtual 233, 3) := by decide +kernel
theorem dX11_bestPair_78 : decode cX11_bestPair 78 = .ok (.ireturn, 1) := by decide +kernel
theorem dX11_pairTold_0 : decode cX11_pairTold 0 = .ok (.iload_n 1, 1) := by decide +kernel
theorem dX11_pairTold_1 : decode cX11_pairTold 1 = .ok (.iconst 0, 1) := by decide +kernel
theorem dX11_pairTold_2 : decode cX11_pairTold 2 = .ok (.iconst 1, 1) := by decide +kernel
theorem dX11_pairTold_3 : decode cX11_pairTold 3 = .ok (.invokestatic 92, 3) := by decide +kernel
theorem dX11_pairTold_6 : decode cX11_pairTold 6 = .ok (.ifCond .ne 5, 3) := by decide +kernel
theorem dX11_pairTold_9 : decode cX11_pairTold 9 = .ok (.iconst (-1), 1) := by decide +kernel
theorem dX11_pairTold_10 : decode cX11_pairTold 10 = .ok (.ireturn, 1) := by decide +kernel
theorem dX11_pairTold_11 : decode cX11_pairTold 11 = .ok (.aload_n 0, 1) := by decide +kernel
theorem dX11_pairTold_12 : decode cX11_pairTold 12 = .ok (.getfield 260, 3) := by decide +kernel
theorem dX11_pairTold_15 : decode cX11_pairTold 15 = .ok (.ifCond .ne 6, 3) := by decide +kernel
theorem dX11_pairTold_18 : decode cX11_pairTold 18 = .ok (.bipush (-9), 2) := by decide +kernel
theorem dX11_pairTold_20 : decode cX11_pairTold 20 = .ok (.ireturn, 1) := by decide +kernel
theorem dX11_pairTold_21 : decode cX11_pairTold 21 = .ok (.iload_n 1, 1) := by decide +kernel
theorem dX11_pairTold_22 : decode cX11_pairTold 22 = .ok (.ifCond .ne 10, 3) := by decide +kernel
theorem dX11_pairTold_25 : decode cX11_pairTold 25 = .ok (.aload_n 0, 1) := by decide +kernel
theorem dX11_pairTold_26 : decode cX11_pairTold 26 = .ok (.getfield 263, 3) := by decide +kernel
theorem dX11_pairTold_29 : decode cX11_pairTold 29 = .ok (.goto 7, 3) := by decide +kernel
theorem dX11_pairTold_32 : decode cX11_pairTold 32 = .ok (.aload_n 0, 1) := by decide +kernel
theorem dX11_pairTold_33 : decode cX11_pairTold 33 = .ok (.getfield 266, 3) := by decide +kernel
theorem dX11_pairTold_36 : decode cX11_pairTold 36 = .ok (.ireturn, 1) := by decide +kernel
theorem dX11_spoilt_0 : decode cX11_spoilt 0 = .ok (.iload_n 1, 1) := by decide +kernel
theorem dX11_spoilt_1 : decode cX11_spoilt 1 = .ok (.invokestatic 81, 3) := by decide +kernel
theorem dX11_spoilt_4 : decode cX11_spoilt 4 = .ok (.ifCond .eq 30, 3) := by decide +kernel
theorem dX11_spoilt_7 : decode cX11_spoilt 7 = .ok (.iload_n 2, 1) := by decide +kernel
theorem dX11_spoilt_8 : decode cX11_spoilt 8 = .ok (.iconst 0, 1) := by decide +kernel
theorem dX11_spoilt_9 : decode cX11_spoilt 9 = .ok (.bipush 12, 2) := by decide +kernel
theorem dX11_spoilt_11 : decode cX11_spoilt 11 = .ok (.invokestatic 92, 3) := by decide +kernel
theorem dX11_spoilt_14 : decode cX11_spoilt 14 = .ok (.ifCond .eq 20, 3) := by decide +kernel
theorem dX11_spoilt_17 : decode cX11_spoilt 17 = .ok (.iload_n 3, 1) := by decide +kernel
theorem dX11_spoilt_18 : decode cX11_spoilt 18 = .ok (.iconst 1, 1) := by decide +kernel
theorem dX11_spoilt_19 : decode cX11_spoilt 19 = .ok (.iconst 3, 1) := by decide +kernel
theorem dX11_spoilt_20 : decode cX11_spoilt 20 = .ok (.invokestatic 92, 3) := by decide +kernel
theorem dX11_spoilt_23 : decode cX11_spoilt 23 = .ok (.ifCond .eq 11, 3) := by decide +kernel
theorem dX11_spoilt_26 : decode cX11_spoilt 26 = .ok (.iload 4, 2) := by decide +kernel
theorem dX11_spoilt_28 : decode cX11_spoilt 28 = .ok (.invokestatic 269, 3) := by decide +kernel
theorem dX11_spoilt_31 : decode cX11_spoilt 31 = .ok (.ifCond .ne 5, 3) := by decide +kernel
theorem dX11_spoilt_34 : decode cX11_spoilt 34 = .ok (.iconst (-1), 1) := by decide +kernel
theorem dX11_spoilt_35 : decode cX11_spoilt 35 = .ok (.ireturn, 1) := by decide +kernel
theorem dX11_spoilt_36 : decode cX11_spoilt 36 = .ok (.aload_n 0, 1) := by decide +kernel
theorem dX11_spoilt_37 : decode cX11_spoilt 37 = .ok (.getfield 11, 3) := by decide +kernel
theorem dX11_spoilt_40 : decode cX11_spoilt 40 = .ok (.iload_n 1, 1) := by decide +kernel
theorem dX11_spoilt_41 : decode cX11_spoilt 41 = .ok (.aaload, 1) := by decide +kernel
theorem dX11_spoilt_42 : decode cX11_spoilt 42 = .ok (.invokestatic 116, 3) := by decide +kernel
theorem dX11_spoilt_45 : decode cX11_spoilt 45 = .ok (.istore 6, 2) := by decide +kernel
theorem dX11_spoilt_47 : decode cX11_spoilt 47 = .ok (.iload 6, 2) := by decide +kernel
theorem dX11_spoilt_49 : decode cX11_spoilt 49 = .ok (.ifCond .eq 10, 3) := by decide +kernel
theorem dX11_spoilt_52 : decode cX11_spoilt 52 = .ok (.aload_n 0, 1) := by decide +kernel
theorem dX11_spoilt_53 : decode cX11_spoilt 53 = .ok (.iload 6, 2) := by decide +kernel
theorem dX11_spoilt_55 : decode cX11_spoilt 55 = .ok (.invokevirtual 96, 3) := by decide +kernel
theorem dX11_spoilt_58 : decode cX11_spoilt 58 = .ok (.ireturn, 1) := by decide +kernel
theorem dX11_spoilt_59 : decode cX11_spoilt 59 = .ok (.aload_n 0, 1) := by decide +kernel
theorem dX11_spoilt_60 : decode cX11_spoilt 60 = .ok (.getfield 77, 3) := by decide +kernel
theorem dX11_spoilt_63 : decode cX11_spoilt 63 = .ok (.iload_n 2, 1) := by decide +kernel
theorem dX11_spoilt_64 : decode cX11_spoilt 64 = .ok (.iload_n 3, 1) := by decide +kernel
theorem dX11_spoilt_65 : decode cX11_spoilt 65 = .ok (.iload 5, 2) := by decide +kernel
theorem dX11_spoilt_67 : decode cX11_spoilt 67 = .ok (.invokevirtual 272, 3) := by decide +kernel
theorem dX11_spoilt_70 : decode cX11_spoilt 70 = .ok (.aload_n 0, 1) := by decide +kernel
theorem dX11_spoilt_71 : decode cX11_spoilt 71 = .ok (.getfield 77, 3) := by decide +kernel
theorem dX11_spoilt_74 : decode cX11_spoilt 74 = .ok (.aload_n 0, 1) := by decide +kernel
theorem dX11_spoilt_75 : decode cX11_spoilt 75 = .ok (.getfield 11, 3) := by decide +kernel
theorem dX11_spoilt_78 : decode cX11_spoilt 78 = .ok (.iload_n 1, 1) := by decide +kernel
theorem dX11_spoilt_79 : decode cX11_spoilt 79 = .ok (.aaload, 1) := by decide +kernel
theorem dX11_spoilt_80 : decode cX11_spoilt 80 = .ok (.iload 4, 2) := by decide +kernel
theorem dX11_spoilt_82 : decode cX11_spoilt 82 = .ok (.invokevirtual 276, 3) := by decide +kernel
theorem dX11_spoilt_85 : decode cX11_spoilt 85 = .ok (.lstore 7, 2) := by decide +kernel
theorem dX11_spoilt_87 : decode cX11_spoilt 87 = .ok (.aload_n 0, 1) := by decide +kernel
theorem dX11_spoilt_88 : decode cX11_spoilt 88 = .ok (.lload 7, 2) := by decide +kernel
theorem dX11_spoilt_90 : decode cX11_spoilt 90 = .ok (.aload_n 0, 1) := by decide +kernel
theorem dX11_spoilt_91 : decode cX11_spoilt 91 = .ok (.getfield 11, 3) := by decide +kernel
theorem dX11_spoilt_94 : decode cX11_spoilt 94 = .ok (.iload_n 1, 1) := by decide +kernel
theorem dX11_spoilt_95 : decode cX11_spoilt 95 = .ok (.aaload, 1) := by decide +kernel
theorem dX11_spoilt_96 : decode cX11_spoilt 96 = .ok (.iload 4, 2) := by decide +kernel
theorem dX11_spoilt_98 : decode cX11_spoilt 98 = .ok (.invokestatic 229, 3) := by decide +kernel
theorem dX11_spoilt_101 : decode cX11_spoilt 101 = .ok (.invokevirtual 233, 3) := by decide +kernel
theorem dX11_spoilt_104 : decode cX11_spoilt 104 = .ok (.ireturn, 1) := by decide +kernel
theorem dX11_see_0 : decode cX11_see 0 = .ok (.iload_n 1, 1) := by decide +kernel
theorem dX11_see_1 : decode cX11_see 1 = .ok (.invokestatic 100, 3) := by decide +kernel
theorem dX11_see_4 : decode cX11_see 4 = .ok (.ifCond .ne 5, 3) := by decide +kernel
theorem dX11_see_7 : decode cX11_see 7 = .ok (.iconst (-1), 1) := by decide +kernel
theorem dX11_see_8 : decode cX11_see 8 = .ok (.ireturn, 1) := by decide +kernel
theorem dX11_see_9 : decode cX11_see 9 = .ok (.aload_n 0, 1) := by decide +kernel
theorem dX11_see_10 : decode cX11_see 10 = .ok (.getfield 278, 3) := by decide +kernel
theorem dX11_see_13 : decode cX11_see 13 = .ok (.aload_n 0, 1) := by decide +kernel
theorem dX11_see_14 : decode cX11_see 14 = .ok (.getfield 37, 3) := by decide +kernel
theorem dX11_see_17 : decode cX11_see 17 = .ok (.arraylength, 1) := by decide +kernel
theorem dX11_see_18 : decode cX11_see 18 = .ok (.if_icmp .lt 6, 3) := by decide +kernel
theorem dX11_see_21 : decode cX11_see 21 = .ok (.bipush (-2), 2) := by decide +kernel
theorem dX11_see_23 : decode cX11_see 23 = .ok (.ireturn, 1) := by decide +kernel
theorem dX11_see_24 : decode cX11_see 24 = .ok (.aload_n 0, 1) := by decide +kernel
theorem dX11_see_25 : decode cX11_see 25 = .ok (.getfield 37, 3) := by decide +kernel
theorem dX11_see_28 : decode cX11_see 28 = .ok (.aload_n 0, 1) := by decide +kernel
theorem dX11_see_29 : decode cX11_see 29 = .ok (.getfield 278, 3) := by decide +kernel
theorem dX11_see_32 : decode cX11_see 32 = .ok (.iload_n 1, 1) := by decide +kernel
theorem dX11_see_33 : decode cX11_see 33 = .ok (.iastore, 1) := by decide +kernel
theorem dX11_see_34 : decode cX11_see 34 = .ok (.aload_n 0, 1) := by decide +kernel
theorem dX11_see_35 : decode cX11_see 35 = .ok (.dup, 1) := by decide +kernel
theorem dX11_see_36 : decode cX11_see 36 = .ok (.getfield 278, 3) := by decide +kernel
theorem dX11_see_39 : decode cX11_see 39 = .ok (.iconst 1, 1) := by decide +kernel
theorem dX11_see_40 : decode cX11_see 40 = .ok (.iadd, 1) := by decide +kernel
theorem dX11_see_41 : decode cX11_see 41 = .ok (.putfield 278, 3) := by decide +kernel
theorem dX11_see_44 : decode cX11_see 44 = .ok (.aload_n 0, 1) := by decide +kernel
theorem dX11_see_45 : decode cX11_see 45 = .ok (.getfield 278, 3) := by decide +kernel
theorem dX11_see_48 : decode cX11_see 48 = .ok (.ireturn, 1) := by decide +kernel
theorem dX11_forget_0 : decode cX11_forget 0 = .ok (.aload_n 0, 1) := by decide +kernel
theorem dX11_forget_1 : decode cX11_forget 1 = .ok (.getfield 278, 3) := by decide +kernel
theorem dX11_forget_4 : decode cX11_forget 4 = .ok (.istore_n 1, 1) := by decide +kernel
theorem dX11_forget_5 : decode cX11_forget 5 = .ok (.aload_n 0, 1) := by decide +kernel
theorem dX11_forget_6 : decode cX11_forget 6 = .ok (.iconst 0, 1) := by decide +kernel
theorem dX11_forget_7 : decode cX11_forget 7 = .ok (.putfield 278, 3) := by decide +kernel
theorem dX11_forget_10 : decode cX11_forget 10 = .ok (.iload_n 1, 1) := by decide +kernel
theorem dX11_forget_11 : decode cX11_forget 11 = .ok (.ireturn, 1) := by decide +kernel
theorem dX11_doubt_0 : decode cX11_doubt 0 = .ok (.iload_n 1, 1) := by decide +kernel
theorem dX11_doubt_1 : decode cX11_doubt 1 = .ok (.invokestatic 81, 3) := by decide +kernel
theorem dX11_doubt_4 : decode cX11_doubt 4 = .ok (.ifCond .eq 15, 3) := by decide +kernel
theorem dX11_doubt_7 : decode cX11_doubt 7 = .ok (.iload_n 2, 1) := by decide +kernel
theorem dX11_doubt_8 : decode cX11_doubt 8 = .ok (.invokestatic 81, 3) := by decide +kernel
theorem dX11_doubt_11 : decode cX11_doubt 11 = .ok (.ifCond .eq 8, 3) := by decide +kernel
theorem dX11_doubt_14 : decode cX11_doubt 14 = .ok (.iload_n 1, 1) := by decide +kernel
theorem dX11_doubt_15 : decode cX11_doubt 15 = .ok (.iload_n 2, 1) := by decide +kernel
theorem dX11_doubt_16 : decode cX11_doubt 16 = .ok (.if_icmp .ne 5, 3) := by decide +kernel
theorem dX11_doubt_19 : decode cX11_doubt 19 = .ok (.iconst (-1), 1) := by decide +kernel
theorem dX11_doubt_20 : decode cX11_doubt 20 = .ok (.ireturn, 1) := by decide +kernel
theorem dX11_doubt_21 : decode cX11_doubt 21 = .ok (.iload_n 3, 1) := by decide +kernel
theorem dX11_doubt_22 : decode cX11_doubt 22 = .ok (.iconst 1, 1) := by decide +kernel
theorem dX11_doubt_23 : decode cX11_doubt 23 = .ok (.bipush 9, 2) := by decide +kernel
theorem dX11_doubt_25 : decode cX11_doubt 25 = .ok (.invokestatic 92, 3) := by decide +kernel
theorem dX11_doubt_28 : decode cX11_doubt 28 = .ok (.ifCond .eq 14, 3) := by decide +kernel
theorem dX11_doubt_31 : decode cX11_doubt 31 = .ok (.iload 4, 2) := by decide +kernel
theorem dX11_doubt_33 : decode cX11_doubt 33 = .ok (.iconst 1, 1) := by decide +kernel
theorem dX11_doubt_34 : decode cX11_doubt 34 = .ok (.bipush 9, 2) := by decide +kernel
theorem dX11_doubt_36 : decode cX11_doubt 36 = .ok (.invokestatic 92, 3) := by decide +kernel
theorem dX11_doubt_39 : decode cX11_doubt 39 = .ok (.ifCond .ne 5, 3) := by decide +kernel
theorem dX11_doubt_42 : decode cX11_doubt 42 = .ok (.iconst (-1), 1) := by decide +kernel
theorem dX11_doubt_43 : decode cX11_doubt 43 = .ok (.ireturn, 1) := by decide +kernel
theorem dX11_doubt_44 : decode cX11_doubt 44 = .ok (.aload_n 0, 1) := by decide +kernel
theorem dX11_doubt_45 : decode cX11_doubt 45 = .ok (.getfield 11, 3) := by decide +kernel
theorem dX11_doubt_48 : decode cX11_doubt 48 = .ok (.iload_n 1, 1) := by decide +kernel
theorem dX11_doubt_49 : decode cX11_doubt 49 = .ok (.aaload, 1) := by decide +kernel
theorem dX11_doubt_50 : decode cX11_doubt 50 = .ok (.getfield 85, 3) := by decide +kernel
theorem dX11_doubt_53 : decode cX11_doubt 53 = .ok (.ifCond .eq 15, 3) := by decide +kernel
theorem dX11_doubt_56 : decode cX11_doubt 56 = .ok (.aload_n 0, 1) := by decide +kernel
theorem dX11_doubt_57 : decode cX11_doubt 57 = .ok (.getfield 11, 3) := by decide +kernel
theorem dX11_doubt_60 : decode cX11_doubt 60 = .ok (.iload_n 2, 1) := by decide +kernel
theorem dX11_doubt_61 : decode cX11_doubt 61 = .ok (.aaload, 1) := by decide +kernel
theorem dX11_doubt_62 : decode cX11_doubt 62 = .ok (.getfield 85, 3) := by decide +kernel
theorem dX11_doubt_65 : decode cX11_doubt 65 = .ok (.ifCond .ne 9, 3) := by decide +kernel
theorem dX11_doubt_68 : decode cX11_doubt 68 = .ok (.aload_n 0, 1) := by decide +kernel
theorem dX11_doubt_69 : decode cX11_doubt 69 = .ok (.iconst 1, 1) := by decide +kernel
theorem dX11_doubt_70 : decode cX11_doubt 70 = .ok (.invokevirtual 96, 3) := by decide +kernel
theorem dX11_doubt_73 : decode cX11_doubt 73 = .ok (.ireturn, 1) := by decide +kernel
theorem dX11_doubt_74 : decode cX11_doubt 74 = .ok (.aload_n 0, 1) := by decide +kernel
theorem dX11_doubt_75 : decode cX11_doubt 75 = .ok (.getfield 11, 3) := by decide +kernel
theorem dX11_doubt_78 : decode cX11_doubt 78 = .ok (.iload_n 1, 1) := by decide +kernel
theorem dX11_doubt_79 : decode cX11_doubt 79 = .ok (.aaload, 1) := by decide +kernel
theorem dX11_doubt_80 : decode cX11_doubt 80 = .ok (.invokevirtual 120, 3) := by decide +kernel
theorem dX11_doubt_83 : decode cX11_doubt 83 = .ok (.ifCond .eq 15, 3) := by decide +kernel
theorem dX11_doubt_86 : decode cX11_doubt 86 = .ok (.aload_n 0, 1) := by decide +kernel
theorem dX11_doubt_87 : decode cX11_doubt 87 = .ok (.getfield 11, 3) := by decide +kernel
theorem dX11_doubt_90 : decode cX11_doubt 90 = .ok (.iload_n 2, 1) := by decide +kernel
theorem dX11_doubt_91 : decode cX11_doubt 91 = .ok (.aaload, 1) := by decide +kernel
theorem dX11_doubt_92 : decode cX11_doubt 92 = .ok (.invokevirtual 120, 3) := by decide +kernel
theorem dX11_doubt_95 : decode cX11_doubt 95 = .ok (.ifCond .ne 9, 3) := by decide +kernel
theorem dX11_doubt_98 : decode cX11_doubt 98 = .ok (.aload_n 0, 1) := by decide +kernel
theorem dX11_doubt_99 : decode cX11_doubt 99 = .ok (.iconst 4, 1) := by decide +kernel
theorem dX11_doubt_100 : decode cX11_doubt 100 = .ok (.invokevirtual 96, 3) := by decide +kernel
theorem dX11_doubt_103 : decode cX11_doubt 103 = .ok (.ireturn, 1) := by decide +kernel
theorem dX11_doubt_104 : decode cX11_doubt 104 = .ok (.iload_n 3, 1) := by decide +kernel
theorem dX11_doubt_105 : decode cX11_doubt 105 = .ok (.i2l, 1) := by decide +kernel
theorem dX11_doubt_106 : decode cX11_doubt 106 = .ok (.aload_n 0, 1) := by decide +kernel
theorem dX11_doubt_107 : decode cX11_doubt 107 = .ok (.aload_n 0, 1) := by decide +kernel
theorem dX11_doubt_108 : decode cX11_doubt 108 = .ok (.getfield 11, 3) := by decide +kernel
theorem dX11_doubt_111 : decode cX11_doubt 111 = .ok (.iload_n 1, 1) := by decide +kernel
theorem dX11_doubt_112 : decode cX11_doubt 112 = .ok (.aaload, 1) := by decide +kernel
theorem dX11_doubt_113 : decode cX11_doubt 113 = .ok (.invokevirtual 281, 3) := by decide +kernel
theorem dX11_doubt_116 : decode cX11_doubt 116 = .ok (.lmul, 1) := by decide +kernel
theorem dX11_doubt_117 : decode cX11_doubt 117 = .ok (.aload_n 0, 1) := by decide +kernel
theorem dX11_doubt_118 : decode cX11_doubt 118 = .ok (.getfield 11, 3) := by decide +kernel
theorem dX11_doubt_121 : decode cX11_doubt 121 = .ok (.iload_n 2, 1) := by decide +kernel
theorem dX11_doubt_122 : decode cX11_doubt 122 = .ok (.aaload, 1) := by decide +kernel
theorem dX11_doubt_123 : decode cX11_doubt 123 = .ok (.aload_n 0, 1) := by decide +kernel
theorem dX11_doubt_124 : decode cX11_doubt 124 = .ok (.getfield 278, 3) := by decide +kernel
theorem dX11_doubt_127 : decode cX11_doubt 127 = .ok (.invokestatic 229, 3) := by decide +kernel
theorem dX11_doubt_130 : decode cX11_doubt 130 = .ok (.lmul, 1) := by decide +kernel
theorem dX11_doubt_131 : decode cX11_doubt 131 = .ok (.lstore 5, 2) := by decide +kernel
theorem dX11_doubt_133 : decode cX11_doubt 133 = .ok (.iload 4, 2) := by decide +kernel
theorem dX11_doubt_135 : decode cX11_doubt 135 = .ok (.i2l, 1) := by decide +kernel
theorem dX11_doubt_136 : decode cX11_doubt 136 = .ok (.aload_n 0, 1) := by decide +kernel
theorem dX11_doubt_137 : decode cX11_doubt 137 = .ok (.aload_n 0, 1) := by decide +kernel
theorem dX11_doubt_138 : decode cX11_doubt 138 = .ok (.getfield 11, 3) := by decide +kernel
theorem dX11_doubt_141 : decode cX11_doubt 141 = .ok (.iload_n 2, 1) := by decide +kernel
theorem dX11_doubt_142 : decode cX11_doubt 142 = .ok (.aaload, 1) := by decide +kernel
theorem dX11_doubt_143 : decode cX11_doubt 143 = .ok (.invokevirtual 281, 3) := by decide +kernel
theorem dX11_doubt_146 : decode cX11_doubt 146 = .ok (.lmul, 1) := by decide +kernel
theorem dX11_doubt_147 : decode cX11_doubt 147 = .ok (.aload_n 0, 1) := by decide +kernel
theorem dX11_doubt_148 : decode cX11_doubt 148 = .ok (.getfield 11, 3) := by decide +kernel
theorem dX11_doubt_151 : decode cX11_doubt 151 = .ok (.iload_n 1, 1) := by decide +kernel
theorem dX11_doubt_152 : decode cX11_doubt 152 = .ok (.aaload, 1) := by decide +kernel
theorem dX11_doubt_153 : decode cX11_doubt 153 = .ok (.aload_n 0, 1) := by decide +kernel
theorem dX11_doubt_154 : decode cX11_doubt 154 = .ok (.getfield 278, 3) := by decide +kernel
theorem dX11_doubt_157 : decode cX11_doubt 157 = .ok (.invokestatic 229, 3) := by decide +kernel
theorem dX11_doubt_160 : decode cX11_doubt 160 = .ok (.lmul, 1) := by decide +kernel
theorem dX11_doubt_161 : decode cX11_doubt 161 = .ok (.lstore 7, 2) := by decide +kernel
theorem dX11_doubt_163 : decode cX11_doubt 163 = .ok (.lload 5, 2) := by decide +kernel
theorem dX11_doubt_165 : decode cX11_doubt 165 = .ok (.lload 7, 2) := by decide +kernel
theorem dX11_doubt_167 : decode cX11_doubt 167 = .ok (.ladd, 1) := by decide +kernel
theorem dX11_doubt_168 : decode cX11_doubt 168 = .ok (.lconst 0, 1) := by decide +kernel
theorem dX11_doubt_169 : decode cX11_doubt 169 = .ok (.lcmp, 1) := by decide +kernel
theorem dX11_doubt_170 : decode cX11_doubt 170 = .ok (.ifCond .ne 9, 3) := by decide +kernel
theorem dX11_doubt_173 : decode cX11_doubt 173 = .ok (.aload_n 0, 1) := by decide +kernel
theorem dX11_doubt_174 : decode cX11_doubt 174 = .ok (.iconst 4, 1) := by decide +kernel
theorem dX11_doubt_175 : decode cX11_doubt 175 = .ok (.invokevirtual 96, 3) := by decide +kernel
theorem dX11_doubt_178 : decode cX11_doubt 178 = .ok (.ireturn, 1) := by decide +kernel
theorem dX11_doubt_179 : decode cX11_doubt 179 = .ok (.aload_n 0, 1) := by decide +kernel
theorem dX11_doubt_180 : decode cX11_doubt 180 = .ok (.lload 5, 2) := by decide +kernel
theorem dX11_doubt_182 : decode cX11_doubt 182 = .ok (.lload 5, 2) := by decide +kernel
theorem dX11_doubt_184 : decode cX11_doubt 184 = .ok (.lload 7, 2) := by decide +kernel
theorem dX11_doubt_186 : decode cX11_doubt 186 = .ok (.ladd, 1) := by decide +kernel
theorem dX11_doubt_187 : decode cX11_doubt 187 = .ok (.invokevirtual 233, 3) := by decide +kernel
theorem dX11_doubt_190 : decode cX11_doubt 190 = .ok (.ireturn, 1) := by decide +kernel
theorem dX11_upper_0 : decode cX11_upper 0 = .ok (.aload_n 0, 1) := by decide +kernel
theorem dX11_upper_1 : decode cX11_upper 1 = .ok (.getfield 40, 3) := by decide +kernel
theorem dX11_upper_4 : decode cX11_upper 4 = .ok (.lreturn, 1) := by decide +kernel
theorem dX11_lower_0 : decode cX11_lower 0 = .ok (.aload_n 0, 1) := by decide +kernel
theorem dX11_lower_1 : decode cX11_lower 1 = .ok (.getfield 44, 3) := by decide +kernel
theorem dX11_lower_4 : decode cX11_lower 4 = .ok (.lreturn, 1) := by decide +kernel
theorem dX11_count_0 : decode cX11_count 0 = .ok (.iload_n 1, 1) := by decide +kernel
theorem dX11_count_1 : decode cX11_count 1 = .ok (.tableswitch 86 0 5 #[39, 44, 49, 54, 62, 70], 39) := by decide +kernel
theorem dX11_count_40 : decode cX11_count 40 = .ok (.aload_n 0, 1) := by decide +kernel
theorem dX11_count_41 : decode cX11_count 41 = .ok (.getfield 130, 3) := by decide +kernel
theorem dX11_count_44 : decode cX11_count 44 = .ok (.ireturn, 1) := by decide +kernel
theorem dX11_count_45 : decode cX11_count 45 = .ok (.aload_n 0, 1) := by decide +kernel
theorem dX11_count_46 : decode cX11_count 46 = .ok (.invokevirtual 285, 3) := by decide +kernel
theorem dX11_count_49 : decode cX11_count 49 = .ok (.ireturn, 1) := by decide +kernel
theorem dX11_count_50 : decode cX11_count 50 = .ok (.aload_n 0, 1) := by decide +kernel
theorem dX11_count_51 : decode cX11_count 51 = .ok (.getfield 278, 3) := by decide +kernel
theorem dX11_count_54 : decode cX11_count 54 = .ok (.ireturn, 1) := by decide +kernel
theorem dX11_count_55 : decode cX11_count 55 = .ok (.aload_n 0, 1) := by decide +kernel
theorem dX11_count_56 : decode cX11_count 56 = .ok (.getfield 33, 3) := by decide +kernel
theorem dX11_count_59 : decode cX11_count 59 = .ok (.getfield 185, 3) := by decide +kernel
theorem dX11_count_62 : decode cX11_count 62 = .ok (.ireturn, 1) := by decide +kernel
theorem dX11_count_63 : decode cX11_count 63 = .ok (.aload_n 0, 1) := by decide +kernel
theorem dX11_count_64 : decode cX11_count 64 = .ok (.getfield 33, 3) := by decide +kernel
theorem dX11_count_67 : decode cX11_count 67 = .ok (.getfield 188, 3) := by decide +kernel
theorem dX11_count_70 : decode cX11_count 70 = .ok (.ireturn, 1) := by decide +kernel
theorem dX11_count_71 : decode cX11_count 71 = .ok (.aload_n 0, 1) := by decide +kernel
theorem dX11_count_72 : decode cX11_count 72 = .ok (.getfield 33, 3) := by decide +kernel
theorem dX11_count_75 : decode cX11_count 75 = .ok (.getfield 191, 3) := by decide +kernel
theorem dX11_count_78 : decode cX11_count 78 = .ok (.ifCond .eq 7, 3) := by decide +kernel
theorem dX11_count_81 : decode cX11_count 81 = .ok (.iconst 1, 1) := by decide +kernel
theorem dX11_count_82 : decode cX11_count 82 = .ok (.goto 4, 3) := by decide +kernel
theorem dX11_count_85 : decode cX11_count 85 = .ok (.iconst 0, 1) := by decide +kernel
theorem dX11_count_86 : decode cX11_count 86 = .ok (.ireturn, 1) := by decide +kernel
theorem dX11_count_87 : decode cX11_count 87 = .ok (.iconst (-1), 1) := by decide +kernel
theorem dX11_count_88 : decode cX11_count 88 = .ok (.ireturn, 1) := by decide +kernel
theorem dX11_finding_0 : decode cX11_finding 0 = .ok (.aload_n 0, 1) := by decide +kernel
theorem dX11_finding_1 : decode cX11_finding 1 = .ok (.getfield 288, 3) := by decide +kernel
theorem dX11_finding_4 : decode cX11_finding 4 = .ok (.ireturn, 1) := by decide +kernel
theorem dX11_findings_0 : decode cX11_findings 0 = .ok (.iload_n 1, 1) := by decide +kernel
theorem dX11_findings_1 : decode cX11_findings 1 = .ok (.iconst 1, 1) := by decide +kernel
theorem dX11_findings_2 : decode cX11_findings 2 = .ok (.iconst 5, 1) := by decide +kernel
theorem dX11_findings_3 : decode cX11_findings 3 = .ok (.invokestatic 92, 3) := by decide +kernel
theorem dX11_findings_6 : decode cX11_findings 6 = .ok (.ifCond .eq 12, 3) := by decide +kernel
theorem dX11_findings_9 : decode cX11_findings 9 = .ok (.aload_n 0, 1) := by decide +kernel
theorem dX11_findings_10 : decode cX11_findings 10 = .ok (.getfield 47, 3) := by decide +kernel
theorem dX11_findings_13 : decode cX11_findings 13 = .ok (.iload_n 1, 1) := by decide +kernel
theorem dX11_findings_14 : decode cX11_findings 14 = .ok (.iaload, 1) := by decide +kernel
theorem dX11_findings_15 : decode cX11_findings 15 = .ok (.goto 4, 3) := by decide +kernel
theorem dX11_findings_18 : decode cX11_findings 18 = .ok (.iconst (-1), 1) := by decide +kernel
theorem dX11_findings_19 : decode cX11_findings 19 = .ok (.ireturn, 1) := by decide +kernel
theorem dX11_digest_0 : decode cX11_digest 0 = .ok (.ldc2_w 291, 3) := by decide +kernel
theorem dX11_digest_3 : decode cX11_digest 3 = .ok (.lstore_n 1, 1) := by decide +kernel
theorem dX11_digest_4 : decode cX11_digest 4 = .ok (.iconst 0, 1) := by decide +kernel
theorem dX11_digest_5 : decode cX11_digest 5 = .ok (.istore_n 3, 1) := by decide +kernel
theorem dX11_digest_6 : decode cX11_digest 6 = .ok (.iload_n 3, 1) := by decide +kernel
theorem dX11_digest_7 : decode cX11_digest 7 = .ok (.iconst 5, 1) := by decide +kernel
theorem dX11_digest_8 : decode cX11_digest 8 = .ok (.if_icmp .gt 22, 3) := by decide +kernel
theorem dX11_digest_11 : decode cX11_digest 11 = .ok (.ldc2_w 293, 3) := by decide +kernel
theorem dX11_digest_14 : decode cX11_digest 14 = .ok (.lload_n 1, 1) := by decide +kernel
theorem dX11_digest_15 : decode cX11_digest 15 = .ok (.lmul, 1) := by decide +kernel
theorem dX11_digest_16 : decode cX11_digest 16 = .ok (.aload_n 0, 1) := by decide +kernel
theorem dX11_digest_17 : decode cX11_digest 17 = .ok (.iload_n 3, 1) := by decide +kernel
theorem dX11_digest_18 : decode cX11_digest 18 = .ok (.invokevirtual 295, 3) := by decide +kernel
theorem dX11_digest_21 : decode cX11_digest 21 = .ok (.i2l, 1) := by decide +kernel
theorem dX11_digest_22 : decode cX11_digest 22 = .ok (.ladd, 1) := by decide +kernel
theorem dX11_digest_23 : decode cX11_digest 23 = .ok (.lstore_n 1, 1) := by decide +kernel
theorem dX11_digest_24 : decode cX11_digest 24 = .ok (.iinc 3 1, 3) := by decide +kernel
theorem dX11_digest_27 : decode cX11_digest 27 = .ok (.goto (-21), 3) := by decide +kernel
theorem dX11_digest_30 : decode cX11_digest 30 = .ok (.ldc2_w 293, 3) := by decide +kernel
theorem dX11_digest_33 : decode cX11_digest 33 = .ok (.lload_n 1, 1) := by decide +kernel
theorem dX11_digest_34 : decode cX11_digest 34 = .ok (.lmul, 1) := by decide +kernel
theorem dX11_digest_35 : decode cX11_digest 35 = .ok (.aload_n 0, 1) := by decide +kernel
theorem dX11_digest_36 : decode cX11_digest 36 = .ok (.getfield 33, 3) := by decide +kernel
theorem dX11_digest_39 : decode cX11_digest 39 = .ok (.getfield 197, 3) := by decide +kernel
theorem dX11_digest_42 : decode cX11_digest 42 = .ok (.i2l, 1) := by decide +kernel
theorem dX11_digest_43 : decode cX11_digest 43 = .ok (.ladd, 1) := by decide +kernel
theorem dX11_digest_44 : decode cX11_digest 44 = .ok (.lstore_n 1, 1) := by decide +kernel
theorem dX11_digest_45 : decode cX11_digest 45 = .ok (.ldc2_w 293, 3) := by decide +kernel
theorem dX11_digest_48 : decode cX11_digest 48 = .ok (.lload_n 1, 1) := by decide +kernel
theorem dX11_digest_49 : decode cX11_digest 49 = .ok (.lmul, 1) := by decide +kernel
theorem dX11_digest_50 : decode cX11_digest 50 = .ok (.aload_n 0, 1) := by decide +kernel
theorem dX11_digest_51 : decode cX11_digest 51 = .ok (.getfield 33, 3) := by decide +kernel
theorem dX11_digest_54 : decode cX11_digest 54 = .ok (.getfield 200, 3) := by decide +kernel
theorem dX11_digest_57 : decode cX11_digest 57 = .ok (.i2l, 1) := by decide +kernel
theorem dX11_digest_58 : decode cX11_digest 58 = .ok (.ladd, 1) := by decide +kernel
theorem dX11_digest_59 : decode cX11_digest 59 = .ok (.lstore_n 1, 1) := by decide +kernel
theorem dX11_digest_60 : decode cX11_digest 60 = .ok (.ldc2_w 293, 3) := by decide +kernel
theorem dX11_digest_63 : decode cX11_digest 63 = .ok (.lload_n 1, 1) := by decide +kernel
theorem dX11_digest_64 : decode cX11_digest 64 = .ok (.lmul, 1) := by decide +kernel
theorem dX11_digest_65 : decode cX11_digest 65 = .ok (.aload_n 0, 1) := by decide +kernel
theorem dX11_digest_66 : decode cX11_digest 66 = .ok (.getfield 33, 3) := by decide +kernel
theorem dX11_digest_69 : decode cX11_digest 69 = .ok (.getfield 203, 3) := by decide +kernel
theorem dX11_digest_72 : decode cX11_digest 72 = .ok (.i2l, 1) := by decide +kernel
theorem dX11_digest_73 : decode cX11_digest 73 = .ok (.ladd, 1) := by decide +kernel
theorem dX11_digest_74 : decode cX11_digest 74 = .ok (.lstore_n 1, 1) := by decide +kernel
theorem dX11_digest_75 : decode cX11_digest 75 = .ok (.ldc2_w 293, 3) := by decide +kernel
theorem dX11_digest_78 : decode cX11_digest 78 = .ok (.lload_n 1, 1) := by decide +kernel
theorem dX11_digest_79 : decode cX11_digest 79 = .ok (.lmul, 1) := by decide +kernel
theorem dX11_digest_80 : decode cX11_digest 80 = .ok (.aload_n 0, 1) := by decide +kernel
theorem dX11_digest_81 : decode cX11_digest 81 = .ok (.getfield 33, 3) := by decide +kernel
theorem dX11_digest_84 : decode cX11_digest 84 = .ok (.getfield 206, 3) := by decide +kernel
theorem dX11_digest_87 : decode cX11_digest 87 = .ok (.i2l, 1) := by decide +kernel
theorem dX11_digest_88 : decode cX11_digest 88 = .ok (.ladd, 1) := by decide +kernel
theorem dX11_digest_89 : decode cX11_digest 89 = .ok (.lstore_n 1, 1) := by decide +kernel
theorem dX11_digest_90 : decode cX11_digest 90 = .ok (.aload_n 0, 1) := by decide +kernel
theorem dX11_digest_91 : decode cX11_digest 91 = .ok (.aload_n 0, 1) := by decide +kernel
theorem dX11_digest_92 : decode cX11_digest 92 = .ok (.aload_n 0, 1) := by decide +kernel
theorem dX11_digest_93 : decode cX11_digest 93 = .ok (.lload_n 1, 1) := by decide +kernel
theorem dX11_digest_94 : decode cX11_digest 94 = .ok (.invokevirtual 298, 3) := by decide +kernel
theorem dX11_digest_97 : decode cX11_digest 97 = .ok (.invokevirtual 302, 3) := by decide +kernel
theorem dX11_digest_100 : decode cX11_digest 100 = .ok (.invokevirtual 305, 3) := by decide +kernel
theorem dX11_digest_103 : decode cX11_digest 103 = .ok (.lreturn, 1) := by decide +kernel
theorem dX11_isWithin_0 : decode cX11_isWithin 0 = .ok (.iload_n 0, 1) := by decide +kernel
theorem dX11_isWithin_1 : decode cX11_isWithin 1 = .ok (.iload_n 1, 1) := by decide +kernel
theorem dX11_isWithin_2 : decode cX11_isWithin 2 = .ok (.if_icmp .lt 12, 3) := by decide +kernel
theorem dX11_isWithin_5 : decode cX11_isWithin 5 = .ok (.iload_n 0, 1) := by decide +kernel
theorem dX11_isWithin_6 : decode cX11_isWithin 6 = .ok (.iload_n 2, 1) := by decide +kernel
theorem dX11_isWithin_7 : decode cX11_isWithin 7 = .ok (.if_icmp .gt 7, 3) := by decide +kernel
theorem dX11_isWithin_10 : decode cX11_isWithin 10 = .ok (.iconst 1, 1) := by decide +kernel
theorem dX11_isWithin_11 : decode cX11_isWithin 11 = .ok (.goto 4, 3) := by decide +kernel
theorem dX11_isWithin_14 : decode cX11_isWithin 14 = .ok (.iconst 0, 1) := by decide +kernel
theorem dX11_isWithin_15 : decode cX11_isWithin 15 = .ok (.ireturn, 1) := by decide +kernel
theorem dX11_isBook_0 : decode cX11_isBook 0 = .ok (.iload_n 0, 1) := by decide +kernel
theorem dX11_isBook_1 : decode cX11_isBook 1 = .ok (.iconst 0, 1) := by decide +kernel
theorem dX11_isBook_2 : decode cX11_isBook 2 = .ok (.iconst 3, 1) := by decide +kernel
theorem dX11_isBook_3 : decode cX11_isBook 3 = .ok (.invokestatic 92, 3) := by decide +kernel
theorem dX11_isBook_6 : decode cX11_isBook 6 = .ok (.ireturn, 1) := by decide +kernel
theorem dX11_isDemand_0 : decode cX11_isDemand 0 = .ok (.iload_n 0, 1) := by decide +kernel
theorem dX11_isDemand_1 : decode cX11_isDemand 1 = .ok (.iconst 0, 1) := by decide +kernel
theorem dX11_isDemand_2 : decode cX11_isDemand 2 = .ok (.bipush 6, 2) := by decide +kernel
theorem dX11_isDemand_4 : decode cX11_isDemand 4 = .ok (.invokestatic 92, 3) := by decide +kernel
theorem dX11_isDemand_7 : decode cX11_isDemand 7 = .ok (.ireturn, 1) := by decide +kernel
theorem dX11_isSheet_0 : decode cX11_isSheet 0 = .ok (.iload_n 0, 1) := by decide +kernel
theorem dX11_isSheet_1 : decode cX11_isSheet 1 = .ok (.iconst 0, 1) := by decide +kernel
theorem dX11_isSheet_2 : decode cX11_isSheet 2 = .ok (.iconst 3, 1) := by decide +kernel
theorem dX11_isSheet_3 : decode cX11_isSheet 3 = .ok (.invokestatic 92, 3) := by decide +kernel
theorem dX11_isSheet_6 : decode cX11_isSheet 6 = .ok (.ireturn, 1) := by decide +kernel
theorem dX11_isPosition_0 : decode cX11_isPosition 0 = .ok (.iload_n 0, 1) := by decide +kernel
theorem dX11_isPosition_1 : decode cX11_isPosition 1 = .ok (.bipush (-12), 2) := by decide +kernel
theorem dX11_isPosition_3 : decode cX11_isPosition 3 = .ok (.bipush 36, 2) := by decide +kernel
theorem dX11_isPosition_5 : decode cX11_isPosition 5 = .ok (.invokestatic 92, 3) := by decide +kernel
theorem dX11_isPosition_8 : decode cX11_isPosition 8 = .ok (.ireturn, 1) := by decide +kernel
theorem dX11_isPrice_0 : decode cX11_isPrice 0 = .ok (.iload_n 0, 1) := by decide +kernel
theorem dX11_isPrice_1 : decode cX11_isPrice 1 = .ok (.iconst 0, 1) := by decide +kernel
theorem dX11_isPrice_2 : decode cX11_isPrice 2 = .ok (.bipush 100, 2) := by decide +kernel
theorem dX11_isPrice_4 : decode cX11_isPrice 4 = .ok (.invokestatic 92, 3) := by decide +kernel
theorem dX11_isPrice_7 : decode cX11_isPrice 7 = .ok (.ireturn, 1) := by decide +kernel
theorem dX11_areDays_0 : decode cX11_areDays 0 = .ok (.iload_n 0, 1) := by decide +kernel
theorem dX11_areDays_1 : decode cX11_areDays 1 = .ok (.iconst 1, 1) := by decide +kernel
theorem dX11_areDays_2 : decode cX11_areDays 2 = .ok (.bipush 6, 2) := by decide +kernel
theorem dX11_areDays_4 : decode cX11_areDays 4 = .ok (.invokestatic 92, 3) := by decide +kernel
theorem dX11_areDays_7 : decode cX11_areDays 7 = .ok (.ireturn, 1) := by decide +kernel
theorem dX11_isRule_0 : decode cX11_isRule 0 = .ok (.iload_n 1, 1) := by decide +kernel
theorem dX11_isRule_1 : decode cX11_isRule 1 = .ok (.iconst 0, 1) := by decide +kernel
theorem dX11_isRule_2 : decode cX11_isRule 2 = .ok (.aload_n 0, 1) := by decide +kernel
theorem dX11_isRule_3 : decode cX11_isRule 3 = .ok (.getfield 130, 3) := by decide +kernel
theorem dX11_isRule_6 : decode cX11_isRule 6 = .ok (.aload_n 0, 1) := by decide +kernel
theorem dX11_isRule_7 : decode cX11_isRule 7 = .ok (.getfield 26, 3) := by decide +kernel
theorem dX11_isRule_10 : decode cX11_isRule 10 = .ok (.arraylength, 1) := by decide +kernel
theorem dX11_isRule_11 : decode cX11_isRule 11 = .ok (.invokestatic 308, 3) := by decide +kernel
theorem dX11_isRule_14 : decode cX11_isRule 14 = .ok (.iconst 1, 1) := by decide +kernel
theorem dX11_isRule_15 : decode cX11_isRule 15 = .ok (.isub, 1) := by decide +kernel
theorem dX11_isRule_16 : decode cX11_isRule 16 = .ok (.invokestatic 92, 3) := by decide +kernel
theorem dX11_isRule_19 : decode cX11_isRule 19 = .ok (.ireturn, 1) := by decide +kernel
theorem dX11_isRuleOf_0 : decode cX11_isRuleOf 0 = .ok (.iload_n 0, 1) := by decide +kernel
theorem dX11_isRuleOf_1 : decode cX11_isRuleOf 1 = .ok (.tableswitch 90 1 3 #[27, 35, 63], 27) := by decide +kernel
theorem dX11_isRuleOf_28 : decode cX11_isRuleOf 28 = .ok (.iload_n 1, 1) := by decide +kernel
theorem dX11_isRuleOf_29 : decode cX11_isRuleOf 29 = .ok (.iconst 0, 1) := by decide +kernel
theorem dX11_isRuleOf_30 : decode cX11_isRuleOf 30 = .ok (.bipush 12, 2) := by decide +kernel
theorem dX11_isRuleOf_32 : decode cX11_isRuleOf 32 = .ok (.invokestatic 92, 3) := by decide +kernel
theorem dX11_isRuleOf_35 : decode cX11_isRuleOf 35 = .ok (.ireturn, 1) := by decide +kernel
theorem dX11_isRuleOf_36 : decode cX11_isRuleOf 36 = .ok (.iload_n 2, 1) := by decide +kernel
theorem dX11_isRuleOf_37 : decode cX11_isRuleOf 37 = .ok (.iconst 0, 1) := by decide +kernel
theorem dX11_isRuleOf_38 : decode cX11_isRuleOf 38 = .ok (.bipush 12, 2) := by decide +kernel
theorem dX11_isRuleOf_40 : decode cX11_isRuleOf 40 = .ok (.invokestatic 92, 3) := by decide +kernel
theorem dX11_isRuleOf_43 : decode cX11_isRuleOf 43 = .ok (.ifCond .eq 19, 3) := by decide +kernel
theorem dX11_isRuleOf_46 : decode cX11_isRuleOf 46 = .ok (.iload_n 1, 1) := by decide +kernel
theorem dX11_isRuleOf_47 : decode cX11_isRuleOf 47 = .ok (.bipush (-12), 2) := by decide +kernel
theorem dX11_isRuleOf_49 : decode cX11_isRuleOf 49 = .ok (.iload_n 2, 1) := by decide +kernel
theorem dX11_isRuleOf_50 : decode cX11_isRuleOf 50 = .ok (.iconst 1, 1) := by decide +kernel
theorem dX11_isRuleOf_51 : decode cX11_isRuleOf 51 = .ok (.isub, 1) := by decide +kernel
theorem dX11_isRuleOf_52 : decode cX11_isRuleOf 52 = .ok (.invokestatic 92, 3) := by decide +kernel
theorem dX11_isRuleOf_55 : decode cX11_isRuleOf 55 = .ok (.ifCond .eq 7, 3) := by decide +kernel
theorem dX11_isRuleOf_58 : decode cX11_isRuleOf 58 = .ok (.iconst 1, 1) := by decide +kernel
theorem dX11_isRuleOf_59 : decode cX11_isRuleOf 59 = .ok (.goto 4, 3) := by decide +kernel
theorem dX11_isRuleOf_62 : decode cX11_isRuleOf 62 = .ok (.iconst 0, 1) := by decide +kernel
theorem dX11_isRuleOf_63 : decode cX11_isRuleOf 63 = .ok (.ireturn, 1) := by decide +kernel
theorem dX11_isRuleOf_64 : decode cX11_isRuleOf 64 = .ok (.iload_n 1, 1) := by decide +kernel
theorem dX11_isRuleOf_65 : decode cX11_isRuleOf 65 = .ok (.bipush (-12), 2) := by decide +kernel
theorem dX11_isRuleOf_67 : decode cX11_isRuleOf 67 = .ok (.bipush 12, 2) := by decide +kernel
theorem dX11_isRuleOf_69 : decode cX11_isRuleOf 69 = .ok (.invokestatic 92, 3) := by decide +kernel
theorem dX11_isRuleOf_72 : decode cX11_isRuleOf 72 = .ok (.ifCond .eq 17, 3) := by decide +kernel
theorem dX11_isRuleOf_75 : decode cX11_isRuleOf 75 = .ok (.iload_n 2, 1) := by decide +kernel
theorem dX11_isRuleOf_76 : decode cX11_isRuleOf 76 = .ok (.iconst 1, 1) := by decide +kernel
theorem dX11_isRuleOf_77 : decode cX11_isRuleOf 77 = .ok (.bipush 12, 2) := by decide +kernel
theorem dX11_isRuleOf_79 : decode cX11_isRuleOf 79 = .ok (.invokestatic 92, 3) := by decide +kernel
theorem dX11_isRuleOf_82 : decode cX11_isRuleOf 82 = .ok (.ifCond .eq 7, 3) := by decide +kernel
theorem dX11_isRuleOf_85 : decode cX11_isRuleOf 85 = .ok (.iconst 1, 1) := by decide +kernel
theorem dX11_isRuleOf_86 : decode cX11_isRuleOf 86 = .ok (.goto 4, 3) := by decide +kernel
theorem dX11_isRuleOf_89 : decode cX11_isRuleOf 89 = .ok (.iconst 0, 1) := by decide +kernel
theorem dX11_isRuleOf_90 : decode cX11_isRuleOf 90 = .ok (.ireturn, 1) := by decide +kernel
theorem dX11_isRuleOf_91 : decode cX11_isRuleOf 91 = .ok (.iconst 0, 1) := by decide +kernel
theorem dX11_isRuleOf_92 : decode cX11_isRuleOf 92 = .ok (.ireturn, 1) := by decide +kernel
theorem dX11_isStart_0 : decode cX11_isStart 0 = .ok (.iload_n 1, 1) := by decide +kernel
theorem dX11_isStart_1 : decode cX11_isStart 1 = .ok (.invokestatic 81, 3) := by decide +kernel
theorem dX11_isStart_4 : decode cX11_isStart 4 = .ok (.ifCond .eq 35, 3) := by decide +kernel
theorem dX11_isStart_7 : decode cX11_isStart 7 = .ok (.iload_n 3, 1) := by decide +kernel
theorem dX11_isStart_8 : decode cX11_isStart 8 = .ok (.invokestatic 269, 3) := by decide +kernel
theorem dX11_isStart_11 : decode cX11_isStart 11 = .ok (.ifCond .eq 28, 3) := by decide +kernel
theorem dX11_isStart_14 : decode cX11_isStart 14 = .ok (.iload_n 2, 1) := by decide +kernel
theorem dX11_isStart_15 : decode cX11_isStart 15 = .ok (.aload_n 0, 1) := by decide +kernel
theorem dX11_isStart_16 : decode cX11_isStart 16 = .ok (.getfield 33, 3) := by decide +kernel
theorem dX11_isStart_19 : decode cX11_isStart 19 = .ok (.invokevirtual 314, 3) := by decide +kernel
theorem dX11_isStart_22 : decode cX11_isStart 22 = .ok (.aload_n 0, 1) := by decide +kernel
theorem dX11_isStart_23 : decode cX11_isStart 23 = .ok (.getfield 33, 3) := by decide +kernel
theorem dX11_isStart_26 : decode cX11_isStart 26 = .ok (.getfield 185, 3) := by decide +kernel
theorem dX11_isStart_29 : decode cX11_isStart 29 = .ok (.invokestatic 92, 3) := by decide +kernel
theorem dX11_isStart_32 : decode cX11_isStart 32 = .ok (.ifCond .eq 7, 3) := by decide +kernel
theorem dX11_isStart_35 : decode cX11_isStart 35 = .ok (.iconst 1, 1) := by decide +kernel
theorem dX11_isStart_36 : decode cX11_isStart 36 = .ok (.goto 4, 3) := by decide +kernel
theorem dX11_isStart_39 : decode cX11_isStart 39 = .ok (.iconst 0, 1) := by decide +kernel
theorem dX11_isStart_40 : decode cX11_isStart 40 = .ok (.ireturn, 1) := by decide +kernel
theorem dX11_isStretch_0 : decode cX11_isStretch 0 = .ok (.iload_n 1, 1) := by decide +kernel
theorem dX11_isStretch_1 : decode cX11_isStretch 1 = .ok (.iconst 0, 1) := by decide +kernel
theorem dX11_isStretch_2 : decode cX11_isStretch 2 = .ok (.bipush 7, 2) := by decide +kernel
theorem dX11_isStretch_4 : decode cX11_isStretch 4 = .ok (.invokestatic 92, 3) := by decide +kernel
theorem dX11_isStretch_7 : decode cX11_isStretch 7 = .ok (.ifCond .eq 19, 3) := by decide +kernel
theorem dX11_isStretch_10 : decode cX11_isStretch 10 = .ok (.iload_n 0, 1) := by decide +kernel
theorem dX11_isStretch_11 : decode cX11_isStretch 11 = .ok (.iconst 0, 1) := by decide +kernel
theorem dX11_isStretch_12 : decode cX11_isStretch 12 = .ok (.bipush 7, 2) := by decide +kernel
theorem dX11_isStretch_14 : decode cX11_isStretch 14 = .ok (.iload_n 1, 1) := by decide +kernel
theorem dX11_isStretch_15 : decode cX11_isStretch 15 = .ok (.isub, 1) := by decide +kernel
theorem dX11_isStretch_16 : decode cX11_isStretch 16 = .ok (.invokestatic 92, 3) := by decide +kernel
theorem dX11_isStretch_19 : decode cX11_isStretch 19 = .ok (.ifCond .eq 7, 3) := by decide +kernel
theorem dX11_isStretch_22 : decode cX11_isStretch 22 = .ok (.iconst 1, 1) := by decide +kernel
theorem dX11_isStretch_23 : decode cX11_isStretch 23 = .ok (.goto 4, 3) := by decide +kernel
theorem dX11_isStretch_26 : decode cX11_isStretch 26 = .ok (.iconst 0, 1) := by decide +kernel
theorem dX11_isStretch_27 : decode cX11_isStretch 27 = .ok (.ireturn, 1) := by decide +kernel
theorem dX11_refuse_0 : decode cX11_refuse 0 = .ok (.aload_n 0, 1) := by decide +kernel
theorem dX11_refuse_1 : decode cX11_refuse 1 = .ok (.iload_n 1, 1) := by decide +kernel
theorem dX11_refuse_2 : decode cX11_refuse 2 = .ok (.putfield 288, 3) := by decide +kernel
theorem dX11_refuse_5 : decode cX11_refuse 5 = .ok (.iload_n 1, 1) := by decide +kernel
theorem dX11_refuse_6 : decode cX11_refuse 6 = .ok (.iconst 1, 1) := by decide +kernel
theorem dX11_refuse_7 : decode cX11_refuse 7 = .ok (.iconst 5, 1) := by decide +kernel
theorem dX11_refuse_8 : decode cX11_refuse 8 = .ok (.invokestatic 92, 3) := by decide +kernel
theorem dX11_refuse_11 : decode cX11_refuse 11 = .ok (.ifCond .eq 13, 3) := by decide +kernel
theorem dX11_refuse_14 : decode cX11_refuse 14 = .ok (.aload_n 0, 1) := by decide +kernel
theorem dX11_refuse_15 : decode cX11_refuse 15 = .ok (.getfield 47, 3) := by decide +kernel
theorem dX11_refuse_18 : decode cX11_refuse 18 = .ok (.iload_n 1, 1) := by decide +kernel
theorem dX11_refuse_19 : decode cX11_refuse 19 = .ok (.dup2, 1) := by decide +kernel
theorem dX11_refuse_20 : decode cX11_refuse 20 = .ok (.iaload, 1) := by decide +kernel
theorem dX11_refuse_21 : decode cX11_refuse 21 = .ok (.iconst 1, 1) := by decide +kernel
theorem dX11_refuse_22 : decode cX11_refuse 22 = .ok (.iadd, 1) := by decide +kernel
theorem dX11_refuse_23 : decode cX11_refuse 23 = .ok (.iastore, 1) := by decide +kernel
theorem dX11_refuse_24 : decode cX11_refuse 24 = .ok (.bipush (-3), 2) := by decide +kernel
theorem dX11_refuse_26 : decode cX11_refuse 26 = .ok (.ireturn, 1) := by decide +kernel
theorem dX11_lackOf_0 : decode cX11_lackOf 0 = .ok (.aload_n 0, 1) := by decide +kernel
theorem dX11_lackOf_1 : decode cX11_lackOf 1 = .ok (.getfield 85, 3) := by decide +kernel
theorem dX11_lackOf_4 : decode cX11_lackOf 4 = .ok (.ifCond .ne 5, 3) := by decide +kernel
theorem dX11_lackOf_7 : decode cX11_lackOf 7 = .ok (.iconst 1, 1) := by decide +kernel
theorem dX11_lackOf_8 : decode cX11_lackOf 8 = .ok (.ireturn, 1) := by decide +kernel
theorem dX11_lackOf_9 : decode cX11_lackOf 9 = .ok (.aload_n 0, 1) := by decide +kernel
theorem dX11_lackOf_10 : decode cX11_lackOf 10 = .ok (.invokevirtual 120, 3) := by decide +kernel
theorem dX11_lackOf_13 : decode cX11_lackOf 13 = .ok (.ifCond .ne 7, 3) := by decide +kernel
theorem dX11_lackOf_16 : decode cX11_lackOf 16 = .ok (.iconst 4, 1) := by decide +kernel
theorem dX11_lackOf_17 : decode cX11_lackOf 17 = .ok (.goto 4, 3) := by decide +kernel
theorem dX11_lackOf_20 : decode cX11_lackOf 20 = .ok (.iconst 0, 1) := by decide +kernel
theorem dX11_lackOf_21 : decode cX11_lackOf 21 = .ok (.ireturn, 1) := by decide +kernel
theorem dX11_lackOf__0 : decode cX11_lackOf_ 0 = .ok (.aload_n 0, 1) := by decide +kernel
theorem dX11_lackOf__1 : decode cX11_lackOf_ 1 = .ok (.ifnonnull 7, 3) := by decide +kernel
theorem dX11_lackOf__4 : decode cX11_lackOf_ 4 = .ok (.iconst 1, 1) := by decide +kernel
theorem dX11_lackOf__5 : decode cX11_lackOf_ 5 = .ok (.goto 7, 3) := by decide +kernel
theorem dX11_lackOf__8 : decode cX11_lackOf_ 8 = .ok (.aload_n 1, 1) := by decide +kernel
theorem dX11_lackOf__9 : decode cX11_lackOf_ 9 = .ok (.invokestatic 116, 3) := by decide +kernel
theorem dX11_lackOf__12 : decode cX11_lackOf_ 12 = .ok (.ireturn, 1) := by decide +kernel
theorem dX11_keep_0 : decode cX11_keep 0 = .ok (.aload_n 0, 1) := by decide +kernel
theorem dX11_keep_1 : decode cX11_keep 1 = .ok (.getfield 130, 3) := by decide +kernel
theorem dX11_keep_4 : decode cX11_keep 4 = .ok (.istore_n 2, 1) := by decide +kernel
theorem dX11_keep_5 : decode cX11_keep 5 = .ok (.iload_n 2, 1) := by decide +kernel
theorem dX11_keep_6 : decode cX11_keep 6 = .ok (.iconst 0, 1) := by decide +kernel
theorem dX11_keep_7 : decode cX11_keep 7 = .ok (.aload_n 0, 1) := by decide +kernel
theorem dX11_keep_8 : decode cX11_keep 8 = .ok (.getfield 26, 3) := by decide +kernel
theorem dX11_keep_11 : decode cX11_keep 11 = .ok (.arraylength, 1) := by decide +kernel
theorem dX11_keep_12 : decode cX11_keep 12 = .ok (.iconst 1, 1) := by decide +kernel
theorem dX11_keep_13 : decode cX11_keep 13 = .ok (.isub, 1) := by decide +kernel
theorem dX11_keep_14 : decode cX11_keep 14 = .ok (.invokestatic 92, 3) := by decide +kernel
theorem dX11_keep_17 : decode cX11_keep 17 = .ok (.ifCond .eq 20, 3) := by decide +kernel
theorem dX11_keep_20 : decode cX11_keep 20 = .ok (.aload_n 0, 1) := by decide +kernel
theorem dX11_keep_21 : decode cX11_keep 21 = .ok (.getfield 26, 3) := by decide +kernel
theorem dX11_keep_24 : decode cX11_keep 24 = .ok (.iload_n 2, 1) := by decide +kernel
theorem dX11_keep_25 : decode cX11_keep 25 = .ok (.aload_n 1, 1) := by decide +kernel
theorem dX11_keep_26 : decode cX11_keep 26 = .ok (.aastore, 1) := by decide +kernel
theorem dX11_keep_27 : decode cX11_keep 27 = .ok (.aload_n 0, 1) := by decide +kernel
theorem dX11_keep_28 : decode cX11_keep 28 = .ok (.dup, 1) := by decide +kernel
theorem dX11_keep_29 : decode cX11_keep 29 = .ok (.getfield 130, 3) := by decide +kernel
theorem dX11_keep_32 : decode cX11_keep 32 = .ok (.iconst 1, 1) := by decide +kernel
theorem dX11_keep_33 : decode cX11_keep 33 = .ok (.iadd, 1) := by decide +kernel
theorem dX11_keep_34 : decode cX11_keep 34 = .ok (.putfield 130, 3) := by decide +kernel
theorem dX11_keep_37 : decode cX11_keep 37 = .ok (.iload_n 2, 1) := by decide +kernel
theorem dX11_keep_38 : decode cX11_keep 38 = .ok (.ireturn, 1) := by decide +kernel
theorem dX11_tellOf_0 : decode cX11_tellOf 0 = .ok (.iload_n 1, 1) := by decide +kernel
theorem dX11_tellOf_1 : decode cX11_tellOf 1 = .ok (.tableswitch 51 0 3 #[31, 36, 41, 46], 31) := by decide +kernel
theorem dX11_tellOf_32 : decode cX11_tellOf 32 = .ok (.aload_n 0, 1) := by decide +kernel
theorem dX11_tellOf_33 : decode cX11_tellOf 33 = .ok (.invokevirtual 317, 3) := by decide +kernel
theorem dX11_tellOf_36 : decode cX11_tellOf 36 = .ok (.ireturn, 1) := by decide +kernel
theorem dX11_tellOf_37 : decode cX11_tellOf 37 = .ok (.aload_n 0, 1) := by decide +kernel
theorem dX11_tellOf_38 : decode cX11_tellOf 38 = .ok (.invokevirtual 320, 3) := by decide +kernel
theorem dX11_tellOf_41 : decode cX11_tellOf 41 = .ok (.ireturn, 1) := by decide +kernel
theorem dX11_tellOf_42 : decode cX11_tellOf 42 = .ok (.aload_n 0, 1) := by decide +kernel
theorem dX11_tellOf_43 : decode cX11_tellOf 43 = .ok (.invokevirtual 323, 3) := by decide +kernel
theorem dX11_tellOf_46 : decode cX11_tellOf 46 = .ok (.ireturn, 1) := by decide +kernel
theorem dX11_tellOf_47 : decode cX11_tellOf 47 = .ok (.aload_n 0, 1) := by decide +kernel
theorem dX11_tellOf_48 : decode cX11_tellOf 48 = .ok (.invokevirtual 326, 3) := by decide +kernel
theorem dX11_tellOf_51 : decode cX11_tellOf 51 = .ok (.ireturn, 1) := by decide +kernel
theorem dX11_tellOf_52 : decode cX11_tellOf 52 = .ok (.aload_n 0, 1) := by decide +kernel
theorem dX11_tellOf_53 : decode cX11_tellOf 53 = .ok (.invokevirtual 329, 3) := by decide +kernel
theorem dX11_tellOf_56 : decode cX11_tellOf 56 = .ok (.ireturn, 1) := by decide +kernel
theorem dX11_cutOrder_0 : decode cX11_cutOrder 0 = .ok (.iconst 0, 1) := by decide +kernel
theorem dX11_cutOrder_1 : decode cX11_cutOrder 1 = .ok (.bipush 12, 2) := by decide +kernel
theorem dX11_cutOrder_3 : decode cX11_cutOrder 3 = .ok (.iload_n 0, 1) := by decide +kernel
theorem dX11_cutOrder_4 : decode cX11_cutOrder 4 = .ok (.invokestatic 308, 3) := by decide +kernel
theorem dX11_cutOrder_7 : decode cX11_cutOrder 7 = .ok (.invokestatic 332, 3) := by decide +kernel
theorem dX11_cutOrder_10 : decode cX11_cutOrder 10 = .ok (.ireturn, 1) := by decide +kernel
theorem dX11_rulesThere_0 : decode cX11_rulesThere 0 = .ok (.iconst 0, 1) := by decide +kernel
theorem dX11_rulesThere_1 : decode cX11_rulesThere 1 = .ok (.istore_n 1, 1) := by decide +kernel
theorem dX11_rulesThere_2 : decode cX11_rulesThere 2 = .ok (.iconst 0, 1) := by decide +kernel
theorem dX11_rulesThere_3 : decode cX11_rulesThere 3 = .ok (.istore_n 2, 1) := by decide +kernel
theorem dX11_rulesThere_4 : decode cX11_rulesThere 4 = .ok (.iload_n 2, 1) := by decide +kernel
theorem dX11_rulesThere_5 : decode cX11_rulesThere 5 = .ok (.aload_n 0, 1) := by decide +kernel
theorem dX11_rulesThere_6 : decode cX11_rulesThere 6 = .ok (.getfield 26, 3) := by decide +kernel
theorem dX11_rulesThere_9 : decode cX11_rulesThere 9 = .ok (.arraylength, 1) := by decide +kernel
theorem dX11_rulesThere_10 : decode cX11_rulesThere 10 = .ok (.if_icmp .ge 21, 3) := by decide +kernel
theorem dX11_rulesThere_13 : decode cX11_rulesThere 13 = .ok (.aload_n 0, 1) := by decide +kernel
theorem dX11_rulesThere_14 : decode cX11_rulesThere 14 = .ok (.getfield 26, 3) := by decide +kernel
theorem dX11_rulesThere_17 : decode cX11_rulesThere 17 = .ok (.iload_n 2, 1) := by decide +kernel
theorem dX11_rulesThere_18 : decode cX11_rulesThere 18 = .ok (.aaload, 1) := by decide +kernel
theorem dX11_rulesThere_19 : decode cX11_rulesThere 19 = .ok (.ifnull 6, 3) := by decide +kernel
theorem dX11_rulesThere_22 : decode cX11_rulesThere 22 = .ok (.iinc 1 1, 3) := by decide +kernel
theorem dX11_rulesThere_25 : decode cX11_rulesThere 25 = .ok (.iinc 2 1, 3) := by decide +kernel
theorem dX11_rulesThere_28 : decode cX11_rulesThere 28 = .ok (.goto (-24), 3) := by decide +kernel
theorem dX11_rulesThere_31 : decode cX11_rulesThere 31 = .ok (.iload_n 1, 1) := by decide +kernel
theorem dX11_rulesThere_32 : decode cX11_rulesThere 32 = .ok (.ireturn, 1) := by decide +kernel
theorem dX11_seekPair_0 : decode cX11_seekPair 0 = .ok (.ldc2_w 223, 3) := by decide +kernel
theorem dX11_seekPair_3 : decode cX11_seekPair 3 = .ok (.lstore 4, 2) := by decide +kernel
theorem dX11_seekPair_5 : decode cX11_seekPair 5 = .ok (.iconst 0, 1) := by decide +kernel
theorem dX11_seekPair_6 : decode cX11_seekPair 6 = .ok (.istore 6, 2) := by decide +kernel
theorem dX11_seekPair_8 : decode cX11_seekPair 8 = .ok (.iload 6, 2) := by decide +kernel
theorem dX11_seekPair_10 : decode cX11_seekPair 10 = .ok (.aload_n 0, 1) := by decide +kernel
theorem dX11_seekPair_11 : decode cX11_seekPair 11 = .ok (.getfield 33, 3) := by decide +kernel
theorem dX11_seekPair_14 : decode cX11_seekPair 14 = .ok (.getfield 185, 3) := by decide +kernel
theorem dX11_seekPair_17 : decode cX11_seekPair 17 = .ok (.if_icmp .gt 97, 3) := by decide +kernel
theorem dX11_seekPair_20 : decode cX11_seekPair 20 = .ok (.bipush (-12), 2) := by decide +kernel
theorem dX11_seekPair_22 : decode cX11_seekPair 22 = .ok (.istore 7, 2) := by decide +kernel
theorem dX11_seekPair_24 : decode cX11_seekPair 24 = .ok (.iload 7, 2) := by decide +kernel
theorem dX11_seekPair_26 : decode cX11_seekPair 26 = .ok (.iload 6, 2) := by decide +kernel
theorem dX11_seekPair_28 : decode cX11_seekPair 28 = .ok (.if_icmp .ge 80, 3) := by decide +kernel
theorem dX11_seekPair_31 : decode cX11_seekPair 31 = .ok (.iload 7, 2) := by decide +kernel
theorem dX11_seekPair_33 : decode cX11_seekPair 33 = .ok (.bipush (-12), 2) := by decide +kernel
theorem dX11_seekPair_35 : decode cX11_seekPair 35 = .ok (.if_icmp .le 18, 3) := by decide +kernel
theorem dX11_seekPair_38 : decode cX11_seekPair 38 = .ok (.aload_n 0, 1) := by decide +kernel
theorem dX11_seekPair_39 : decode cX11_seekPair 39 = .ok (.getfield 59, 3) := by decide +kernel
theorem dX11_seekPair_42 : decode cX11_seekPair 42 = .ok (.iload 7, 2) := by decide +kernel
theorem dX11_seekPair_44 : decode cX11_seekPair 44 = .ok (.invokevirtual 335, 3) := by decide +kernel
theorem dX11_seekPair_47 : decode cX11_seekPair 47 = .ok (.ifCond .ne 6, 3) := by decide +kernel
theorem dX11_seekPair_50 : decode cX11_seekPair 50 = .ok (.goto 52, 3) := by decide +kernel
theorem dX11_seekPair_53 : decode cX11_seekPair 53 = .ok (.aload_n 0, 1) := by decide +kernel
theorem dX11_seekPair_54 : decode cX11_seekPair 54 = .ok (.getfield 59, 3) := by decide +kernel
theorem dX11_seekPair_57 : decode cX11_seekPair 57 = .ok (.iload 7, 2) := by decide +kernel
theorem dX11_seekPair_59 : decode cX11_seekPair 59 = .ok (.iload 6, 2) := by decide +kernel
theorem dX11_seekPair_61 : decode cX11_seekPair 61 = .ok (.invokevirtual 338, 3) := by decide +kernel
theorem dX11_seekPair_64 : decode cX11_seekPair 64 = .ok (.aload_n 0, 1) := by decide +kernel
theorem dX11_seekPair_65 : decode cX11_seekPair 65 = .ok (.getfield 59, 3) := by decide +kernel
theorem dX11_seekPair_68 : decode cX11_seekPair 68 = .ok (.aload_n 1, 1) := by decide +kernel
theorem dX11_seekPair_69 : decode cX11_seekPair 69 = .ok (.iload_n 2, 1) := by decide +kernel
theorem dX11_seekPair_70 : decode cX11_seekPair 70 = .ok (.iload_n 3, 1) := by decide +kernel
theorem dX11_seekPair_71 : decode cX11_seekPair 71 = .ok (.lload 4, 2) := by decide +kernel
theorem dX11_seekPair_73 : decode cX11_seekPair 73 = .ok (.invokevirtual 225, 3) := by decide +kernel
theorem dX11_seekPair_76 : decode cX11_seekPair 76 = .ok (.lstore 8, 2) := by decide +kernel
theorem dX11_seekPair_78 : decode cX11_seekPair 78 = .ok (.lload 8, 2) := by decide +kernel
theorem dX11_seekPair_80 : decode cX11_seekPair 80 = .ok (.lload 4, 2) := by decide +kernel
theorem dX11_seekPair_82 : decode cX11_seekPair 82 = .ok (.lcmp, 1) := by decide +kernel
theorem dX11_seekPair_83 : decode cX11_seekPair 83 = .ok (.ifCond .ge 19, 3) := by decide +kernel
theorem dX11_seekPair_86 : decode cX11_seekPair 86 = .ok (.lload 8, 2) := by decide +kernel
theorem dX11_seekPair_88 : decode cX11_seekPair 88 = .ok (.lstore 4, 2) := by decide +kernel
theorem dX11_seekPair_90 : decode cX11_seekPair 90 = .ok (.aload_n 0, 1) := by decide +kernel
theorem dX11_seekPair_91 : decode cX11_seekPair 91 = .ok (.iload 7, 2) := by decide +kernel
theorem dX11_seekPair_93 : decode cX11_seekPair 93 = .ok (.putfield 263, 3) := by decide +kernel
theorem dX11_seekPair_96 : decode cX11_seekPair 96 = .ok (.aload_n 0, 1) := by decide +kernel
theorem dX11_seekPair_97 : decode cX11_seekPair 97 = .ok (.iload 6, 2) := by decide +kernel
theorem dX11_seekPair_99 : decode cX11_seekPair 99 = .ok (.putfield 266, 3) := by decide +kernel
theorem dX11_seekPair_102 : decode cX11_seekPair 102 = .ok (.iinc 7 1, 3) := by decide +kernel
theorem dX11_seekPair_105 : decode cX11_seekPair 105 = .ok (.goto (-81), 3) := by decide +kernel
theorem dX11_seekPair_108 : decode cX11_seekPair 108 = .ok (.iinc 6 1, 3) := by decide +kernel
theorem dX11_seekPair_111 : decode cX11_seekPair 111 = .ok (.goto (-103), 3) := by decide +kernel
theorem dX11_seekPair_114 : decode cX11_seekPair 114 = .ok (.aload_n 0, 1) := by decide +kernel
theorem dX11_seekPair_115 : decode cX11_seekPair 115 = .ok (.iconst 1, 1) := by decide +kernel
theorem dX11_seekPair_116 : decode cX11_seekPair 116 = .ok (.putfield 260, 3) := by decide +kernel
theorem dX11_seekPair_119 : decode cX11_seekPair 119 = .ok (.lload 4, 2) := by decide +kernel
theorem dX11_seekPair_121 : decode cX11_seekPair 121 = .ok (.lreturn, 1) := by decide +kernel
theorem dX11_weightOfSeen_0 : decode cX11_weightOfSeen 0 = .ok (.lconst 1, 1) := by decide +kernel
theorem dX11_weightOfSeen_1 : decode cX11_weightOfSeen 1 = .ok (.lstore_n 2, 1) := by decide +kernel
theorem dX11_weightOfSeen_2 : decode cX11_weightOfSeen 2 = .ok (.iconst 0, 1) := by decide +kernel
theorem dX11_weightOfSeen_3 : decode cX11_weightOfSeen 3 = .ok (.istore 4, 2) := by decide +kernel
theorem dX11_weightOfSeen_5 : decode cX11_weightOfSeen 5 = .ok (.iload 4, 2) := by decide +kernel
theorem dX11_weightOfSeen_7 : decode cX11_weightOfSeen 7 = .ok (.aload_n 0, 1) := by decide +kernel
theorem dX11_weightOfSeen_8 : decode cX11_weightOfSeen 8 = .ok (.getfield 278, 3) := by decide +kernel
theorem dX11_weightOfSeen_11 : decode cX11_weightOfSeen 11 = .ok (.if_icmp .ge 34, 3) := by decide +kernel
theorem dX11_weightOfSeen_14 : decode cX11_weightOfSeen 14 = .ok (.iload 4, 2) := by decide +kernel
theorem dX11_weightOfSeen_16 : decode cX11_weightOfSeen 16 = .ok (.aload_n 0, 1) := by decide +kernel
theorem dX11_weightOfSeen_17 : decode cX11_weightOfSeen 17 = .ok (.getfield 37, 3) := by decide +kernel
theorem dX11_weightOfSeen_20 : decode cX11_weightOfSeen 20 = .ok (.arraylength, 1) := by decide +kernel
theorem dX11_weightOfSeen_21 : decode cX11_weightOfSeen 21 = .ok (.if_icmp .ge 24, 3) := by decide +kernel
theorem dX11_weightOfSeen_24 : decode cX11_weightOfSeen 24 = .ok (.lload_n 2, 1) := by decide +kernel
theorem dX11_weightOfSeen_25 : decode cX11_weightOfSeen 25 = .ok (.aload_n 1, 1) := by decide +kernel
theorem dX11_weightOfSeen_26 : decode cX11_weightOfSeen 26 = .ok (.aload_n 0, 1) := by decide +kernel
theorem dX11_weightOfSeen_27 : decode cX11_weightOfSeen 27 = .ok (.getfield 37, 3) := by decide +kernel
theorem dX11_weightOfSeen_30 : decode cX11_weightOfSeen 30 = .ok (.iload 4, 2) := by decide +kernel
theorem dX11_weightOfSeen_32 : decode cX11_weightOfSeen 32 = .ok (.iaload, 1) := by decide +kernel
theorem dX11_weightOfSeen_33 : decode cX11_weightOfSeen 33 = .ok (.invokevirtual 341, 3) := by decide +kernel
theorem dX11_weightOfSeen_36 : decode cX11_weightOfSeen 36 = .ok (.i2l, 1) := by decide +kernel
theorem dX11_weightOfSeen_37 : decode cX11_weightOfSeen 37 = .ok (.lmul, 1) := by decide +kernel
theorem dX11_weightOfSeen_38 : decode cX11_weightOfSeen 38 = .ok (.lstore_n 2, 1) := by decide +kernel
theorem dX11_weightOfSeen_39 : decode cX11_weightOfSeen 39 = .ok (.iinc 4 1, 3) := by decide +kernel
theorem dX11_weightOfSeen_42 : decode cX11_weightOfSeen 42 = .ok (.goto (-37), 3) := by decide +kernel
theorem dX11_weightOfSeen_45 : decode cX11_weightOfSeen 45 = .ok (.lload_n 2, 1) := by decide +kernel
theorem dX11_weightOfSeen_46 : decode cX11_weightOfSeen 46 = .ok (.lreturn, 1) := by decide +kernel
theorem dX11_rowsOf_0 : decode cX11_rowsOf 0 = .ok (.aload_n 0, 1) := by decide +kernel
theorem dX11_rowsOf_1 : decode cX11_rowsOf 1 = .ok (.invokevirtual 120, 3) := by decide +kernel
theorem dX11_rowsOf_4 : decode cX11_rowsOf 4 = .ok (.i2l, 1) := by decide +kernel
theorem dX11_rowsOf_5 : decode cX11_rowsOf 5 = .ok (.lstore_n 2, 1) := by decide +kernel
theorem dX11_rowsOf_6 : decode cX11_rowsOf 6 = .ok (.lconst 1, 1) := by decide +kernel
theorem dX11_rowsOf_7 : decode cX11_rowsOf 7 = .ok (.lstore 4, 2) := by decide +kernel
theorem dX11_rowsOf_9 : decode cX11_rowsOf 9 = .ok (.iconst 0, 1) := by decide +kernel
theorem dX11_rowsOf_10 : decode cX11_rowsOf 10 = .ok (.istore 6, 2) := by decide +kernel
theorem dX11_rowsOf_12 : decode cX11_rowsOf 12 = .ok (.iload 6, 2) := by decide +kernel
theorem dX11_rowsOf_14 : decode cX11_rowsOf 14 = .ok (.iload_n 1, 1) := by decide +kernel
theorem dX11_rowsOf_15 : decode cX11_rowsOf 15 = .ok (.if_icmp .ge 15, 3) := by decide +kernel
theorem dX11_rowsOf_18 : decode cX11_rowsOf 18 = .ok (.lload 4, 2) := by decide +kernel
theorem dX11_rowsOf_20 : decode cX11_rowsOf 20 = .ok (.lload_n 2, 1) := by decide +kernel
theorem dX11_rowsOf_21 : decode cX11_rowsOf 21 = .ok (.lmul, 1) := by decide +kernel
theorem dX11_rowsOf_22 : decode cX11_rowsOf 22 = .ok (.lstore 4, 2) := by decide +kernel
theorem dX11_rowsOf_24 : decode cX11_rowsOf 24 = .ok (.iinc 6 1, 3) := by decide +kernel
theorem dX11_rowsOf_27 : decode cX11_rowsOf 27 = .ok (.goto (-15), 3) := by decide +kernel
theorem dX11_rowsOf_30 : decode cX11_rowsOf 30 = .ok (.lload 4, 2) := by decide +kernel
theorem dX11_rowsOf_32 : decode cX11_rowsOf 32 = .ok (.lreturn, 1) := by decide +kernel
theorem dX11_tell_0 : decode cX11_tell 0 = .ok (.lload_n 1, 1) := by decide +kernel
theorem dX11_tell_1 : decode cX11_tell 1 = .ok (.lload_n 3, 1) := by decide +kernel
theorem dX11_tell_2 : decode cX11_tell 2 = .ok (.invokestatic 344, 3) := by decide +kernel
theorem dX11_tell_5 : decode cX11_tell 5 = .ok (.lstore 5, 2) := by decide +kernel
theorem dX11_tell_7 : decode cX11_tell 7 = .ok (.lload_n 3, 1) := by decide +kernel
theorem dX11_tell_8 : decode cX11_tell 8 = .ok (.lconst 0, 1) := by decide +kernel
theorem dX11_tell_9 : decode cX11_tell 9 = .ok (.lcmp, 1) := by decide +kernel
theorem dX11_tell_10 : decode cX11_tell 10 = .ok (.ifCond .le 10, 3) := by decide +kernel
theorem dX11_tell_13 : decode cX11_tell 13 = .ok (.lload 5, 2) := by decide +kernel
theorem dX11_tell_15 : decode cX11_tell 15 = .ok (.lconst 0, 1) := by decide +kernel
theorem dX11_tell_16 : decode cX11_tell 16 = .ok (.lcmp, 1) := by decide +kernel
theorem dX11_tell_17 : decode cX11_tell 17 = .ok (.ifCond .gt 16, 3) := by decide +kernel
theorem dX11_tell_20 : decode cX11_tell 20 = .ok (.aload_n 0, 1) := by decide +kernel
theorem dX11_tell_21 : decode cX11_tell 21 = .ok (.lconst 0, 1) := by decide +kernel
theorem dX11_tell_22 : decode cX11_tell 22 = .ok (.putfield 40, 3) := by decide +kernel
theorem dX11_tell_25 : decode cX11_tell 25 = .ok (.aload_n 0, 1) := by decide +kernel
theorem dX11_tell_26 : decode cX11_tell 26 = .ok (.lconst 1, 1) := by decide +kernel
theorem dX11_tell_27 : decode cX11_tell 27 = .ok (.putfield 44, 3) := by decide +kernel
theorem dX11_tell_30 : decode cX11_tell 30 = .ok (.goto 19, 3) := by decide +kernel
theorem dX11_tell_33 : decode cX11_tell 33 = .ok (.aload_n 0, 1) := by decide +kernel
theorem dX11_tell_34 : decode cX11_tell 34 = .ok (.lload_n 1, 1) := by decide +kernel
theorem dX11_tell_35 : decode cX11_tell 35 = .ok (.lload 5, 2) := by decide +kernel
theorem dX11_tell_37 : decode cX11_tell 37 = .ok (.ldiv, 1) := by decide +kernel
theorem dX11_tell_38 : decode cX11_tell 38 = .ok (.putfield 40, 3) := by decide +kernel
theorem dX11_tell_41 : decode cX11_tell 41 = .ok (.aload_n 0, 1) := by decide +kernel
theorem dX11_tell_42 : decode cX11_tell 42 = .ok (.lload_n 3, 1) := by decide +kernel
theorem dX11_tell_43 : decode cX11_tell 43 = .ok (.lload 5, 2) := by decide +kernel
theorem dX11_tell_45 : decode cX11_tell 45 = .ok (.ldiv, 1) := by decide +kernel
theorem dX11_tell_46 : decode cX11_tell 46 = .ok (.putfield 44, 3) := by decide +kernel
theorem dX11_tell_49 : decode cX11_tell 49 = .ok (.iconst 1, 1) := by decide +kernel
theorem dX11_tell_50 : decode cX11_tell 50 = .ok (.ireturn, 1) := by decide +kernel
theorem dX11_commonDivisor_0 : decode cX11_commonDivisor 0 = .ok (.lload_n 0, 1) := by decide +kernel
theorem dX11_commonDivisor_1 : decode cX11_commonDivisor 1 = .ok (.lstore 4, 2) := by decide +kernel
theorem dX11_commonDivisor_3 : decode cX11_commonDivisor 3 = .ok (.lload_n 2, 1) := by decide +kernel
theorem dX11_commonDivisor_4 : decode cX11_commonDivisor 4 = .ok (.lstore 6, 2) := by decide +kernel
theorem dX11_commonDivisor_6 : decode cX11_commonDivisor 6 = .ok (.iconst 0, 1) := by decide +kernel
theorem dX11_commonDivisor_7 : decode cX11_commonDivisor 7 = .ok (.istore 8, 2) := by decide +kernel
theorem dX11_commonDivisor_9 : decode cX11_commonDivisor 9 = .ok (.iload 8, 2) := by decide +kernel
theorem dX11_commonDivisor_11 : decode cX11_commonDivisor 11 = .ok (.sipush 200, 3) := by decide +kernel
theorem dX11_commonDivisor_14 : decode cX11_commonDivisor 14 = .ok (.if_icmp .ge 31, 3) := by decide +kernel
theorem dX11_commonDivisor_17 : decode cX11_commonDivisor 17 = .ok (.lload 6, 2) := by decide +kernel
theorem dX11_commonDivisor_19 : decode cX11_commonDivisor 19 = .ok (.lconst 0, 1) := by decide +kernel
theorem dX11_commonDivisor_20 : decode cX11_commonDivisor 20 = .ok (.lcmp, 1) := by decide +kernel
theorem dX11_commonDivisor_21 : decode cX11_commonDivisor 21 = .ok (.ifCond .eq 24, 3) := by decide +kernel
theorem dX11_commonDivisor_24 : decode cX11_commonDivisor 24 = .ok (.lload 4, 2) := by decide +kernel
theorem dX11_commonDivisor_26 : decode cX11_commonDivisor 26 = .ok (.lload 6, 2) := by decide +kernel
theorem dX11_commonDivisor_28 : decode cX11_commonDivisor 28 = .ok (.lrem, 1) := by decide +kernel
theorem dX11_commonDivisor_29 : decode cX11_commonDivisor 29 = .ok (.lstore 9, 2) := by decide +kernel
theorem dX11_commonDivisor_31 : decode cX11_commonDivisor 31 = .ok (.lload 6, 2) := by decide +kernel
theorem dX11_commonDivisor_33 : decode cX11_commonDivisor 33 = .ok (.lstore 4, 2) := by decide +kernel
theorem dX11_commonDivisor_35 : decode cX11_commonDivisor 35 = .ok (.lload 9, 2) := by decide +kernel
theorem dX11_commonDivisor_37 : decode cX11_commonDivisor 37 = .ok (.lstore 6, 2) := by decide +kernel
theorem dX11_commonDivisor_39 : decode cX11_commonDivisor 39 = .ok (.iinc 8 1, 3) := by decide +kernel
theorem dX11_commonDivisor_42 : decode cX11_commonDivisor 42 = .ok (.goto (-33), 3) := by decide +kernel
theorem dX11_commonDivisor_45 : decode cX11_commonDivisor 45 = .ok (.lload 4, 2) := by decide +kernel
theorem dX11_commonDivisor_47 : decode cX11_commonDivisor 47 = .ok (.lreturn, 1) := by decide +kernel
theorem dX11_digestBooks_0 : decode cX11_digestBooks 0 = .ok (.lload_n 1, 1) := by decide +kernel
theorem dX11_digestBooks_1 : decode cX11_digestBooks 1 = .ok (.lstore_n 3, 1) := by decide +kernel
theorem dX11_digestBooks_2 : decode cX11_digestBooks 2 = .ok (.iconst 0, 1) := by decide +kernel
theorem dX11_digestBooks_3 : decode cX11_digestBooks 3 = .ok (.istore 5, 2) := by decide +kernel
theorem dX11_digestBooks_5 : decode cX11_digestBooks 5 = .ok (.iload 5, 2) := by decide +kernel
theorem dX11_digestBooks_7 : decode cX11_digestBooks 7 = .ok (.aload_n 0, 1) := by decide +kernel
theorem dX11_digestBooks_8 : decode cX11_digestBooks 8 = .ok (.getfield 11, 3) := by decide +kernel
theorem dX11_digestBooks_11 : decode cX11_digestBooks 11 = .ok (.arraylength, 1) := by decide +kernel
theorem dX11_digestBooks_12 : decode cX11_digestBooks 12 = .ok (.if_icmp .ge 69, 3) := by decide +kernel
theorem dX11_digestBooks_15 : decode cX11_digestBooks 15 = .ok (.aload_n 0, 1) := by decide +kernel
theorem dX11_digestBooks_16 : decode cX11_digestBooks 16 = .ok (.getfield 11, 3) := by decide +kernel
theorem dX11_digestBooks_19 : decode cX11_digestBooks 19 = .ok (.iload 5, 2) := by decide +kernel
theorem dX11_digestBooks_21 : decode cX11_digestBooks 21 = .ok (.aaload, 1) := by decide +kernel
theorem dX11_digestBooks_22 : decode cX11_digestBooks 22 = .ok (.getfield 85, 3) := by decide +kernel
theorem dX11_digestBooks_25 : decode cX11_digestBooks 25 = .ok (.ifCond .ne 14, 3) := by decide +kernel
theorem dX11_digestBooks_28 : decode cX11_digestBooks 28 = .ok (.ldc2_w 293, 3) := by decide +kernel
theorem dX11_digestBooks_31 : decode cX11_digestBooks 31 = .ok (.lload_n 3, 1) := by decide +kernel
theorem dX11_digestBooks_32 : decode cX11_digestBooks 32 = .ok (.lmul, 1) := by decide +kernel
theorem dX11_digestBooks_33 : decode cX11_digestBooks 33 = .ok (.lconst 1, 1) := by decide +kernel
theorem dX11_digestBooks_34 : decode cX11_digestBooks 34 = .ok (.lsub, 1) := by decide +kernel
theorem dX11_digestBooks_35 : decode cX11_digestBooks 35 = .ok (.lstore_n 3, 1) := by decide +kernel
theorem dX11_digestBooks_36 : decode cX11_digestBooks 36 = .ok (.goto 39, 3) := by decide +kernel
theorem dX11_digestBooks_39 : decode cX11_digestBooks 39 = .ok (.iconst 0, 1) := by decide +kernel
theorem dX11_digestBooks_40 : decode cX11_digestBooks 40 = .ok (.istore 6, 2) := by decide +kernel
theorem dX11_digestBooks_42 : decode cX11_digestBooks 42 = .ok (.iload 6, 2) := by decide +kernel
theorem dX11_digestBooks_44 : decode cX11_digestBooks 44 = .ok (.bipush 7, 2) := by decide +kernel
theorem dX11_digestBooks_46 : decode cX11_digestBooks 46 = .ok (.if_icmp .ge 29, 3) := by decide +kernel
theorem dX11_digestBooks_49 : decode cX11_digestBooks 49 = .ok (.ldc2_w 293, 3) := by decide +kernel
theorem dX11_digestBooks_52 : decode cX11_digestBooks 52 = .ok (.lload_n 3, 1) := by decide +kernel
theorem dX11_digestBooks_53 : decode cX11_digestBooks 53 = .ok (.lmul, 1) := by decide +kernel
theorem dX11_digestBooks_54 : decode cX11_digestBooks 54 = .ok (.aload_n 0, 1) := by decide +kernel
theorem dX11_digestBooks_55 : decode cX11_digestBooks 55 = .ok (.getfield 11, 3) := by decide +kernel
theorem dX11_digestBooks_58 : decode cX11_digestBooks 58 = .ok (.iload 5, 2) := by decide +kernel
theorem dX11_digestBooks_60 : decode cX11_digestBooks 60 = .ok (.aaload, 1) := by decide +kernel
theorem dX11_digestBooks_61 : decode cX11_digestBooks 61 = .ok (.iload 6, 2) := by decide +kernel
theorem dX11_digestBooks_63 : decode cX11_digestBooks 63 = .ok (.invokevirtual 341, 3) := by decide +kernel
theorem dX11_digestBooks_66 : decode cX11_digestBooks 66 = .ok (.i2l, 1) := by decide +kernel
theorem dX11_digestBooks_67 : decode cX11_digestBooks 67 = .ok (.ladd, 1) := by decide +kernel
theorem dX11_digestBooks_68 : decode cX11_digestBooks 68 = .ok (.lstore_n 3, 1) := by decide +kernel
theorem dX11_digestBooks_69 : decode cX11_digestBooks 69 = .ok (.iinc 6 1, 3) := by decide +kernel
theorem dX11_digestBooks_72 : decode cX11_digestBooks 72 = .ok (.goto (-30), 3) := by decide +kernel
theorem dX11_digestBooks_75 : decode cX11_digestBooks 75 = .ok (.iinc 5 1, 3) := by decide +kernel
theorem dX11_digestBooks_78 : decode cX11_digestBooks 78 = .ok (.goto (-73), 3) := by decide +kernel
theorem dX11_digestBooks_81 : decode cX11_digestBooks 81 = .ok (.lload_n 3, 1) := by decide +kernel
theorem dX11_digestBooks_82 : decode cX11_digestBooks 82 = .ok (.lreturn, 1) := by decide +kernel
theorem dX11_digestRules_0 : decode cX11_digestRules 0 = .ok (.lload_n 1, 1) := by decide +kernel
theorem dX11_digestRules_1 : decode cX11_digestRules 1 = .ok (.lstore_n 3, 1) := by decide +kernel
theorem dX11_digestRules_2 : decode cX11_digestRules 2 = .ok (.iconst 0, 1) := by decide +kernel
theorem dX11_digestRules_3 : decode cX11_digestRules 3 = .ok (.istore 5, 2) := by decide +kernel
theorem dX11_digestRules_5 : decode cX11_digestRules 5 = .ok (.iload 5, 2) := by decide +kernel
theorem dX11_digestRules_7 : decode cX11_digestRules 7 = .ok (.aload_n 0, 1) := by decide +kernel
theorem dX11_digestRules_8 : decode cX11_digestRules 8 = .ok (.getfield 130, 3) := by decide +kernel
theorem dX11_digestRules_11 : decode cX11_digestRules 11 = .ok (.if_icmp .ge 75, 3) := by decide +kernel
theorem dX11_digestRules_14 : decode cX11_digestRules 14 = .ok (.iload 5, 2) := by decide +kernel
theorem dX11_digestRules_16 : decode cX11_digestRules 16 = .ok (.aload_n 0, 1) := by decide +kernel
theorem dX11_digestRules_17 : decode cX11_digestRules 17 = .ok (.getfield 26, 3) := by decide +kernel
theorem dX11_digestRules_20 : decode cX11_digestRules 20 = .ok (.arraylength, 1) := by decide +kernel
theorem dX11_digestRules_21 : decode cX11_digestRules 21 = .ok (.if_icmp .ge 65, 3) := by decide +kernel
theorem dX11_digestRules_24 : decode cX11_digestRules 24 = .ok (.aload_n 0, 1) := by decide +kernel
theorem dX11_digestRules_25 : decode cX11_digestRules 25 = .ok (.getfield 26, 3) := by decide +kernel
theorem dX11_digestRules_28 : decode cX11_digestRules 28 = .ok (.iload 5, 2) := by decide +kernel
theorem dX11_digestRules_30 : decode cX11_digestRules 30 = .ok (.aaload, 1) := by decide +kernel
theorem dX11_digestRules_31 : decode cX11_digestRules 31 = .ok (.ifnonnull 14, 3) := by decide +kernel
theorem dX11_digestRules_34 : decode cX11_digestRules 34 = .ok (.ldc2_w 293, 3) := by decide +kernel
theorem dX11_digestRules_37 : decode cX11_digestRules 37 = .ok (.lload_n 3, 1) := by decide +kernel
theorem dX11_digestRules_38 : decode cX11_digestRules 38 = .ok (.lmul, 1) := by decide +kernel
theorem dX11_digestRules_39 : decode cX11_digestRules 39 = .ok (.lconst 1, 1) := by decide +kernel
theorem dX11_digestRules_40 : decode cX11_digestRules 40 = .ok (.lsub, 1) := by decide +kernel
theorem dX11_digestRules_41 : decode cX11_digestRules 41 = .ok (.lstore_n 3, 1) := by decide +kernel
theorem dX11_digestRules_42 : decode cX11_digestRules 42 = .ok (.goto 38, 3) := by decide +kernel
theorem dX11_digestRules_45 : decode cX11_digestRules 45 = .ok (.iconst 0, 1) := by decide +kernel
theorem dX11_digestRules_46 : decode cX11_digestRules 46 = .ok (.istore 6, 2) := by decide +kernel
theorem dX11_digestRules_48 : decode cX11_digestRules 48 = .ok (.iload 6, 2) := by decide +kernel
theorem dX11_digestRules_50 : decode cX11_digestRules 50 = .ok (.iconst 4, 1) := by decide +kernel
theorem dX11_digestRules_51 : decode cX11_digestRules 51 = .ok (.if_icmp .gt 29, 3) := by decide +kernel
theorem dX11_digestRules_54 : decode cX11_digestRules 54 = .ok (.ldc2_w 293, 3) := by decide +kernel
theorem dX11_digestRules_57 : decode cX11_digestRules 57 = .ok (.lload_n 3, 1) := by decide +kernel
theorem dX11_digestRules_58 : decode cX11_digestRules 58 = .ok (.lmul, 1) := by decide +kernel
theorem dX11_digestRules_59 : decode cX11_digestRules 59 = .ok (.aload_n 0, 1) := by decide +kernel
theorem dX11_digestRules_60 : decode cX11_digestRules 60 = .ok (.getfield 26, 3) := by decide +kernel
theorem dX11_digestRules_63 : decode cX11_digestRules 63 = .ok (.iload 5, 2) := by decide +kernel
theorem dX11_digestRules_65 : decode cX11_digestRules 65 = .ok (.aaload, 1) := by decide +kernel
theorem dX11_digestRules_66 : decode cX11_digestRules 66 = .ok (.iload 6, 2) := by decide +kernel
theorem dX11_digestRules_68 : decode cX11_digestRules 68 = .ok (.invokestatic 162, 3) := by decide +kernel
theorem dX11_digestRules_71 : decode cX11_digestRules 71 = .ok (.i2l, 1) := by decide +kernel
theorem dX11_digestRules_72 : decode cX11_digestRules 72 = .ok (.ladd, 1) := by decide +kernel
theorem dX11_digestRules_73 : decode cX11_digestRules 73 = .ok (.lstore_n 3, 1) := by decide +kernel
theorem dX11_digestRules_74 : decode cX11_digestRules 74 = .ok (.iinc 6 1, 3) := by decide +kernel
theorem dX11_digestRules_77 : decode cX11_digestRules 77 = .ok (.goto (-29), 3) := by decide +kernel
theorem dX11_digestRules_80 : decode cX11_digestRules 80 = .ok (.iinc 5 1, 3) := by decide +kernel
theorem dX11_digestRules_83 : decode cX11_digestRules 83 = .ok (.goto (-78), 3) := by decide +kernel
theorem dX11_digestRules_86 : decode cX11_digestRules 86 = .ok (.lload_n 3, 1) := by decide +kernel
theorem dX11_digestRules_87 : decode cX11_digestRules 87 = .ok (.lreturn, 1) := by decide +kernel
theorem dX11_digestSheets_0 : decode cX11_digestSheets 0 = .ok (.lload_n 1, 1) := by decide +kernel
theorem dX11_digestSheets_1 : decode cX11_digestSheets 1 = .ok (.lstore_n 3, 1) := by decide +kernel
theorem dX11_digestSheets_2 : decode cX11_digestSheets 2 = .ok (.iconst 0, 1) := by decide +kernel
theorem dX11_digestSheets_3 : decode cX11_digestSheets 3 = .ok (.istore 5, 2) := by decide +kernel
theorem dX11_digestSheets_5 : decode cX11_digestSheets 5 = .ok (.iload 5, 2) := by decide +kernel
theorem dX11_digestSheets_7 : decode cX11_digestSheets 7 = .ok (.iconst 4, 1) := by decide +kernel
theorem dX11_digestSheets_8 : decode cX11_digestSheets 8 = .ok (.if_icmp .ge 70, 3) := by decide +kernel
theorem dX11_digestSheets_11 : decode cX11_digestSheets 11 = .ok (.ldc2_w 293, 3) := by decide +kernel
theorem dX11_digestSheets_14 : decode cX11_digestSheets 14 = .ok (.lload_n 3, 1) := by decide +kernel
theorem dX11_digestSheets_15 : decode cX11_digestSheets 15 = .ok (.lmul, 1) := by decide +kernel
theorem dX11_digestSheets_16 : decode cX11_digestSheets 16 = .ok (.aload_n 0, 1) := by decide +kernel
theorem dX11_digestSheets_17 : decode cX11_digestSheets 17 = .ok (.getfield 20, 3) := by decide +kernel
theorem dX11_digestSheets_20 : decode cX11_digestSheets 20 = .ok (.iload 5, 2) := by decide +kernel
theorem dX11_digestSheets_22 : decode cX11_digestSheets 22 = .ok (.iaload, 1) := by decide +kernel
theorem dX11_digestSheets_23 : decode cX11_digestSheets 23 = .ok (.i2l, 1) := by decide +kernel
theorem dX11_digestSheets_24 : decode cX11_digestSheets 24 = .ok (.ladd, 1) := by decide +kernel
theorem dX11_digestSheets_25 : decode cX11_digestSheets 25 = .ok (.lstore_n 3, 1) := by decide +kernel
theorem dX11_digestSheets_26 : decode cX11_digestSheets 26 = .ok (.iconst 0, 1) := by decide +kernel
theorem dX11_digestSheets_27 : decode cX11_digestSheets 27 = .ok (.istore 6, 2) := by decide +kernel
theorem dX11_digestSheets_29 : decode cX11_digestSheets 29 = .ok (.iload 6, 2) := by decide +kernel
theorem dX11_digestSheets_31 : decode cX11_digestSheets 31 = .ok (.aload_n 0, 1) := by decide +kernel
theorem dX11_digestSheets_32 : decode cX11_digestSheets 32 = .ok (.getfield 20, 3) := by decide +kernel
theorem dX11_digestSheets_35 : decode cX11_digestSheets 35 = .ok (.iload 5, 2) := by decide +kernel
theorem dX11_digestSheets_37 : decode cX11_digestSheets 37 = .ok (.iaload, 1) := by decide +kernel
theorem dX11_digestSheets_38 : decode cX11_digestSheets 38 = .ok (.if_icmp .ge 34, 3) := by decide +kernel
theorem dX11_digestSheets_41 : decode cX11_digestSheets 41 = .ok (.iload 6, 2) := by decide +kernel
theorem dX11_digestSheets_43 : decode cX11_digestSheets 43 = .ok (.bipush 25, 2) := by decide +kernel
theorem dX11_digestSheets_45 : decode cX11_digestSheets 45 = .ok (.if_icmp .ge 27, 3) := by decide +kernel
theorem dX11_digestSheets_48 : decode cX11_digestSheets 48 = .ok (.ldc2_w 293, 3) := by decide +kernel
theorem dX11_digestSheets_51 : decode cX11_digestSheets 51 = .ok (.lload_n 3, 1) := by decide +kernel
theorem dX11_digestSheets_52 : decode cX11_digestSheets 52 = .ok (.lmul, 1) := by decide +kernel
theorem dX11_digestSheets_53 : decode cX11_digestSheets 53 = .ok (.aload_n 0, 1) := by decide +kernel
theorem dX11_digestSheets_54 : decode cX11_digestSheets 54 = .ok (.getfield 17, 3) := by decide +kernel
theorem dX11_digestSheets_57 : decode cX11_digestSheets 57 = .ok (.iload 5, 2) := by decide +kernel
theorem dX11_digestSheets_59 : decode cX11_digestSheets 59 = .ok (.aaload, 1) := by decide +kernel
theorem dX11_digestSheets_60 : decode cX11_digestSheets 60 = .ok (.iload 6, 2) := by decide +kernel
theorem dX11_digestSheets_62 : decode cX11_digestSheets 62 = .ok (.baload, 1) := by decide +kernel
theorem dX11_digestSheets_63 : decode cX11_digestSheets 63 = .ok (.i2l, 1) := by decide +kernel
theorem dX11_digestSheets_64 : decode cX11_digestSheets 64 = .ok (.ladd, 1) := by decide +kernel
theorem dX11_digestSheets_65 : decode cX11_digestSheets 65 = .ok (.lstore_n 3, 1) := by decide +kernel
theorem dX11_digestSheets_66 : decode cX11_digestSheets 66 = .ok (.iinc 6 1, 3) := by decide +kernel
theorem dX11_digestSheets_69 : decode cX11_digestSheets 69 = .ok (.goto (-40), 3) := by decide +kernel
theorem dX11_digestSheets_72 : decode cX11_digestSheets 72 = .ok (.iinc 5 1, 3) := by decide +kernel
theorem dX11_digestSheets_75 : decode cX11_digestSheets 75 = .ok (.goto (-70), 3) := by decide +kernel
theorem dX11_digestSheets_78 : decode cX11_digestSheets 78 = .ok (.lload_n 3, 1) := by decide +kernel
theorem dX11_digestSheets_79 : decode cX11_digestSheets 79 = .ok (.lreturn, 1) := by decide +kernel
end
section
theorem dX12_init_0 : decode cX12_init 0 = .ok (.aload_n 0, 1) := by decide +kernel
theorem dX12_init_1 : decode cX12_init 1 = .ok (.invokespecial 1, 3) := by decide +kernel
theorem dX12_init_4 : decode cX12_init 4 = .ok (.aload_n 0, 1) := by decide +kernel
theorem dX12_init_5 : decode cX12_init 5 = .ok (.bipush 6, 2) := by decide +kernel
theorem dX12_init_7 : decode cX12_init 7 = .ok (.newarray .int, 2) := by decide +kernel
theorem dX12_init_9 : decode cX12_init 9 = .ok (.putfield 7, 3) := by decide +kernel
theorem dX12_init_12 : decode cX12_init 12 = .ok (.aload_n 0, 1) := by decide +kernel
theorem dX12_init_13 : decode cX12_init 13 = .ok (.iconst 4, 1) := by decide +kernel
theorem dX12_init_14 : decode cX12_init 14 = .ok (.newarray .boolean, 2) := by decide +kernel
theorem dX12_init_16 : decode cX12_init 16 = .ok (.putfield 13, 3) := by decide +kernel
theorem dX12_init_19 : decode cX12_init 19 = .ok (.aload_n 0, 1) := by decide +kernel
theorem dX12_init_20 : decode cX12_init 20 = .ok (.bipush 28, 2) := by decide +kernel
theorem dX12_init_22 : decode cX12_init 22 = .ok (.newarray .int, 2) := by decide +kernel
theorem dX12_init_24 : decode cX12_init 24 = .ok (.putfield 17, 3) := by decide +kernel
theorem dX12_init_27 : decode cX12_init 27 = .ok (.aload_n 0, 1) := by decide +kernel
theorem dX12_init_28 : decode cX12_init 28 = .ok (.bipush 7, 2) := by decide +kernel
theorem dX12_init_30 : decode cX12_init 30 = .ok (.newarray .int, 2) := by decide +kernel
theorem dX12_init_32 : decode cX12_init 32 = .ok (.putfield 20, 3) := by decide +kernel
theorem dX12_init_35 : decode cX12_init 35 = .ok (.aload_n 0, 1) := by decide +kernel
theorem dX12_init_36 : decode cX12_init 36 = .ok (.iconst 4, 1) := by decide +kernel
theorem dX12_init_37 : decode cX12_init 37 = .ok (.newarray .int, 2) := by decide +kernel
theorem dX12_init_39 : decode cX12_init 39 = .ok (.putfield 23, 3) := by decide +kernel
theorem dX12_init_42 : decode cX12_init 42 = .ok (.aload_n 0, 1) := by decide +kernel
theorem dX12_init_43 : decode cX12_init 43 = .ok (.bipush 100, 2) := by decide +kernel
theorem dX12_init_45 : decode cX12_init 45 = .ok (.newarray .byte, 2) := by decide +kernel
theorem dX12_init_47 : decode cX12_init 47 = .ok (.putfield 26, 3) := by decide +kernel
theorem dX12_init_50 : decode cX12_init 50 = .ok (.aload_n 0, 1) := by decide +kernel
theorem dX12_init_51 : decode cX12_init 51 = .ok (.bipush 12, 2) := by decide +kernel
theorem dX12_init_53 : decode cX12_init 53 = .ok (.newarray .int, 2) := by decide +kernel
theorem dX12_init_55 : decode cX12_init 55 = .ok (.putfield 30, 3) := by decide +kernel
theorem dX12_init_58 : decode cX12_init 58 = .ok (.aload_n 0, 1) := by decide +kernel
theorem dX12_init_59 : decode cX12_init 59 = .ok (.bipush 12, 2) := by decide +kernel
theorem dX12_init_61 : decode cX12_init 61 = .ok (.newarray .int, 2) := by decide +kernel
theorem dX12_init_63 : decode cX12_init 63 = .ok (.putfield 33, 3) := by decide +kernel
theorem dX12_init_66 : decode cX12_init 66 = .ok (.aload_n 0, 1) := by decide +kernel
theorem dX12_init_67 : decode cX12_init 67 = .ok (.bipush 12, 2) := by decide +kernel
theorem dX12_init_69 : decode cX12_init 69 = .ok (.newarray .int, 2) := by decide +kernel
theorem dX12_init_71 : decode cX12_init 71 = .ok (.putfield 36, 3) := by decide +kernel
theorem dX12_init_74 : decode cX12_init 74 = .ok (.aload_n 0, 1) := by decide +kernel
theorem dX12_init_75 : decode cX12_init 75 = .ok (.bipush 12, 2) := by decide +kernel
theorem dX12_init_77 : decode cX12_init 77 = .ok (.newarray .int, 2) := by decide +kernel
theorem dX12_init_79 : decode cX12_init 79 = .ok (.putfield 39, 3) := by decide +kernel
theorem dX12_init_82 : decode cX12_init 82 = .ok (.aload_n 0, 1) := by decide +kernel
theorem dX12_init_83 : decode cX12_init 83 = .ok (.bipush 12, 2) := by decide +kernel
theorem dX12_init_85 : decode cX12_init 85 = .ok (.newarray .int, 2) := by decide +kernel
theorem dX12_init_87 : decode cX12_init 87 = .ok (.putfield 42, 3) := by decide +kernel
theorem dX12_init_90 : decode cX12_init 90 = .ok (.aload_n 0, 1) := by decide +kernel
theorem dX12_init_91 : decode cX12_init 91 = .ok (.sipush 300, 3) := by decide +kernel
theorem dX12_init_94 : decode cX12_init 94 = .ok (.newarray .byte, 2) := by decide +kernel
theorem dX12_init_96 : decode cX12_init 96 = .ok (.putfield 45, 3) := by decide +kernel
theorem dX12_init_99 : decode cX12_init 99 = .ok (.aload_n 0, 1) := by decide +kernel
theorem dX12_init_100 : decode cX12_init 100 = .ok (.bipush 12, 2) := by decide +kernel
theorem dX12_init_102 : decode cX12_init 102 = .ok (.newarray .boolean, 2) := by decide +kernel
theorem dX12_init_104 : decode cX12_init 104 = .ok (.putfield 48, 3) := by decide +kernel
theorem dX12_init_107 : decode cX12_init 107 = .ok (.aload_n 0, 1) := by decide +kernel
theorem dX12_init_108 : decode cX12_init 108 = .ok (.sipush 17000, 3) := by decide +kernel
theorem dX12_init_111 : decode cX12_init 111 = .ok (.newarray .int, 2) := by decide +kernel
theorem dX12_init_113 : decode cX12_init 113 = .ok (.putfield 51, 3) := by decide +kernel
theorem dX12_init_116 : decode cX12_init 116 = .ok (.aload_n 0, 1) := by decide +kernel
theorem dX12_init_117 : decode cX12_init 117 = .ok (.sipush 17000, 3) := by decide +kernel
theorem dX12_init_120 : decode cX12_init 120 = .ok (.newarray .long, 2) := by decide +kernel
theorem dX12_init_122 : decode cX12_init 122 = .ok (.putfield 54, 3) := by decide +kernel
theorem dX12_init_125 : decode cX12_init 125 = .ok (.aload_n 0, 1) := by decide +kernel
theorem dX12_init_126 : decode cX12_init 126 = .ok (.sipush 17000, 3) := by decide +kernel
theorem dX12_init_129 : decode cX12_init 129 = .ok (.newarray .int, 2) := by decide +kernel
theorem dX12_init_131 : decode cX12_init 131 = .ok (.putfield 58, 3) := by decide +kernel
theorem dX12_init_134 : decode cX12_init 134 = .ok (.aload_n 0, 1) := by decide +kernel
theorem dX12_init_135 : decode cX12_init 135 = .ok (.sipush 17000, 3) := by decide +kernel
theorem dX12_init_138 : decode cX12_init 138 = .ok (.newarray .long, 2) := by decide +kernel
theorem dX12_init_140 : decode cX12_init 140 = .ok (.putfield 61, 3) := by decide +kernel
theorem dX12_init_143 : decode cX12_init 143 = .ok (.aload_n 0, 1) := by decide +kernel
theorem dX12_init_144 : decode cX12_init 144 = .ok (.sipush 17000, 3) := by decide +kernel
theorem dX12_init_147 : decode cX12_init 147 = .ok (.newarray .int, 2) := by decide +kernel
theorem dX12_init_149 : decode cX12_init 149 = .ok (.putfield 64, 3) := by decide +kernel
theorem dX12_init_152 : decode cX12_init 152 = .ok (.aload_n 0, 1) := by decide +kernel
theorem dX12_init_153 : decode cX12_init 153 = .ok (.sipush 17000, 3) := by decide +kernel
theorem dX12_init_156 : decode cX12_init 156 = .ok (.newarray .int, 2) := by decide +kernel
theorem dX12_init_158 : decode cX12_init 158 = .ok (.putfield 67, 3) := by decide +kernel
theorem dX12_init_161 : decode cX12_init 161 = .ok (.aload_n 0, 1) := by decide +kernel
theorem dX12_init_162 : decode cX12_init 162 = .ok (.sipush 17000, 3) := by decide +kernel
theorem dX12_init_165 : decode cX12_init 165 = .ok (.newarray .long, 2) := by decide +kernel
theorem dX12_init_167 : decode cX12_init 167 = .ok (.putfield 70, 3) := by decide +kernel
theorem dX12_init_170 : decode cX12_init 170 = .ok (.aload_n 0, 1) := by decide +kernel
theorem dX12_init_171 : decode cX12_init 171 = .ok (.sipush 17000, 3) := by decide +kernel
theorem dX12_init_174 : decode cX12_init 174 = .ok (.newarray .long, 2) := by decide +kernel
theorem dX12_init_176 : decode cX12_init 176 = .ok (.putfield 73, 3) := by decide +kernel
theorem dX12_init_179 : decode cX12_init 179 = .ok (.aload_n 0, 1) := by decide +kernel
theorem dX12_init_180 : decode cX12_init 180 = .ok (.bipush 6, 2) := by decide +kernel
theorem dX12_init_182 : decode cX12_init 182 = .ok (.newarray .int, 2) := by decide +kernel
theorem dX12_init_184 : decode cX12_init 184 = .ok (.putfield 76, 3) := by decide +kernel
theorem dX12_init_187 : decode cX12_init 187 = .ok (.aload_n 0, 1) := by decide +kernel
theorem dX12_init_188 : decode cX12_init 188 = .ok (.lconst 1, 1) := by decide +kernel
theorem dX12_init_189 : decode cX12_init 189 = .ok (.putfield 79, 3) := by decide +kernel
theorem dX12_init_192 : decode cX12_init 192 = .ok (.aload_n 0, 1) := by decide +kernel
theorem dX12_init_193 : decode cX12_init 193 = .ok (.bipush 12, 2) := by decide +kernel
theorem dX12_init_195 : decode cX12_init 195 = .ok (.putfield 83, 3) := by decide +kernel
theorem dX12_init_198 : decode cX12_init 198 = .ok (.aload_n 0, 1) := by decide +kernel
theorem dX12_init_199 : decode cX12_init 199 = .ok (.bipush 10, 2) := by decide +kernel
theorem dX12_init_201 : decode cX12_init 201 = .ok (.putfield 87, 3) := by decide +kernel
theorem dX12_init_204 : decode cX12_init 204 = .ok (.aload_n 0, 1) := by decide +kernel
theorem dX12_init_205 : decode cX12_init 205 = .ok (.iconst 1, 1) := by decide +kernel
theorem dX12_init_206 : decode cX12_init 206 = .ok (.putfield 90, 3) := by decide +kernel
theorem dX12_init_209 : decode cX12_init 209 = .ok (.aload_n 0, 1) := by decide +kernel
theorem dX12_init_210 : decode cX12_init 210 = .ok (.iconst 1, 1) := by decide +kernel
theorem dX12_init_211 : decode cX12_init 211 = .ok (.putfield 93, 3) := by decide +kernel
theorem dX12_init_214 : decode cX12_init 214 = .ok (.aload_n 0, 1) := by decide +kernel
theorem dX12_init_215 : decode cX12_init 215 = .ok (.iconst 5, 1) := by decide +kernel
theorem dX12_init_216 : decode cX12_init 216 = .ok (.putfield 96, 3) := by decide +kernel
theorem dX12_init_219 : decode cX12_init 219 = .ok (.aload_n 0, 1) := by decide +kernel
theorem dX12_init_220 : decode cX12_init 220 = .ok (.bipush (-9), 2) := by decide +kernel
theorem dX12_init_222 : decode cX12_init 222 = .ok (.putfield 99, 3) := by decide +kernel
theorem dX12_init_225 : decode cX12_init 225 = .ok (.aload_n 0, 1) := by decide +kernel
theorem dX12_init_226 : decode cX12_init 226 = .ok (.bipush (-9), 2) := by decide +kernel
theorem dX12_init_228 : decode cX12_init 228 = .ok (.putfield 102, 3) := by decide +kernel
theorem dX12_init_231 : decode cX12_init 231 = .ok (.iconst 0, 1) := by decide +kernel
theorem dX12_init_232 : decode cX12_init 232 = .ok (.istore_n 1, 1) := by decide +kernel
theorem dX12_init_233 : decode cX12_init 233 = .ok (.iload_n 1, 1) := by decide +kernel
theorem dX12_init_234 : decode cX12_init 234 = .ok (.iconst 4, 1) := by decide +kernel
theorem dX12_init_235 : decode cX12_init 235 = .ok (.if_icmp .ge 16, 3) := by decide +kernel
theorem dX12_init_238 : decode cX12_init 238 = .ok (.aload_n 0, 1) := by decide +kernel
theorem dX12_init_239 : decode cX12_init 239 = .ok (.getfield 23, 3) := by decide +kernel
theorem dX12_init_242 : decode cX12_init 242 = .ok (.iload_n 1, 1) := by decide +kernel
theorem dX12_init_243 : decode cX12_init 243 = .ok (.iconst (-1), 1) := by decide +kernel
theorem dX12_init_244 : decode cX12_init 244 = .ok (.iastore, 1) := by decide +kernel
theorem dX12_init_245 : decode cX12_init 245 = .ok (.iinc 1 1, 3) := by decide +kernel
theorem dX12_init_248 : decode cX12_init 248 = .ok (.goto (-15), 3) := by decide +kernel
theorem dX12_init_251 : decode cX12_init 251 = .ok (.return_, 1) := by decide +kernel
theorem dX12_in_0 : decode cX12_in 0 = .ok (.iload_n 0, 1) := by decide +kernel
theorem dX12_in_1 : decode cX12_in 1 = .ok (.iload_n 1, 1) := by decide +kernel
theorem dX12_in_2 : decode cX12_in 2 = .ok (.if_icmp .lt 12, 3) := by decide +kernel
theorem dX12_in_5 : decode cX12_in 5 = .ok (.iload_n 0, 1) := by decide +kernel
theorem dX12_in_6 : decode cX12_in 6 = .ok (.iload_n 2, 1) := by decide +kernel
theorem dX12_in_7 : decode cX12_in 7 = .ok (.if_icmp .gt 7, 3) := by decide +kernel
theorem dX12_in_10 : decode cX12_in 10 = .ok (.iconst 1, 1) := by decide +kernel
theorem dX12_in_11 : decode cX12_in 11 = .ok (.goto 4, 3) := by decide +kernel
theorem dX12_in_14 : decode cX12_in 14 = .ok (.iconst 0, 1) := by decide +kernel
theorem dX12_in_15 : decode cX12_in 15 = .ok (.ireturn, 1) := by decide +kernel
theorem dX12_meets_0 : decode cX12_meets 0 = .ok (.aload_n 0, 1) := by decide +kernel
theorem dX12_meets_1 : decode cX12_meets 1 = .ok (.iload_n 1, 1) := by decide +kernel
theorem dX12_meets_2 : decode cX12_meets 2 = .ok (.putfield 105, 3) := by decide +kernel
theorem dX12_meets_5 : decode cX12_meets 5 = .ok (.aload_n 0, 1) := by decide +kernel
theorem dX12_meets_6 : decode cX12_meets 6 = .ok (.getfield 7, 3) := by decide +kernel
theorem dX12_meets_9 : decode cX12_meets 9 = .ok (.iload_n 1, 1) := by decide +kernel
theorem dX12_meets_10 : decode cX12_meets 10 = .ok (.dup2, 1) := by decide +kernel
theorem dX12_meets_11 : decode cX12_meets 11 = .ok (.iaload, 1) := by decide +kernel
theorem dX12_meets_12 : decode cX12_meets 12 = .ok (.iconst 1, 1) := by decide +kernel
theorem dX12_meets_13 : decode cX12_meets 13 = .ok (.iadd, 1) := by decide +kernel
theorem dX12_meets_14 : decode cX12_meets 14 = .ok (.iastore, 1) := by decide +kernel
theorem dX12_meets_15 : decode cX12_meets 15 = .ok (.bipush (-3), 2) := by decide +kernel
theorem dX12_meets_17 : decode cX12_meets 17 = .ok (.ireturn, 1) := by decide +kernel
theorem dX12_finding_0 : decode cX12_finding 0 = .ok (.aload_n 0, 1) := by decide +kernel
theorem dX12_finding_1 : decode cX12_finding 1 = .ok (.getfield 105, 3) := by decide +kernel
theorem dX12_finding_4 : decode cX12_finding 4 = .ok (.ireturn, 1) := by decide +kernel
theorem dX12_findings_0 : decode cX12_findings 0 = .ok (.iload_n 1, 1) := by decide +kernel
theorem dX12_findings_1 : decode cX12_findings 1 = .ok (.iconst 1, 1) := by decide +kernel
theorem dX12_findings_2 : decode cX12_findings 2 = .ok (.iconst 5, 1) := by decide +kernel
theorem dX12_findings_3 : decode cX12_findings 3 = .ok (.invokestatic 108, 3) := by decide +kernel
theorem dX12_findings_6 : decode cX12_findings 6 = .ok (.ifCond .eq 12, 3) := by decide +kernel
theorem dX12_findings_9 : decode cX12_findings 9 = .ok (.aload_n 0, 1) := by decide +kernel
theorem dX12_findings_10 : decode cX12_findings 10 = .ok (.getfield 7, 3) := by decide +kernel
theorem dX12_findings_13 : decode cX12_findings 13 = .ok (.iload_n 1, 1) := by decide +kernel
theorem dX12_findings_14 : decode cX12_findings 14 = .ok (.iaload, 1) := by decide +kernel
theorem dX12_findings_15 : decode cX12_findings 15 = .ok (.goto 4, 3) := by decide +kernel
theorem dX12_findings_18 : decode cX12_findings 18 = .ok (.iconst (-1), 1) := by decide +kernel
theorem dX12_findings_19 : decode cX12_findings 19 = .ok (.ireturn, 1) := by decide +kernel
theorem dX12_gcd_0 : decode cX12_gcd 0 = .ok (.lload_n 0, 1) := by decide +kernel
theorem dX12_gcd_1 : decode cX12_gcd 1 = .ok (.lstore 4, 2) := by decide +kernel
theorem dX12_gcd_3 : decode cX12_gcd 3 = .ok (.lload_n 2, 1) := by decide +kernel
theorem dX12_gcd_4 : decode cX12_gcd 4 = .ok (.lstore 6, 2) := by decide +kernel
theorem dX12_gcd_6 : decode cX12_gcd 6 = .ok (.lload 6, 2) := by decide +kernel
theorem dX12_gcd_8 : decode cX12_gcd 8 = .ok (.lconst 0, 1) := by decide +kernel
theorem dX12_gcd_9 : decode cX12_gcd 9 = .ok (.lcmp, 1) := by decide +kernel
theorem dX12_gcd_10 : decode cX12_gcd 10 = .ok (.ifCond .eq 21, 3) := by decide +kernel
theorem dX12_gcd_13 : decode cX12_gcd 13 = .ok (.lload 4, 2) := by decide +kernel
theorem dX12_gcd_15 : decode cX12_gcd 15 = .ok (.lload 6, 2) := by decide +kernel
theorem dX12_gcd_17 : decode cX12_gcd 17 = .ok (.lrem, 1) := by decide +kernel
theorem dX12_gcd_18 : decode cX12_gcd 18 = .ok (.lstore 8, 2) := by decide +kernel
theorem dX12_gcd_20 : decode cX12_gcd 20 = .ok (.lload 6, 2) := by decide +kernel
theorem dX12_gcd_22 : decode cX12_gcd 22 = .ok (.lstore 4, 2) := by decide +kernel
theorem dX12_gcd_24 : decode cX12_gcd 24 = .ok (.lload 8, 2) := by decide +kernel
theorem dX12_gcd_26 : decode cX12_gcd 26 = .ok (.lstore 6, 2) := by decide +kernel
theorem dX12_gcd_28 : decode cX12_gcd 28 = .ok (.goto (-22), 3) := by decide +kernel
theorem dX12_gcd_31 : decode cX12_gcd 31 = .ok (.lload 4, 2) := by decide +kernel
theorem dX12_gcd_33 : decode cX12_gcd 33 = .ok (.lreturn, 1) := by decide +kernel
theorem dX12_tells_0 : decode cX12_tells 0 = .ok (.lload_n 1, 1) := by decide +kernel
theorem dX12_tells_1 : decode cX12_tells 1 = .ok (.lload_n 3, 1) := by decide +kernel
theorem dX12_tells_2 : decode cX12_tells 2 = .ok (.invokestatic 112, 3) := by decide +kernel
theorem dX12_tells_5 : decode cX12_tells 5 = .ok (.lstore 6, 2) := by decide +kernel
theorem dX12_tells_7 : decode cX12_tells 7 = .ok (.aload_n 0, 1) := by decide +kernel
theorem dX12_tells_8 : decode cX12_tells 8 = .ok (.lload_n 1, 1) := by decide +kernel
theorem dX12_tells_9 : decode cX12_tells 9 = .ok (.lload 6, 2) := by decide +kernel
theorem dX12_tells_11 : decode cX12_tells 11 = .ok (.ldiv, 1) := by decide +kernel
theorem dX12_tells_12 : decode cX12_tells 12 = .ok (.putfield 116, 3) := by decide +kernel
theorem dX12_tells_15 : decode cX12_tells 15 = .ok (.aload_n 0, 1) := by decide +kernel
theorem dX12_tells_16 : decode cX12_tells 16 = .ok (.lload_n 3, 1) := by decide +kernel
theorem dX12_tells_17 : decode cX12_tells 17 = .ok (.lload 6, 2) := by decide +kernel
theorem dX12_tells_19 : decode cX12_tells 19 = .ok (.ldiv, 1) := by decide +kernel
theorem dX12_tells_20 : decode cX12_tells 20 = .ok (.putfield 79, 3) := by decide +kernel
theorem dX12_tells_23 : decode cX12_tells 23 = .ok (.iload 5, 2) := by decide +kernel
theorem dX12_tells_25 : decode cX12_tells 25 = .ok (.ireturn, 1) := by decide +kernel
theorem dX12_upper_0 : decode cX12_upper 0 = .ok (.aload_n 0, 1) := by decide +kernel
theorem dX12_upper_1 : decode cX12_upper 1 = .ok (.getfield 116, 3) := by decide +kernel
theorem dX12_upper_4 : decode cX12_upper 4 = .ok (.lreturn, 1) := by decide +kernel
theorem dX12_lower_0 : decode cX12_lower 0 = .ok (.aload_n 0, 1) := by decide +kernel
theorem dX12_lower_1 : decode cX12_lower 1 = .ok (.getfield 79, 3) := by decide +kernel
theorem dX12_lower_4 : decode cX12_lower 4 = .ok (.lreturn, 1) := by decide +kernel
theorem dX12_isPlace_0 : decode cX12_isPlace 0 = .ok (.iload_n 0, 1) := by decide +kernel
theorem dX12_isPlace_1 : decode cX12_isPlace 1 = .ok (.iconst 0, 1) := by decide +kernel
theorem dX12_isPlace_2 : decode cX12_isPlace 2 = .ok (.iconst 3, 1) := by decide +kernel
theorem dX12_isPlace_3 : decode cX12_isPlace 3 = .ok (.invokestatic 108, 3) := by decide +kernel
theorem dX12_isPlace_6 : decode cX12_isPlace 6 = .ok (.ireturn, 1) := by decide +kernel
theorem dX12_book_0 : decode cX12_book 0 = .ok (.iload_n 1, 1) := by decide +kernel
theorem dX12_book_1 : decode cX12_book 1 = .ok (.invokestatic 119, 3) := by decide +kernel
theorem dX12_book_4 : decode cX12_book 4 = .ok (.ifCond .ne 5, 3) := by decide +kernel
theorem dX12_book_7 : decode cX12_book 7 = .ok (.iconst (-1), 1) := by decide +kernel
theorem dX12_book_8 : decode cX12_book 8 = .ok (.ireturn, 1) := by decide +kernel
theorem dX12_book_9 : decode cX12_book 9 = .ok (.aload_n 0, 1) := by decide +kernel
theorem dX12_book_10 : decode cX12_book 10 = .ok (.getfield 13, 3) := by decide +kernel
theorem dX12_book_13 : decode cX12_book 13 = .ok (.iload_n 1, 1) := by decide +kernel
theorem dX12_book_14 : decode cX12_book 14 = .ok (.baload, 1) := by decide +kernel
theorem dX12_book_15 : decode cX12_book 15 = .ok (.ifCond .eq 7, 3) := by decide +kernel
theorem dX12_book_18 : decode cX12_book 18 = .ok (.iconst 1, 1) := by decide +kernel
theorem dX12_book_19 : decode cX12_book 19 = .ok (.goto 4, 3) := by decide +kernel
theorem dX12_book_22 : decode cX12_book 22 = .ok (.iconst 0, 1) := by decide +kernel
theorem dX12_book_23 : decode cX12_book 23 = .ok (.istore_n 2, 1) := by decide +kernel
theorem dX12_book_24 : decode cX12_book 24 = .ok (.aload_n 0, 1) := by decide +kernel
theorem dX12_book_25 : decode cX12_book 25 = .ok (.getfield 13, 3) := by decide +kernel
theorem dX12_book_28 : decode cX12_book 28 = .ok (.iload_n 1, 1) := by decide +kernel
theorem dX12_book_29 : decode cX12_book 29 = .ok (.iconst 1, 1) := by decide +kernel
theorem dX12_book_30 : decode cX12_book 30 = .ok (.bastore, 1) := by decide +kernel
theorem dX12_book_31 : decode cX12_book 31 = .ok (.iconst 0, 1) := by decide +kernel
theorem dX12_book_32 : decode cX12_book 32 = .ok (.istore_n 3, 1) := by decide +kernel
theorem dX12_book_33 : decode cX12_book 33 = .ok (.iload_n 3, 1) := by decide +kernel
theorem dX12_book_34 : decode cX12_book 34 = .ok (.bipush 7, 2) := by decide +kernel
theorem dX12_book_36 : decode cX12_book 36 = .ok (.if_icmp .ge 21, 3) := by decide +kernel
theorem dX12_book_39 : decode cX12_book 39 = .ok (.aload_n 0, 1) := by decide +kernel
theorem dX12_book_40 : decode cX12_book 40 = .ok (.getfield 17, 3) := by decide +kernel
theorem dX12_book_43 : decode cX12_book 43 = .ok (.bipush 7, 2) := by decide +kernel
theorem dX12_book_45 : decode cX12_book 45 = .ok (.iload_n 1, 1) := by decide +kernel
theorem dX12_book_46 : decode cX12_book 46 = .ok (.imul, 1) := by decide +kernel
theorem dX12_book_47 : decode cX12_book 47 = .ok (.iload_n 3, 1) := by decide +kernel
theorem dX12_book_48 : decode cX12_book 48 = .ok (.iadd, 1) := by decide +kernel
theorem dX12_book_49 : decode cX12_book 49 = .ok (.iconst 0, 1) := by decide +kernel
theorem dX12_book_50 : decode cX12_book 50 = .ok (.iastore, 1) := by decide +kernel
theorem dX12_book_51 : decode cX12_book 51 = .ok (.iinc 3 1, 3) := by decide +kernel
theorem dX12_book_54 : decode cX12_book 54 = .ok (.goto (-21), 3) := by decide +kernel
theorem dX12_book_57 : decode cX12_book 57 = .ok (.iload_n 2, 1) := by decide +kernel
theorem dX12_book_58 : decode cX12_book 58 = .ok (.ireturn, 1) := by decide +kernel
theorem dX12_weigh_0 : decode cX12_weigh 0 = .ok (.iload_n 1, 1) := by decide +kernel
theorem dX12_weigh_1 : decode cX12_weigh 1 = .ok (.invokestatic 119, 3) := by decide +kernel
theorem dX12_weigh_4 : decode cX12_weigh 4 = .ok (.ifCond .eq 13, 3) := by decide +kernel
theorem dX12_weigh_7 : decode cX12_weigh 7 = .ok (.iload_n 3, 1) := by decide +kernel
theorem dX12_weigh_8 : decode cX12_weigh 8 = .ok (.iconst 0, 1) := by decide +kernel
theorem dX12_weigh_9 : decode cX12_weigh 9 = .ok (.bipush 9, 2) := by decide +kernel
theorem dX12_weigh_11 : decode cX12_weigh 11 = .ok (.invokestatic 108, 3) := by decide +kernel
theorem dX12_weigh_14 : decode cX12_weigh 14 = .ok (.ifCond .ne 5, 3) := by decide +kernel
theorem dX12_weigh_17 : decode cX12_weigh 17 = .ok (.iconst (-1), 1) := by decide +kernel
theorem dX12_weigh_18 : decode cX12_weigh 18 = .ok (.ireturn, 1) := by decide +kernel
theorem dX12_weigh_19 : decode cX12_weigh 19 = .ok (.aload_n 0, 1) := by decide +kernel
theorem dX12_weigh_20 : decode cX12_weigh 20 = .ok (.getfield 13, 3) := by decide +kernel
theorem dX12_weigh_23 : decode cX12_weigh 23 = .ok (.iload_n 1, 1) := by decide +kernel
theorem dX12_weigh_24 : decode cX12_weigh 24 = .ok (.baload, 1) := by decide +kernel
theorem dX12_weigh_25 : decode cX12_weigh 25 = .ok (.ifCond .ne 9, 3) := by decide +kernel
theorem dX12_weigh_28 : decode cX12_weigh 28 = .ok (.aload_n 0, 1) := by decide +kernel
theorem dX12_weigh_29 : decode cX12_weigh 29 = .ok (.iconst 1, 1) := by decide +kernel
theorem dX12_weigh_30 : decode cX12_weigh 30 = .ok (.invokevirtual 123, 3) := by decide +kernel
theorem dX12_weigh_33 : decode cX12_weigh 33 = .ok (.ireturn, 1) := by decide +kernel
theorem dX12_weigh_34 : decode cX12_weigh 34 = .ok (.iload_n 2, 1) := by decide +kernel
theorem dX12_weigh_35 : decode cX12_weigh 35 = .ok (.iconst 0, 1) := by decide +kernel
theorem dX12_weigh_36 : decode cX12_weigh 36 = .ok (.bipush 6, 2) := by decide +kernel
theorem dX12_weigh_38 : decode cX12_weigh 38 = .ok (.invokestatic 108, 3) := by decide +kernel
theorem dX12_weigh_41 : decode cX12_weigh 41 = .ok (.ifCond .ne 9, 3) := by decide +kernel
theorem dX12_weigh_44 : decode cX12_weigh 44 = .ok (.aload_n 0, 1) := by decide +kernel
theorem dX12_weigh_45 : decode cX12_weigh 45 = .ok (.iconst 2, 1) := by decide +kernel
theorem dX12_weigh_46 : decode cX12_weigh 46 = .ok (.invokevirtual 123, 3) := by decide +kernel
theorem dX12_weigh_49 : decode cX12_weigh 49 = .ok (.ireturn, 1) := by decide +kernel
theorem dX12_weigh_50 : decode cX12_weigh 50 = .ok (.aload_n 0, 1) := by decide +kernel
theorem dX12_weigh_51 : decode cX12_weigh 51 = .ok (.getfield 17, 3) := by decide +kernel
theorem dX12_weigh_54 : decode cX12_weigh 54 = .ok (.bipush 7, 2) := by decide +kernel
theorem dX12_weigh_56 : decode cX12_weigh 56 = .ok (.iload_n 1, 1) := by decide +kernel
theorem dX12_weigh_57 : decode cX12_weigh 57 = .ok (.imul, 1) := by decide +kernel
theorem dX12_weigh_58 : decode cX12_weigh 58 = .ok (.iload_n 2, 1) := by decide +kernel
theorem dX12_weigh_59 : decode cX12_weigh 59 = .ok (.iadd, 1) := by decide +kernel
theorem dX12_weigh_60 : decode cX12_weigh 60 = .ok (.iaload, 1) := by decide +kernel
theorem dX12_weigh_61 : decode cX12_weigh 61 = .ok (.istore 4, 2) := by decide +kernel
theorem dX12_weigh_63 : decode cX12_weigh 63 = .ok (.aload_n 0, 1) := by decide +kernel
theorem dX12_weigh_64 : decode cX12_weigh 64 = .ok (.getfield 17, 3) := by decide +kernel
theorem dX12_weigh_67 : decode cX12_weigh 67 = .ok (.bipush 7, 2) := by decide +kernel
theorem dX12_weigh_69 : decode cX12_weigh 69 = .ok (.iload_n 1, 1) := by decide +kernel
theorem dX12_weigh_70 : decode cX12_weigh 70 = .ok (.imul, 1) := by decide +kernel
theorem dX12_weigh_71 : decode cX12_weigh 71 = .ok (.iload_n 2, 1) := by decide +kernel
theorem dX12_weigh_72 : decode cX12_weigh 72 = .ok (.iadd, 1) := by decide +kernel
theorem dX12_weigh_73 : decode cX12_weigh 73 = .ok (.iload_n 3, 1) := by decide +kernel
theorem dX12_weigh_74 : decode cX12_weigh 74 = .ok (.iastore, 1) := by decide +kernel
theorem dX12_weigh_75 : decode cX12_weigh 75 = .ok (.iload 4, 2) := by decide +kernel
theorem dX12_weigh_77 : decode cX12_weigh 77 = .ok (.ireturn, 1) := by decide +kernel
theorem dX12_close_0 : decode cX12_close 0 = .ok (.iload_n 1, 1) := by decide +kernel
theorem dX12_close_1 : decode cX12_close 1 = .ok (.invokestatic 119, 3) := by decide +kernel
theorem dX12_close_4 : decode cX12_close 4 = .ok (.ifCond .ne 5, 3) := by decide +kernel
theorem dX12_close_7 : decode cX12_close 7 = .ok (.iconst (-1), 1) := by decide +kernel
theorem dX12_close_8 : decode cX12_close 8 = .ok (.ireturn, 1) := by decide +kernel
theorem dX12_close_9 : decode cX12_close 9 = .ok (.aload_n 0, 1) := by decide +kernel
theorem dX12_close_10 : decode cX12_close 10 = .ok (.getfield 13, 3) := by decide +kernel
theorem dX12_close_13 : decode cX12_close 13 = .ok (.iload_n 1, 1) := by decide +kernel
theorem dX12_close_14 : decode cX12_close 14 = .ok (.baload, 1) := by decide +kernel
theorem dX12_close_15 : decode cX12_close 15 = .ok (.ifCond .ne 9, 3) := by decide +kernel
theorem dX12_close_18 : decode cX12_close 18 = .ok (.aload_n 0, 1) := by decide +kernel
theorem dX12_close_19 : decode cX12_close 19 = .ok (.iconst 1, 1) := by decide +kernel
theorem dX12_close_20 : decode cX12_close 20 = .ok (.invokevirtual 123, 3) := by decide +kernel
theorem dX12_close_23 : decode cX12_close 23 = .ok (.ireturn, 1) := by decide +kernel
theorem dX12_close_24 : decode cX12_close 24 = .ok (.aload_n 0, 1) := by decide +kernel
theorem dX12_close_25 : decode cX12_close 25 = .ok (.getfield 13, 3) := by decide +kernel
theorem dX12_close_28 : decode cX12_close 28 = .ok (.iload_n 1, 1) := by decide +kernel
theorem dX12_close_29 : decode cX12_close 29 = .ok (.iconst 0, 1) := by decide +kernel
theorem dX12_close_30 : decode cX12_close 30 = .ok (.bastore, 1) := by decide +kernel
theorem dX12_close_31 : decode cX12_close 31 = .ok (.iconst 1, 1) := by decide +kernel
theorem dX12_close_32 : decode cX12_close 32 = .ok (.ireturn, 1) := by decide +kernel
theorem dX12_copy_0 : decode cX12_copy 0 = .ok (.iload_n 1, 1) := by decide +kernel
theorem dX12_copy_1 : decode cX12_copy 1 = .ok (.invokestatic 119, 3) := by decide +kernel
theorem dX12_copy_4 : decode cX12_copy 4 = .ok (.ifCond .eq 10, 3) := by decide +kernel
theorem dX12_copy_7 : decode cX12_copy 7 = .ok (.iload_n 3, 1) := by decide +kernel
theorem dX12_copy_8 : decode cX12_copy 8 = .ok (.invokestatic 119, 3) := by decide +kernel
theorem dX12_copy_11 : decode cX12_copy 11 = .ok (.ifCond .ne 5, 3) := by decide +kernel
theorem dX12_copy_14 : decode cX12_copy 14 = .ok (.iconst (-1), 1) := by decide +kernel
theorem dX12_copy_15 : decode cX12_copy 15 = .ok (.ireturn, 1) := by decide +kernel
theorem dX12_copy_16 : decode cX12_copy 16 = .ok (.aload_n 0, 1) := by decide +kernel
theorem dX12_copy_17 : decode cX12_copy 17 = .ok (.getfield 13, 3) := by decide +kernel
theorem dX12_copy_20 : decode cX12_copy 20 = .ok (.iload_n 1, 1) := by decide +kernel
theorem dX12_copy_21 : decode cX12_copy 21 = .ok (.baload, 1) := by decide +kernel
theorem dX12_copy_22 : decode cX12_copy 22 = .ok (.ifCond .eq 12, 3) := by decide +kernel
theorem dX12_copy_25 : decode cX12_copy 25 = .ok (.aload_n 0, 1) := by decide +kernel
theorem dX12_copy_26 : decode cX12_copy 26 = .ok (.getfield 13, 3) := by decide +kernel
theorem dX12_copy_29 : decode cX12_copy 29 = .ok (.iload_n 3, 1) := by decide +kernel
theorem dX12_copy_30 : decode cX12_copy 30 = .ok (.baload, 1) := by decide +kernel
theorem dX12_copy_31 : decode cX12_copy 31 = .ok (.ifCond .ne 9, 3) := by decide +kernel
theorem dX12_copy_34 : decode cX12_copy 34 = .ok (.aload_n 0, 1) := by decide +kernel
theorem dX12_copy_35 : decode cX12_copy 35 = .ok (.iconst 1, 1) := by decide +kernel
theorem dX12_copy_36 : decode cX12_copy 36 = .ok (.invokevirtual 123, 3) := by decide +kernel
theorem dX12_copy_39 : decode cX12_copy 39 = .ok (.ireturn, 1) := by decide +kernel
theorem dX12_copy_40 : decode cX12_copy 40 = .ok (.iload_n 2, 1) := by decide +kernel
theorem dX12_copy_41 : decode cX12_copy 41 = .ok (.ifCond .lt 40, 3) := by decide +kernel
theorem dX12_copy_44 : decode cX12_copy 44 = .ok (.iload 4, 2) := by decide +kernel
theorem dX12_copy_46 : decode cX12_copy 46 = .ok (.ifCond .lt 35, 3) := by decide +kernel
theorem dX12_copy_49 : decode cX12_copy 49 = .ok (.iload 5, 2) := by decide +kernel
theorem dX12_copy_51 : decode cX12_copy 51 = .ok (.ifCond .lt 30, 3) := by decide +kernel
theorem dX12_copy_54 : decode cX12_copy 54 = .ok (.iload_n 2, 1) := by decide +kernel
theorem dX12_copy_55 : decode cX12_copy 55 = .ok (.i2l, 1) := by decide +kernel
theorem dX12_copy_56 : decode cX12_copy 56 = .ok (.iload 5, 2) := by decide +kernel
theorem dX12_copy_58 : decode cX12_copy 58 = .ok (.i2l, 1) := by decide +kernel
theorem dX12_copy_59 : decode cX12_copy 59 = .ok (.ladd, 1) := by decide +kernel
theorem dX12_copy_60 : decode cX12_copy 60 = .ok (.ldc2_w 127, 3) := by decide +kernel
theorem dX12_copy_63 : decode cX12_copy 63 = .ok (.lcmp, 1) := by decide +kernel
theorem dX12_copy_64 : decode cX12_copy 64 = .ok (.ifCond .gt 17, 3) := by decide +kernel
theorem dX12_copy_67 : decode cX12_copy 67 = .ok (.iload 4, 2) := by decide +kernel
theorem dX12_copy_69 : decode cX12_copy 69 = .ok (.i2l, 1) := by decide +kernel
theorem dX12_copy_70 : decode cX12_copy 70 = .ok (.iload 5, 2) := by decide +kernel
theorem dX12_copy_72 : decode cX12_copy 72 = .ok (.i2l, 1) := by decide +kernel
theorem dX12_copy_73 : decode cX12_copy 73 = .ok (.ladd, 1) := by decide +kernel
theorem dX12_copy_74 : decode cX12_copy 74 = .ok (.ldc2_w 127, 3) := by decide +kernel
theorem dX12_copy_77 : decode cX12_copy 77 = .ok (.lcmp, 1) := by decide +kernel
theorem dX12_copy_78 : decode cX12_copy 78 = .ok (.ifCond .le 9, 3) := by decide +kernel
theorem dX12_copy_81 : decode cX12_copy 81 = .ok (.aload_n 0, 1) := by decide +kernel
theorem dX12_copy_82 : decode cX12_copy 82 = .ok (.iconst 2, 1) := by decide +kernel
theorem dX12_copy_83 : decode cX12_copy 83 = .ok (.invokevirtual 123, 3) := by decide +kernel
theorem dX12_copy_86 : decode cX12_copy 86 = .ok (.ireturn, 1) := by decide +kernel
theorem dX12_copy_87 : decode cX12_copy 87 = .ok (.iconst 0, 1) := by decide +kernel
theorem dX12_copy_88 : decode cX12_copy 88 = .ok (.istore 6, 2) := by decide +kernel
theorem dX12_copy_90 : decode cX12_copy 90 = .ok (.iload 6, 2) := by decide +kernel
theorem dX12_copy_92 : decode cX12_copy 92 = .ok (.iload 5, 2) := by decide +kernel
theorem dX12_copy_94 : decode cX12_copy 94 = .ok (.if_icmp .ge 30, 3) := by decide +kernel
theorem dX12_copy_97 : decode cX12_copy 97 = .ok (.aload_n 0, 1) := by decide +kernel
theorem dX12_copy_98 : decode cX12_copy 98 = .ok (.getfield 20, 3) := by decide +kernel
theorem dX12_copy_101 : decode cX12_copy 101 = .ok (.iload 6, 2) := by decide +kernel
theorem dX12_copy_103 : decode cX12_copy 103 = .ok (.aload_n 0, 1) := by decide +kernel
theorem dX12_copy_104 : decode cX12_copy 104 = .ok (.getfield 17, 3) := by decide +kernel
theorem dX12_copy_107 : decode cX12_copy 107 = .ok (.bipush 7, 2) := by decide +kernel
theorem dX12_copy_109 : decode cX12_copy 109 = .ok (.iload_n 1, 1) := by decide +kernel
theorem dX12_copy_110 : decode cX12_copy 110 = .ok (.imul, 1) := by decide +kernel
theorem dX12_copy_111 : decode cX12_copy 111 = .ok (.iload_n 2, 1) := by decide +kernel
theorem dX12_copy_112 : decode cX12_copy 112 = .ok (.iadd, 1) := by decide +kernel
theorem dX12_copy_113 : decode cX12_copy 113 = .ok (.iload 6, 2) := by decide +kernel
theorem dX12_copy_115 : decode cX12_copy 115 = .ok (.iadd, 1) := by decide +kernel
theorem dX12_copy_116 : decode cX12_copy 116 = .ok (.iaload, 1) := by decide +kernel
theorem dX12_copy_117 : decode cX12_copy 117 = .ok (.iastore, 1) := by decide +kernel
theorem dX12_copy_118 : decode cX12_copy 118 = .ok (.iinc 6 1, 3) := by decide +kernel
theorem dX12_copy_121 : decode cX12_copy 121 = .ok (.goto (-31), 3) := by decide +kernel
theorem dX12_copy_124 : decode cX12_copy 124 = .ok (.iconst 0, 1) := by decide +kernel
theorem dX12_copy_125 : decode cX12_copy 125 = .ok (.istore 6, 2) := by decide +kernel
theorem dX12_copy_127 : decode cX12_copy 127 = .ok (.iload 6, 2) := by decide +kernel
theorem dX12_copy_129 : decode cX12_copy 129 = .ok (.iload 5, 2) := by decide +kernel
theorem dX12_copy_131 : decode cX12_copy 131 = .ok (.if_icmp .ge 31, 3) := by decide +kernel
theorem dX12_copy_134 : decode cX12_copy 134 = .ok (.aload_n 0, 1) := by decide +kernel
theorem dX12_copy_135 : decode cX12_copy 135 = .ok (.getfield 17, 3) := by decide +kernel
theorem dX12_copy_138 : decode cX12_copy 138 = .ok (.bipush 7, 2) := by decide +kernel
theorem dX12_copy_140 : decode cX12_copy 140 = .ok (.iload_n 3, 1) := by decide +kernel
theorem dX12_copy_141 : decode cX12_copy 141 = .ok (.imul, 1) := by decide +kernel
theorem dX12_copy_142 : decode cX12_copy 142 = .ok (.iload 4, 2) := by decide +kernel
theorem dX12_copy_144 : decode cX12_copy 144 = .ok (.iadd, 1) := by decide +kernel
theorem dX12_copy_145 : decode cX12_copy 145 = .ok (.iload 6, 2) := by decide +kernel
theorem dX12_copy_147 : decode cX12_copy 147 = .ok (.iadd, 1) := by decide +kernel
theorem dX12_copy_148 : decode cX12_copy 148 = .ok (.aload_n 0, 1) := by decide +kernel
theorem dX12_copy_149 : decode cX12_copy 149 = .ok (.getfield 20, 3) := by decide +kernel
theorem dX12_copy_152 : decode cX12_copy 152 = .ok (.iload 6, 2) := by decide +kernel
theorem dX12_copy_154 : decode cX12_copy 154 = .ok (.iaload, 1) := by decide +kernel
theorem dX12_copy_155 : decode cX12_copy 155 = .ok (.iastore, 1) := by decide +kernel
theorem dX12_copy_156 : decode cX12_copy 156 = .ok (.iinc 6 1, 3) := by decide +kernel
theorem dX12_copy_159 : decode cX12_copy 159 = .ok (.goto (-32), 3) := by decide +kernel
theorem dX12_copy_162 : decode cX12_copy 162 = .ok (.iconst 1, 1) := by decide +kernel
theorem dX12_copy_163 : decode cX12_copy 163 = .ok (.ireturn, 1) := by decide +kernel
theorem dX12_allOf_0 : decode cX12_allOf 0 = .ok (.iconst 0, 1) := by decide +kernel
theorem dX12_allOf_1 : decode cX12_allOf 1 = .ok (.istore_n 2, 1) := by decide +kernel
theorem dX12_allOf_2 : decode cX12_allOf 2 = .ok (.iconst 0, 1) := by decide +kernel
theorem dX12_allOf_3 : decode cX12_allOf 3 = .ok (.istore_n 3, 1) := by decide +kernel
theorem dX12_allOf_4 : decode cX12_allOf 4 = .ok (.iload_n 3, 1) := by decide +kernel
theorem dX12_allOf_5 : decode cX12_allOf 5 = .ok (.bipush 7, 2) := by decide +kernel
theorem dX12_allOf_7 : decode cX12_allOf 7 = .ok (.if_icmp .ge 23, 3) := by decide +kernel
theorem dX12_allOf_10 : decode cX12_allOf 10 = .ok (.iload_n 2, 1) := by decide +kernel
theorem dX12_allOf_11 : decode cX12_allOf 11 = .ok (.aload_n 0, 1) := by decide +kernel
theorem dX12_allOf_12 : decode cX12_allOf 12 = .ok (.getfield 17, 3) := by decide +kernel
theorem dX12_allOf_15 : decode cX12_allOf 15 = .ok (.bipush 7, 2) := by decide +kernel
theorem dX12_allOf_17 : decode cX12_allOf 17 = .ok (.iload_n 1, 1) := by decide +kernel
theorem dX12_allOf_18 : decode cX12_allOf 18 = .ok (.imul, 1) := by decide +kernel
theorem dX12_allOf_19 : decode cX12_allOf 19 = .ok (.iload_n 3, 1) := by decide +kernel
theorem dX12_allOf_20 : decode cX12_allOf 20 = .ok (.iadd, 1) := by decide +kernel
theorem dX12_allOf_21 : decode cX12_allOf 21 = .ok (.iaload, 1) := by decide +kernel
theorem dX12_allOf_22 : decode cX12_allOf 22 = .ok (.iadd, 1) := by decide +kernel
theorem dX12_allOf_23 : decode cX12_allOf 23 = .ok (.istore_n 2, 1) := by decide +kernel
theorem dX12_allOf_24 : decode cX12_allOf 24 = .ok (.iinc 3 1, 3) := by decide +kernel
theorem dX12_allOf_27 : decode cX12_allOf 27 = .ok (.goto (-23), 3) := by decide +kernel
theorem dX12_allOf_30 : decode cX12_allOf 30 = .ok (.iload_n 2, 1) := by decide +kernel
theorem dX12_allOf_31 : decode cX12_allOf 31 = .ok (.ireturn, 1) := by decide +kernel
theorem dX12_mean_0 : decode cX12_mean 0 = .ok (.iload_n 1, 1) := by decide +kernel
theorem dX12_mean_1 : decode cX12_mean 1 = .ok (.invokestatic 119, 3) := by decide +kernel
theorem dX12_mean_4 : decode cX12_mean 4 = .ok (.ifCond .ne 5, 3) := by decide +kernel
theorem dX12_mean_7 : decode cX12_mean 7 = .ok (.iconst (-1), 1) := by decide +kernel
theorem dX12_mean_8 : decode cX12_mean 8 = .ok (.ireturn, 1) := by decide +kernel
theorem dX12_mean_9 : decode cX12_mean 9 = .ok (.aload_n 0, 1) := by decide +kernel
theorem dX12_mean_10 : decode cX12_mean 10 = .ok (.getfield 13, 3) := by decide +kernel
theorem dX12_mean_13 : decode cX12_mean 13 = .ok (.iload_n 1, 1) := by decide +kernel
theorem dX12_mean_14 : decode cX12_mean 14 = .ok (.baload, 1) := by decide +kernel
theorem dX12_mean_15 : decode cX12_mean 15 = .ok (.ifCond .ne 9, 3) := by decide +kernel
theorem dX12_mean_18 : decode cX12_mean 18 = .ok (.aload_n 0, 1) := by decide +kernel
theorem dX12_mean_19 : decode cX12_mean 19 = .ok (.iconst 1, 1) := by decide +kernel
theorem dX12_mean_20 : decode cX12_mean 20 = .ok (.invokevirtual 123, 3) := by decide +kernel
theorem dX12_mean_23 : decode cX12_mean 23 = .ok (.ireturn, 1) := by decide +kernel
theorem dX12_mean_24 : decode cX12_mean 24 = .ok (.iconst 0, 1) := by decide +kernel
theorem dX12_mean_25 : decode cX12_mean 25 = .ok (.istore_n 2, 1) := by decide +kernel
theorem dX12_mean_26 : decode cX12_mean 26 = .ok (.iconst 0, 1) := by decide +kernel
theorem dX12_mean_27 : decode cX12_mean 27 = .ok (.istore_n 3, 1) := by decide +kernel
theorem dX12_mean_28 : decode cX12_mean 28 = .ok (.iload_n 3, 1) := by decide +kernel
theorem dX12_mean_29 : decode cX12_mean 29 = .ok (.bipush 7, 2) := by decide +kernel
theorem dX12_mean_31 : decode cX12_mean 31 = .ok (.if_icmp .ge 25, 3) := by decide +kernel
theorem dX12_mean_34 : decode cX12_mean 34 = .ok (.iload_n 2, 1) := by decide +kernel
theorem dX12_mean_35 : decode cX12_mean 35 = .ok (.iload_n 3, 1) := by decide +kernel
theorem dX12_mean_36 : decode cX12_mean 36 = .ok (.aload_n 0, 1) := by decide +kernel
theorem dX12_mean_37 : decode cX12_mean 37 = .ok (.getfield 17, 3) := by decide +kernel
theorem dX12_mean_40 : decode cX12_mean 40 = .ok (.bipush 7, 2) := by decide +kernel
theorem dX12_mean_42 : decode cX12_mean 42 = .ok (.iload_n 1, 1) := by decide +kernel
theorem dX12_mean_43 : decode cX12_mean 43 = .ok (.imul, 1) := by decide +kernel
theorem dX12_mean_44 : decode cX12_mean 44 = .ok (.iload_n 3, 1) := by decide +kernel
theorem dX12_mean_45 : decode cX12_mean 45 = .ok (.iadd, 1) := by decide +kernel
theorem dX12_mean_46 : decode cX12_mean 46 = .ok (.iaload, 1) := by decide +kernel
theorem dX12_mean_47 : decode cX12_mean 47 = .ok (.imul, 1) := by decide +kernel
theorem dX12_mean_48 : decode cX12_mean 48 = .ok (.iadd, 1) := by decide +kernel
theorem dX12_mean_49 : decode cX12_mean 49 = .ok (.istore_n 2, 1) := by decide +kernel
theorem dX12_mean_50 : decode cX12_mean 50 = .ok (.iinc 3 1, 3) := by decide +kernel
theorem dX12_mean_53 : decode cX12_mean 53 = .ok (.goto (-25), 3) := by decide +kernel
theorem dX12_mean_56 : decode cX12_mean 56 = .ok (.aload_n 0, 1) := by decide +kernel
theorem dX12_mean_57 : decode cX12_mean 57 = .ok (.iload_n 1, 1) := by decide +kernel
theorem dX12_mean_58 : decode cX12_mean 58 = .ok (.invokevirtual 129, 3) := by decide +kernel
theorem dX12_mean_61 : decode cX12_mean 61 = .ok (.ifCond .ne 11, 3) := by decide +kernel
theorem dX12_mean_64 : decode cX12_mean 64 = .ok (.aload_n 0, 1) := by decide +kernel
theorem dX12_mean_65 : decode cX12_mean 65 = .ok (.iconst 4, 1) := by decide +kernel
theorem dX12_mean_66 : decode cX12_mean 66 = .ok (.invokevirtual 123, 3) := by decide +kernel
theorem dX12_mean_69 : decode cX12_mean 69 = .ok (.goto 10, 3) := by decide +kernel
theorem dX12_mean_72 : decode cX12_mean 72 = .ok (.iload_n 2, 1) := by decide +kernel
theorem dX12_mean_73 : decode cX12_mean 73 = .ok (.aload_n 0, 1) := by decide +kernel
theorem dX12_mean_74 : decode cX12_mean 74 = .ok (.iload_n 1, 1) := by decide +kernel
theorem dX12_mean_75 : decode cX12_mean 75 = .ok (.invokevirtual 129, 3) := by decide +kernel
theorem dX12_mean_78 : decode cX12_mean 78 = .ok (.idiv, 1) := by decide +kernel
theorem dX12_mean_79 : decode cX12_mean 79 = .ok (.ireturn, 1) := by decide +kernel
theorem dX12_sheet_0 : decode cX12_sheet 0 = .ok (.iload_n 1, 1) := by decide +kernel
theorem dX12_sheet_1 : decode cX12_sheet 1 = .ok (.invokestatic 119, 3) := by decide +kernel
theorem dX12_sheet_4 : decode cX12_sheet 4 = .ok (.ifCond .eq 9, 3) := by decide +kernel
theorem dX12_sheet_7 : decode cX12_sheet 7 = .ok (.iload_n 2, 1) := by decide +kernel
theorem dX12_sheet_8 : decode cX12_sheet 8 = .ok (.bipush 25, 2) := by decide +kernel
theorem dX12_sheet_10 : decode cX12_sheet 10 = .ok (.if_icmp .le 5, 3) := by decide +kernel
theorem dX12_sheet_13 : decode cX12_sheet 13 = .ok (.iconst (-1), 1) := by decide +kernel
theorem dX12_sheet_14 : decode cX12_sheet 14 = .ok (.ireturn, 1) := by decide +kernel
theorem dX12_sheet_15 : decode cX12_sheet 15 = .ok (.iload_n 2, 1) := by decide +kernel
theorem dX12_sheet_16 : decode cX12_sheet 16 = .ok (.ifCond .ge 9, 3) := by decide +kernel
theorem dX12_sheet_19 : decode cX12_sheet 19 = .ok (.aload_n 0, 1) := by decide +kernel
theorem dX12_sheet_20 : decode cX12_sheet 20 = .ok (.iconst 5, 1) := by decide +kernel
theorem dX12_sheet_21 : decode cX12_sheet 21 = .ok (.invokevirtual 123, 3) := by decide +kernel
theorem dX12_sheet_24 : decode cX12_sheet 24 = .ok (.ireturn, 1) := by decide +kernel
theorem dX12_sheet_25 : decode cX12_sheet 25 = .ok (.aload_n 0, 1) := by decide +kernel
theorem dX12_sheet_26 : decode cX12_sheet 26 = .ok (.getfield 23, 3) := by decide +kernel
theorem dX12_sheet_29 : decode cX12_sheet 29 = .ok (.iload_n 1, 1) := by decide +kernel
theorem dX12_sheet_30 : decode cX12_sheet 30 = .ok (.iload_n 2, 1) := by decide +kernel
theorem dX12_sheet_31 : decode cX12_sheet 31 = .ok (.iastore, 1) := by decide +kernel
theorem dX12_sheet_32 : decode cX12_sheet 32 = .ok (.iconst 0, 1) := by decide +kernel
theorem dX12_sheet_33 : decode cX12_sheet 33 = .ok (.istore_n 3, 1) := by decide +kernel
theorem dX12_sheet_34 : decode cX12_sheet 34 = .ok (.iload_n 3, 1) := by decide +kernel
theorem dX12_sheet_35 : decode cX12_sheet 35 = .ok (.bipush 25, 2) := by decide +kernel
theorem dX12_sheet_37 : decode cX12_sheet 37 = .ok (.if_icmp .ge 21, 3) := by decide +kernel
theorem dX12_sheet_40 : decode cX12_sheet 40 = .ok (.aload_n 0, 1) := by decide +kernel
theorem dX12_sheet_41 : decode cX12_sheet 41 = .ok (.getfield 26, 3) := by decide +kernel
theorem dX12_sheet_44 : decode cX12_sheet 44 = .ok (.bipush 25, 2) := by decide +kernel
theorem dX12_sheet_46 : decode cX12_sheet 46 = .ok (.iload_n 1, 1) := by decide +kernel
theorem dX12_sheet_47 : decode cX12_sheet 47 = .ok (.imul, 1) := by decide +kernel
theorem dX12_sheet_48 : decode cX12_sheet 48 = .ok (.iload_n 3, 1) := by decide +kernel
theorem dX12_sheet_49 : decode cX12_sheet 49 = .ok (.iadd, 1) := by decide +kernel
theorem dX12_sheet_50 : decode cX12_sheet 50 = .ok (.iconst 0, 1) := by decide +kernel
theorem dX12_sheet_51 : decode cX12_sheet 51 = .ok (.bastore, 1) := by decide +kernel
theorem dX12_sheet_52 : decode cX12_sheet 52 = .ok (.iinc 3 1, 3) := by decide +kernel
theorem dX12_sheet_55 : decode cX12_sheet 55 = .ok (.goto (-21), 3) := by decide +kernel
theorem dX12_sheet_58 : decode cX12_sheet 58 = .ok (.iload_n 2, 1) := by decide +kernel
theorem dX12_sheet_59 : decode cX12_sheet 59 = .ok (.ireturn, 1) := by decide +kernel
theorem dX12_lay_0 : decode cX12_lay 0 = .ok (.iload_n 1, 1) := by decide +kernel
theorem dX12_lay_1 : decode cX12_lay 1 = .ok (.invokestatic 119, 3) := by decide +kernel
theorem dX12_lay_4 : decode cX12_lay 4 = .ok (.ifCond .ne 5, 3) := by decide +kernel
theorem dX12_lay_7 : decode cX12_lay 7 = .ok (.iconst (-1), 1) := by decide +kernel
theorem dX12_lay_8 : decode cX12_lay 8 = .ok (.ireturn, 1) := by decide +kernel
theorem dX12_lay_9 : decode cX12_lay 9 = .ok (.aload_n 0, 1) := by decide +kernel
theorem dX12_lay_10 : decode cX12_lay 10 = .ok (.getfield 23, 3) := by decide +kernel
theorem dX12_lay_13 : decode cX12_lay 13 = .ok (.iload_n 1, 1) := by decide +kernel
theorem dX12_lay_14 : decode cX12_lay 14 = .ok (.iaload, 1) := by decide +kernel
theorem dX12_lay_15 : decode cX12_lay 15 = .ok (.ifCond .ge 9, 3) := by decide +kernel
theorem dX12_lay_18 : decode cX12_lay 18 = .ok (.aload_n 0, 1) := by decide +kernel
theorem dX12_lay_19 : decode cX12_lay 19 = .ok (.iconst 1, 1) := by decide +kernel
theorem dX12_lay_20 : decode cX12_lay 20 = .ok (.invokevirtual 123, 3) := by decide +kernel
theorem dX12_lay_23 : decode cX12_lay 23 = .ok (.ireturn, 1) := by decide +kernel
theorem dX12_lay_24 : decode cX12_lay 24 = .ok (.iload_n 2, 1) := by decide +kernel
theorem dX12_lay_25 : decode cX12_lay 25 = .ok (.iconst 0, 1) := by decide +kernel
theorem dX12_lay_26 : decode cX12_lay 26 = .ok (.aload_n 0, 1) := by decide +kernel
theorem dX12_lay_27 : decode cX12_lay 27 = .ok (.getfield 23, 3) := by decide +kernel
theorem dX12_lay_30 : decode cX12_lay 30 = .ok (.iload_n 1, 1) := by decide +kernel
theorem dX12_lay_31 : decode cX12_lay 31 = .ok (.iaload, 1) := by decide +kernel
theorem dX12_lay_32 : decode cX12_lay 32 = .ok (.iconst 1, 1) := by decide +kernel
theorem dX12_lay_33 : decode cX12_lay 33 = .ok (.isub, 1) := by decide +kernel
theorem dX12_lay_34 : decode cX12_lay 34 = .ok (.invokestatic 108, 3) := by decide +kernel
theorem dX12_lay_37 : decode cX12_lay 37 = .ok (.ifCond .ne 9, 3) := by decide +kernel
theorem dX12_lay_40 : decode cX12_lay 40 = .ok (.aload_n 0, 1) := by decide +kernel
theorem dX12_lay_41 : decode cX12_lay 41 = .ok (.iconst 2, 1) := by decide +kernel
theorem dX12_lay_42 : decode cX12_lay 42 = .ok (.invokevirtual 123, 3) := by decide +kernel
theorem dX12_lay_45 : decode cX12_lay 45 = .ok (.ireturn, 1) := by decide +kernel
theorem dX12_lay_46 : decode cX12_lay 46 = .ok (.aload_n 0, 1) := by decide +kernel
theorem dX12_lay_47 : decode cX12_lay 47 = .ok (.getfield 26, 3) := by decide +kernel
theorem dX12_lay_50 : decode cX12_lay 50 = .ok (.bipush 25, 2) := by decide +kernel
theorem dX12_lay_52 : decode cX12_lay 52 = .ok (.iload_n 1, 1) := by decide +kernel
theorem dX12_lay_53 : decode cX12_lay 53 = .ok (.imul, 1) := by decide +kernel
theorem dX12_lay_54 : decode cX12_lay 54 = .ok (.iload_n 2, 1) := by decide +kernel
theorem dX12_lay_55 : decode cX12_lay 55 = .ok (.iadd, 1) := by decide +kernel
theorem dX12_lay_56 : decode cX12_lay 56 = .ok (.baload, 1) := by decide +kernel
theorem dX12_lay_57 : decode cX12_lay 57 = .ok (.istore 4, 2) := by decide +kernel
theorem dX12_lay_59 : decode cX12_lay 59 = .ok (.aload_n 0, 1) := by decide +kernel
theorem dX12_lay_60 : decode cX12_lay 60 = .ok (.getfield 26, 3) := by decide +kernel
theorem dX12_lay_63 : decode cX12_lay 63 = .ok (.bipush 25, 2) := by decide +kernel
theorem dX12_lay_65 : decode cX12_lay 65 = .ok (.iload_n 1, 1) := by decide +kernel
theorem dX12_lay_66 : decode cX12_lay 66 = .ok (.imul, 1) := by decide +kernel
theorem dX12_lay_67 : decode cX12_lay 67 = .ok (.iload_n 2, 1) := by decide +kernel
theorem dX12_lay_68 : decode cX12_lay 68 = .ok (.iadd, 1) := by decide +kernel
theorem dX12_lay_69 : decode cX12_lay 69 = .ok (.iload_n 3, 1) := by decide +kernel
theorem dX12_lay_70 : decode cX12_lay 70 = .ok (.i2b, 1) := by decide +kernel
theorem dX12_lay_71 : decode cX12_lay 71 = .ok (.bastore, 1) := by decide +kernel
theorem dX12_lay_72 : decode cX12_lay 72 = .ok (.sipush 1000, 3) := by decide +kernel
theorem dX12_lay_75 : decode cX12_lay 75 = .ok (.iload 4, 2) := by decide +kernel
theorem dX12_lay_77 : decode cX12_lay 77 = .ok (.iadd, 1) := by decide +kernel
theorem dX12_lay_78 : decode cX12_lay 78 = .ok (.ireturn, 1) := by decide +kernel
theorem dX12_tear_0 : decode cX12_tear 0 = .ok (.iload_n 1, 1) := by decide +kernel
theorem dX12_tear_1 : decode cX12_tear 1 = .ok (.invokestatic 119, 3) := by decide +kernel
theorem dX12_tear_4 : decode cX12_tear 4 = .ok (.ifCond .ne 5, 3) := by decide +kernel
theorem dX12_tear_7 : decode cX12_tear 7 = .ok (.iconst (-1), 1) := by decide +kernel
theorem dX12_tear_8 : decode cX12_tear 8 = .ok (.ireturn, 1) := by decide +kernel
theorem dX12_tear_9 : decode cX12_tear 9 = .ok (.aload_n 0, 1) := by decide +kernel
theorem dX12_tear_10 : decode cX12_tear 10 = .ok (.getfield 23, 3) := by decide +kernel
theorem dX12_tear_13 : decode cX12_tear 13 = .ok (.iload_n 1, 1) := by decide +kernel
theorem dX12_tear_14 : decode cX12_tear 14 = .ok (.iaload, 1) := by decide +kernel
theorem dX12_tear_15 : decode cX12_tear 15 = .ok (.ifCond .ge 9, 3) := by decide +kernel
theorem dX12_tear_18 : decode cX12_tear 18 = .ok (.aload_n 0, 1) := by decide +kernel
theorem dX12_tear_19 : decode cX12_tear 19 = .ok (.iconst 1, 1) := by decide +kernel
theorem dX12_tear_20 : decode cX12_tear 20 = .ok (.invokevirtual 123, 3) := by decide +kernel
theorem dX12_tear_23 : decode cX12_tear 23 = .ok (.ireturn, 1) := by decide +kernel
theorem dX12_tear_24 : decode cX12_tear 24 = .ok (.aload_n 0, 1) := by decide +kernel
theorem dX12_tear_25 : decode cX12_tear 25 = .ok (.getfield 23, 3) := by decide +kernel
theorem dX12_tear_28 : decode cX12_tear 28 = .ok (.iload_n 1, 1) := by decide +kernel
theorem dX12_tear_29 : decode cX12_tear 29 = .ok (.iconst (-1), 1) := by decide +kernel
theorem dX12_tear_30 : decode cX12_tear 30 = .ok (.iastore, 1) := by decide +kernel
theorem dX12_tear_31 : decode cX12_tear 31 = .ok (.iconst 1, 1) := by decide +kernel
theorem dX12_tear_32 : decode cX12_tear 32 = .ok (.ireturn, 1) := by decide +kernel
theorem dX12_add_0 : decode cX12_add 0 = .ok (.aload_n 0, 1) := by decide +kernel
theorem dX12_add_1 : decode cX12_add 1 = .ok (.getfield 30, 3) := by decide +kernel
theorem dX12_add_4 : decode cX12_add 4 = .ok (.aload_n 0, 1) := by decide +kernel
theorem dX12_add_5 : decode cX12_add 5 = .ok (.getfield 132, 3) := by decide +kernel
theorem dX12_add_8 : decode cX12_add 8 = .ok (.iload_n 1, 1) := by decide +kernel
theorem dX12_add_9 : decode cX12_add 9 = .ok (.iastore, 1) := by decide +kernel
theorem dX12_add_10 : decode cX12_add 10 = .ok (.aload_n 0, 1) := by decide +kernel
theorem dX12_add_11 : decode cX12_add 11 = .ok (.getfield 33, 3) := by decide +kernel
theorem dX12_add_14 : decode cX12_add 14 = .ok (.aload_n 0, 1) := by decide +kernel
theorem dX12_add_15 : decode cX12_add 15 = .ok (.getfield 132, 3) := by decide +kernel
theorem dX12_add_18 : decode cX12_add 18 = .ok (.iload_n 2, 1) := by decide +kernel
theorem dX12_add_19 : decode cX12_add 19 = .ok (.iastore, 1) := by decide +kernel
theorem dX12_add_20 : decode cX12_add 20 = .ok (.aload_n 0, 1) := by decide +kernel
theorem dX12_add_21 : decode cX12_add 21 = .ok (.getfield 36, 3) := by decide +kernel
theorem dX12_add_24 : decode cX12_add 24 = .ok (.aload_n 0, 1) := by decide +kernel
theorem dX12_add_25 : decode cX12_add 25 = .ok (.getfield 132, 3) := by decide +kernel
theorem dX12_add_28 : decode cX12_add 28 = .ok (.iload_n 3, 1) := by decide +kernel
theorem dX12_add_29 : decode cX12_add 29 = .ok (.iastore, 1) := by decide +kernel
theorem dX12_add_30 : decode cX12_add 30 = .ok (.aload_n 0, 1) := by decide +kernel
theorem dX12_add_31 : decode cX12_add 31 = .ok (.getfield 39, 3) := by decide +kernel
theorem dX12_add_34 : decode cX12_add 34 = .ok (.aload_n 0, 1) := by decide +kernel
theorem dX12_add_35 : decode cX12_add 35 = .ok (.getfield 132, 3) := by decide +kernel
theorem dX12_add_38 : decode cX12_add 38 = .ok (.iload 4, 2) := by decide +kernel
theorem dX12_add_40 : decode cX12_add 40 = .ok (.iastore, 1) := by decide +kernel
theorem dX12_add_41 : decode cX12_add 41 = .ok (.aload_n 0, 1) := by decide +kernel
theorem dX12_add_42 : decode cX12_add 42 = .ok (.getfield 42, 3) := by decide +kernel
theorem dX12_add_45 : decode cX12_add 45 = .ok (.aload_n 0, 1) := by decide +kernel
theorem dX12_add_46 : decode cX12_add 46 = .ok (.getfield 132, 3) := by decide +kernel
theorem dX12_add_49 : decode cX12_add 49 = .ok (.iload 5, 2) := by decide +kernel
theorem dX12_add_51 : decode cX12_add 51 = .ok (.iastore, 1) := by decide +kernel
theorem dX12_add_52 : decode cX12_add 52 = .ok (.aload_n 0, 1) := by decide +kernel
theorem dX12_add_53 : decode cX12_add 53 = .ok (.getfield 48, 3) := by decide +kernel
theorem dX12_add_56 : decode cX12_add 56 = .ok (.aload_n 0, 1) := by decide +kernel
theorem dX12_add_57 : decode cX12_add 57 = .ok (.getfield 132, 3) := by decide +kernel
theorem dX12_add_60 : decode cX12_add 60 = .ok (.iconst 0, 1) := by decide +kernel
theorem dX12_add_61 : decode cX12_add 61 = .ok (.bastore, 1) := by decide +kernel
theorem dX12_add_62 : decode cX12_add 62 = .ok (.aload_n 0, 1) := by decide +kernel
theorem dX12_add_63 : decode cX12_add 63 = .ok (.dup, 1) := by decide +kernel
theorem dX12_add_64 : decode cX12_add 64 = .ok (.getfield 132, 3) := by decide +kernel
theorem dX12_add_67 : decode cX12_add 67 = .ok (.iconst 1, 1) := by decide +kernel
theorem dX12_add_68 : decode cX12_add 68 = .ok (.iadd, 1) := by decide +kernel
theorem dX12_add_69 : decode cX12_add 69 = .ok (.putfield 132, 3) := by decide +kernel
theorem dX12_add_72 : decode cX12_add 72 = .ok (.aload_n 0, 1) := by decide +kernel
theorem dX12_add_73 : decode cX12_add 73 = .ok (.getfield 132, 3) := by decide +kernel
theorem dX12_add_76 : decode cX12_add 76 = .ok (.iconst 1, 1) := by decide +kernel
theorem dX12_add_77 : decode cX12_add 77 = .ok (.isub, 1) := by decide +kernel
theorem dX12_add_78 : decode cX12_add 78 = .ok (.ireturn, 1) := by decide +kernel
theorem dX12_table_0 : decode cX12_table 0 = .ok (.iload_n 1, 1) := by decide +kernel
theorem dX12_table_1 : decode cX12_table 1 = .ok (.invokestatic 119, 3) := by decide +kernel
theorem dX12_table_4 : decode cX12_table 4 = .ok (.ifCond .ne 5, 3) := by decide +kernel
theorem dX12_table_7 : decode cX12_table 7 = .ok (.iconst (-1), 1) := by decide +kernel
theorem dX12_table_8 : decode cX12_table 8 = .ok (.ireturn, 1) := by decide +kernel
theorem dX12_table_9 : decode cX12_table 9 = .ok (.aload_n 0, 1) := by decide +kernel
theorem dX12_table_10 : decode cX12_table 10 = .ok (.getfield 132, 3) := by decide +kernel
theorem dX12_table_13 : decode cX12_table 13 = .ok (.bipush 12, 2) := by decide +kernel
theorem dX12_table_15 : decode cX12_table 15 = .ok (.if_icmp .ne 6, 3) := by decide +kernel
theorem dX12_table_18 : decode cX12_table 18 = .ok (.bipush (-2), 2) := by decide +kernel
theorem dX12_table_20 : decode cX12_table 20 = .ok (.ireturn, 1) := by decide +kernel
theorem dX12_table_21 : decode cX12_table 21 = .ok (.aload_n 0, 1) := by decide +kernel
theorem dX12_table_22 : decode cX12_table 22 = .ok (.getfield 23, 3) := by decide +kernel
theorem dX12_table_25 : decode cX12_table 25 = .ok (.iload_n 1, 1) := by decide +kernel
theorem dX12_table_26 : decode cX12_table 26 = .ok (.iaload, 1) := by decide +kernel
theorem dX12_table_27 : decode cX12_table 27 = .ok (.ifCond .ge 9, 3) := by decide +kernel
theorem dX12_table_30 : decode cX12_table 30 = .ok (.aload_n 0, 1) := by decide +kernel
theorem dX12_table_31 : decode cX12_table 31 = .ok (.iconst 1, 1) := by decide +kernel
theorem dX12_table_32 : decode cX12_table 32 = .ok (.invokevirtual 123, 3) := by decide +kernel
theorem dX12_table_35 : decode cX12_table 35 = .ok (.ireturn, 1) := by decide +kernel
theorem dX12_table_36 : decode cX12_table 36 = .ok (.iconst 0, 1) := by decide +kernel
theorem dX12_table_37 : decode cX12_table 37 = .ok (.istore_n 2, 1) := by decide +kernel
theorem dX12_table_38 : decode cX12_table 38 = .ok (.iload_n 2, 1) := by decide +kernel
theorem dX12_table_39 : decode cX12_table 39 = .ok (.bipush 25, 2) := by decide +kernel
theorem dX12_table_41 : decode cX12_table 41 = .ok (.if_icmp .ge 34, 3) := by decide +kernel
theorem dX12_table_44 : decode cX12_table 44 = .ok (.aload_n 0, 1) := by decide +kernel
theorem dX12_table_45 : decode cX12_table 45 = .ok (.getfield 45, 3) := by decide +kernel
theorem dX12_table_48 : decode cX12_table 48 = .ok (.bipush 25, 2) := by decide +kernel
theorem dX12_table_50 : decode cX12_table 50 = .ok (.aload_n 0, 1) := by decide +kernel
theorem dX12_table_51 : decode cX12_table 51 = .ok (.getfield 132, 3) := by decide +kernel
theorem dX12_table_54 : decode cX12_table 54 = .ok (.imul, 1) := by decide +kernel
theorem dX12_table_55 : decode cX12_table 55 = .ok (.iload_n 2, 1) := by decide +kernel
theorem dX12_table_56 : decode cX12_table 56 = .ok (.iadd, 1) := by decide +kernel
theorem dX12_table_57 : decode cX12_table 57 = .ok (.aload_n 0, 1) := by decide +kernel
theorem dX12_table_58 : decode cX12_table 58 = .ok (.getfield 26, 3) := by decide +kernel
theorem dX12_table_61 : decode cX12_table 61 = .ok (.bipush 25, 2) := by decide +kernel
theorem dX12_table_63 : decode cX12_table 63 = .ok (.iload_n 1, 1) := by decide +kernel
theorem dX12_table_64 : decode cX12_table 64 = .ok (.imul, 1) := by decide +kernel
theorem dX12_table_65 : decode cX12_table 65 = .ok (.iload_n 2, 1) := by decide +kernel
theorem dX12_table_66 : decode cX12_table 66 = .ok (.iadd, 1) := by decide +kernel
theorem dX12_table_67 : decode cX12_table 67 = .ok (.baload, 1) := by decide +kernel
theorem dX12_table_68 : decode cX12_table 68 = .ok (.bastore, 1) := by decide +kernel
theorem dX12_table_69 : decode cX12_table 69 = .ok (.iinc 2 1, 3) := by decide +kernel
theorem dX12_table_72 : decode cX12_table 72 = .ok (.goto (-34), 3) := by decide +kernel
theorem dX12_table_75 : decode cX12_table 75 = .ok (.aload_n 0, 1) := by decide +kernel
theorem dX12_table_76 : decode cX12_table 76 = .ok (.iconst 0, 1) := by decide +kernel
theorem dX12_table_77 : decode cX12_table 77 = .ok (.bipush (-9), 2) := by decide +kernel
theorem dX12_table_79 : decode cX12_table 79 = .ok (.bipush (-9), 2) := by decide +kernel
theorem dX12_table_81 : decode cX12_table 81 = .ok (.bipush (-9), 2) := by decide +kernel
theorem dX12_table_83 : decode cX12_table 83 = .ok (.aload_n 0, 1) := by decide +kernel
theorem dX12_table_84 : decode cX12_table 84 = .ok (.getfield 23, 3) := by decide +kernel
theorem dX12_table_87 : decode cX12_table 87 = .ok (.iload_n 1, 1) := by decide +kernel
theorem dX12_table_88 : decode cX12_table 88 = .ok (.iaload, 1) := by decide +kernel
theorem dX12_table_89 : decode cX12_table 89 = .ok (.invokevirtual 135, 3) := by decide +kernel
theorem dX12_table_92 : decode cX12_table 92 = .ok (.ireturn, 1) := by decide +kernel
theorem dX12_rule_0 : decode cX12_rule 0 = .ok (.iload_n 1, 1) := by decide +kernel
theorem dX12_rule_1 : decode cX12_rule 1 = .ok (.iconst 1, 1) := by decide +kernel
theorem dX12_rule_2 : decode cX12_rule 2 = .ok (.if_icmp .ne 13, 3) := by decide +kernel
theorem dX12_rule_5 : decode cX12_rule 5 = .ok (.iload_n 2, 1) := by decide +kernel
theorem dX12_rule_6 : decode cX12_rule 6 = .ok (.iconst 0, 1) := by decide +kernel
theorem dX12_rule_7 : decode cX12_rule 7 = .ok (.bipush 12, 2) := by decide +kernel
theorem dX12_rule_9 : decode cX12_rule 9 = .ok (.invokestatic 108, 3) := by decide +kernel
theorem dX12_rule_12 : decode cX12_rule 12 = .ok (.ifCond .ne 56, 3) := by decide +kernel
theorem dX12_rule_15 : decode cX12_rule 15 = .ok (.iload_n 1, 1) := by decide +kernel
theorem dX12_rule_16 : decode cX12_rule 16 = .ok (.iconst 2, 1) := by decide +kernel
theorem dX12_rule_17 : decode cX12_rule 17 = .ok (.if_icmp .ne 25, 3) := by decide +kernel
theorem dX12_rule_20 : decode cX12_rule 20 = .ok (.iload_n 3, 1) := by decide +kernel
theorem dX12_rule_21 : decode cX12_rule 21 = .ok (.iconst 0, 1) := by decide +kernel
theorem dX12_rule_22 : decode cX12_rule 22 = .ok (.bipush 12, 2) := by decide +kernel
theorem dX12_rule_24 : decode cX12_rule 24 = .ok (.invokestatic 108, 3) := by decide +kernel
theorem dX12_rule_27 : decode cX12_rule 27 = .ok (.ifCond .eq 15, 3) := by decide +kernel
theorem dX12_rule_30 : decode cX12_rule 30 = .ok (.iload_n 2, 1) := by decide +kernel
theorem dX12_rule_31 : decode cX12_rule 31 = .ok (.bipush (-12), 2) := by decide +kernel
theorem dX12_rule_33 : decode cX12_rule 33 = .ok (.iload_n 3, 1) := by decide +kernel
theorem dX12_rule_34 : decode cX12_rule 34 = .ok (.iconst 1, 1) := by decide +kernel
theorem dX12_rule_35 : decode cX12_rule 35 = .ok (.isub, 1) := by decide +kernel
theorem dX12_rule_36 : decode cX12_rule 36 = .ok (.invokestatic 108, 3) := by decide +kernel
theorem dX12_rule_39 : decode cX12_rule 39 = .ok (.ifCond .ne 29, 3) := by decide +kernel
theorem dX12_rule_42 : decode cX12_rule 42 = .ok (.iload_n 1, 1) := by decide +kernel
theorem dX12_rule_43 : decode cX12_rule 43 = .ok (.iconst 3, 1) := by decide +kernel
theorem dX12_rule_44 : decode cX12_rule 44 = .ok (.if_icmp .ne 28, 3) := by decide +kernel
theorem dX12_rule_47 : decode cX12_rule 47 = .ok (.iload_n 2, 1) := by decide +kernel
theorem dX12_rule_48 : decode cX12_rule 48 = .ok (.bipush (-12), 2) := by decide +kernel
theorem dX12_rule_50 : decode cX12_rule 50 = .ok (.bipush 12, 2) := by decide +kernel
theorem dX12_rule_52 : decode cX12_rule 52 = .ok (.invokestatic 108, 3) := by decide +kernel
theorem dX12_rule_55 : decode cX12_rule 55 = .ok (.ifCond .eq 17, 3) := by decide +kernel
theorem dX12_rule_58 : decode cX12_rule 58 = .ok (.iload_n 3, 1) := by decide +kernel
theorem dX12_rule_59 : decode cX12_rule 59 = .ok (.iconst 1, 1) := by decide +kernel
theorem dX12_rule_60 : decode cX12_rule 60 = .ok (.bipush 12, 2) := by decide +kernel
theorem dX12_rule_62 : decode cX12_rule 62 = .ok (.invokestatic 108, 3) := by decide +kernel
theorem dX12_rule_65 : decode cX12_rule 65 = .ok (.ifCond .eq 7, 3) := by decide +kernel
theorem dX12_rule_68 : decode cX12_rule 68 = .ok (.iconst 1, 1) := by decide +kernel
theorem dX12_rule_69 : decode cX12_rule 69 = .ok (.goto 4, 3) := by decide +kernel
theorem dX12_rule_72 : decode cX12_rule 72 = .ok (.iconst 0, 1) := by decide +kernel
theorem dX12_rule_73 : decode cX12_rule 73 = .ok (.istore 4, 2) := by decide +kernel
theorem dX12_rule_75 : decode cX12_rule 75 = .ok (.iload 4, 2) := by decide +kernel
theorem dX12_rule_77 : decode cX12_rule 77 = .ok (.ifCond .ne 5, 3) := by decide +kernel
theorem dX12_rule_80 : decode cX12_rule 80 = .ok (.iconst (-1), 1) := by decide +kernel
theorem dX12_rule_81 : decode cX12_rule 81 = .ok (.ireturn, 1) := by decide +kernel
theorem dX12_rule_82 : decode cX12_rule 82 = .ok (.aload_n 0, 1) := by decide +kernel
theorem dX12_rule_83 : decode cX12_rule 83 = .ok (.getfield 132, 3) := by decide +kernel
theorem dX12_rule_86 : decode cX12_rule 86 = .ok (.bipush 12, 2) := by decide +kernel
theorem dX12_rule_88 : decode cX12_rule 88 = .ok (.if_icmp .ne 6, 3) := by decide +kernel
theorem dX12_rule_91 : decode cX12_rule 91 = .ok (.bipush (-2), 2) := by decide +kernel
theorem dX12_rule_93 : decode cX12_rule 93 = .ok (.ireturn, 1) := by decide +kernel
theorem dX12_rule_94 : decode cX12_rule 94 = .ok (.iload_n 1, 1) := by decide +kernel
theorem dX12_rule_95 : decode cX12_rule 95 = .ok (.iconst 1, 1) := by decide +kernel
theorem dX12_rule_96 : decode cX12_rule 96 = .ok (.if_icmp .ne 18, 3) := by decide +kernel
theorem dX12_rule_99 : decode cX12_rule 99 = .ok (.aload_n 0, 1) := by decide +kernel
theorem dX12_rule_100 : decode cX12_rule 100 = .ok (.iconst 1, 1) := by decide +kernel
theorem dX12_rule_101 : decode cX12_rule 101 = .ok (.bipush (-9), 2) := by decide +kernel
theorem dX12_rule_103 : decode cX12_rule 103 = .ok (.iload_n 2, 1) := by decide +kernel
theorem dX12_rule_104 : decode cX12_rule 104 = .ok (.bipush (-9), 2) := by decide +kernel
theorem dX12_rule_106 : decode cX12_rule 106 = .ok (.bipush (-9), 2) := by decide +kernel
theorem dX12_rule_108 : decode cX12_rule 108 = .ok (.invokevirtual 135, 3) := by decide +kernel
theorem dX12_rule_111 : decode cX12_rule 111 = .ok (.goto 33, 3) := by decide +kernel
theorem dX12_rule_114 : decode cX12_rule 114 = .ok (.iload_n 1, 1) := by decide +kernel
theorem dX12_rule_115 : decode cX12_rule 115 = .ok (.iconst 2, 1) := by decide +kernel
theorem dX12_rule_116 : decode cX12_rule 116 = .ok (.if_icmp .ne 17, 3) := by decide +kernel
theorem dX12_rule_119 : decode cX12_rule 119 = .ok (.aload_n 0, 1) := by decide +kernel
theorem dX12_rule_120 : decode cX12_rule 120 = .ok (.iconst 2, 1) := by decide +kernel
theorem dX12_rule_121 : decode cX12_rule 121 = .ok (.iload_n 2, 1) := by decide +kernel
theorem dX12_rule_122 : decode cX12_rule 122 = .ok (.iload_n 3, 1) := by decide +kernel
theorem dX12_rule_123 : decode cX12_rule 123 = .ok (.bipush (-9), 2) := by decide +kernel
theorem dX12_rule_125 : decode cX12_rule 125 = .ok (.bipush (-9), 2) := by decide +kernel
theorem dX12_rule_127 : decode cX12_rule 127 = .ok (.invokevirtual 135, 3) := by decide +kernel
theorem dX12_rule_130 : decode cX12_rule 130 = .ok (.goto 14, 3) := by decide +kernel
theorem dX12_rule_133 : decode cX12_rule 133 = .ok (.aload_n 0, 1) := by decide +kernel
theorem dX12_rule_134 : decode cX12_rule 134 = .ok (.iconst 3, 1) := by decide +kernel
theorem dX12_rule_135 : decode cX12_rule 135 = .ok (.iload_n 2, 1) := by decide +kernel
theorem dX12_rule_136 : decode cX12_rule 136 = .ok (.bipush (-9), 2) := by decide +kernel
theorem dX12_rule_138 : decode cX12_rule 138 = .ok (.iload_n 3, 1) := by decide +kernel
theorem dX12_rule_139 : decode cX12_rule 139 = .ok (.bipush (-9), 2) := by decide +kernel
theorem dX12_rule_141 : decode cX12_rule 141 = .ok (.invokevirtual 135, 3) := by decide +kernel
theorem dX12_rule_144 : decode cX12_rule 144 = .ok (.ireturn, 1) := by decide +kernel
theorem dX12_isRule_0 : decode cX12_isRule 0 = .ok (.iload_n 1, 1) := by decide +kernel
theorem dX12_isRule_1 : decode cX12_isRule 1 = .ok (.iconst 0, 1) := by decide +kernel
theorem dX12_isRule_2 : decode cX12_isRule 2 = .ok (.aload_n 0, 1) := by decide +kernel
theorem dX12_isRule_3 : decode cX12_isRule 3 = .ok (.getfield 132, 3) := by decide +kernel
theorem dX12_isRule_6 : decode cX12_isRule 6 = .ok (.iconst 1, 1) := by decide +kernel
theorem dX12_isRule_7 : decode cX12_isRule 7 = .ok (.isub, 1) := by decide +kernel
theorem dX12_isRule_8 : decode cX12_isRule 8 = .ok (.invokestatic 108, 3) := by decide +kernel
theorem dX12_isRule_11 : decode cX12_isRule 11 = .ok (.ireturn, 1) := by decide +kernel
theorem dX12_need_0 : decode cX12_need 0 = .ok (.aload_n 0, 1) := by decide +kernel
theorem dX12_need_1 : decode cX12_need 1 = .ok (.iload_n 2, 1) := by decide +kernel
theorem dX12_need_2 : decode cX12_need 2 = .ok (.invokevirtual 139, 3) := by decide +kernel
theorem dX12_need_5 : decode cX12_need 5 = .ok (.ifCond .eq 7, 3) := by decide +kernel
theorem dX12_need_8 : decode cX12_need 8 = .ok (.iload_n 1, 1) := by decide +kernel
theorem dX12_need_9 : decode cX12_need 9 = .ok (.ifCond .ne 7, 3) := by decide +kernel
theorem dX12_need_12 : decode cX12_need 12 = .ok (.iconst (-1), 1) := by decide +kernel
theorem dX12_need_13 : decode cX12_need 13 = .ok (.goto 21, 3) := by decide +kernel
theorem dX12_need_16 : decode cX12_need 16 = .ok (.aload_n 0, 1) := by decide +kernel
theorem dX12_need_17 : decode cX12_need 17 = .ok (.getfield 48, 3) := by decide +kernel
theorem dX12_need_20 : decode cX12_need 20 = .ok (.iload_n 2, 1) := by decide +kernel
theorem dX12_need_21 : decode cX12_need 21 = .ok (.baload, 1) := by decide +kernel
theorem dX12_need_22 : decode cX12_need 22 = .ok (.ifCond .eq 11, 3) := by decide +kernel
theorem dX12_need_25 : decode cX12_need 25 = .ok (.aload_n 0, 1) := by decide +kernel
theorem dX12_need_26 : decode cX12_need 26 = .ok (.iconst 1, 1) := by decide +kernel
theorem dX12_need_27 : decode cX12_need 27 = .ok (.invokevirtual 123, 3) := by decide +kernel
theorem dX12_need_30 : decode cX12_need 30 = .ok (.goto 4, 3) := by decide +kernel
theorem dX12_need_33 : decode cX12_need 33 = .ok (.iconst 0, 1) := by decide +kernel
theorem dX12_need_34 : decode cX12_need 34 = .ok (.ireturn, 1) := by decide +kernel
theorem dX12_drop_0 : decode cX12_drop 0 = .ok (.aload_n 0, 1) := by decide +kernel
theorem dX12_drop_1 : decode cX12_drop 1 = .ok (.iconst 1, 1) := by decide +kernel
theorem dX12_drop_2 : decode cX12_drop 2 = .ok (.iload_n 1, 1) := by decide +kernel
theorem dX12_drop_3 : decode cX12_drop 3 = .ok (.invokevirtual 142, 3) := by decide +kernel
theorem dX12_drop_6 : decode cX12_drop 6 = .ok (.istore_n 2, 1) := by decide +kernel
theorem dX12_drop_7 : decode cX12_drop 7 = .ok (.iload_n 2, 1) := by decide +kernel
theorem dX12_drop_8 : decode cX12_drop 8 = .ok (.ifCond .ge 5, 3) := by decide +kernel
theorem dX12_drop_11 : decode cX12_drop 11 = .ok (.iload_n 2, 1) := by decide +kernel
theorem dX12_drop_12 : decode cX12_drop 12 = .ok (.ireturn, 1) := by decide +kernel
theorem dX12_drop_13 : decode cX12_drop 13 = .ok (.aload_n 0, 1) := by decide +kernel
theorem dX12_drop_14 : decode cX12_drop 14 = .ok (.getfield 48, 3) := by decide +kernel
theorem dX12_drop_17 : decode cX12_drop 17 = .ok (.iload_n 1, 1) := by decide +kernel
theorem dX12_drop_18 : decode cX12_drop 18 = .ok (.iconst 1, 1) := by decide +kernel
theorem dX12_drop_19 : decode cX12_drop 19 = .ok (.bastore, 1) := by decide +kernel
theorem dX12_drop_20 : decode cX12_drop 20 = .ok (.iconst 1, 1) := by decide +kernel
theorem dX12_drop_21 : decode cX12_drop 21 = .ok (.ireturn, 1) := by decide +kernel
theorem dX12_toldOf_0 : decode cX12_toldOf 0 = .ok (.iload_n 2, 1) := by decide +kernel
theorem dX12_toldOf_1 : decode cX12_toldOf 1 = .ok (.ifCond .ne 12, 3) := by decide +kernel
theorem dX12_toldOf_4 : decode cX12_toldOf 4 = .ok (.aload_n 0, 1) := by decide +kernel
theorem dX12_toldOf_5 : decode cX12_toldOf 5 = .ok (.getfield 30, 3) := by decide +kernel
theorem dX12_toldOf_8 : decode cX12_toldOf 8 = .ok (.iload_n 1, 1) := by decide +kernel
theorem dX12_toldOf_9 : decode cX12_toldOf 9 = .ok (.iaload, 1) := by decide +kernel
theorem dX12_toldOf_10 : decode cX12_toldOf 10 = .ok (.goto 51, 3) := by decide +kernel
theorem dX12_toldOf_13 : decode cX12_toldOf 13 = .ok (.iload_n 2, 1) := by decide +kernel
theorem dX12_toldOf_14 : decode cX12_toldOf 14 = .ok (.iconst 1, 1) := by decide +kernel
theorem dX12_toldOf_15 : decode cX12_toldOf 15 = .ok (.if_icmp .ne 12, 3) := by decide +kernel
theorem dX12_toldOf_18 : decode cX12_toldOf 18 = .ok (.aload_n 0, 1) := by decide +kernel
theorem dX12_toldOf_19 : decode cX12_toldOf 19 = .ok (.getfield 36, 3) := by decide +kernel
theorem dX12_toldOf_22 : decode cX12_toldOf 22 = .ok (.iload_n 1, 1) := by decide +kernel
theorem dX12_toldOf_23 : decode cX12_toldOf 23 = .ok (.iaload, 1) := by decide +kernel
theorem dX12_toldOf_24 : decode cX12_toldOf 24 = .ok (.goto 37, 3) := by decide +kernel
theorem dX12_toldOf_27 : decode cX12_toldOf 27 = .ok (.iload_n 2, 1) := by decide +kernel
theorem dX12_toldOf_28 : decode cX12_toldOf 28 = .ok (.iconst 2, 1) := by decide +kernel
theorem dX12_toldOf_29 : decode cX12_toldOf 29 = .ok (.if_icmp .ne 12, 3) := by decide +kernel
theorem dX12_toldOf_32 : decode cX12_toldOf 32 = .ok (.aload_n 0, 1) := by decide +kernel
theorem dX12_toldOf_33 : decode cX12_toldOf 33 = .ok (.getfield 33, 3) := by decide +kernel
theorem dX12_toldOf_36 : decode cX12_toldOf 36 = .ok (.iload_n 1, 1) := by decide +kernel
theorem dX12_toldOf_37 : decode cX12_toldOf 37 = .ok (.iaload, 1) := by decide +kernel
theorem dX12_toldOf_38 : decode cX12_toldOf 38 = .ok (.goto 23, 3) := by decide +kernel
theorem dX12_toldOf_41 : decode cX12_toldOf 41 = .ok (.iload_n 2, 1) := by decide +kernel
theorem dX12_toldOf_42 : decode cX12_toldOf 42 = .ok (.iconst 3, 1) := by decide +kernel
theorem dX12_toldOf_43 : decode cX12_toldOf 43 = .ok (.if_icmp .ne 12, 3) := by decide +kernel
theorem dX12_toldOf_46 : decode cX12_toldOf 46 = .ok (.aload_n 0, 1) := by decide +kernel
theorem dX12_toldOf_47 : decode cX12_toldOf 47 = .ok (.getfield 39, 3) := by decide +kernel
theorem dX12_toldOf_50 : decode cX12_toldOf 50 = .ok (.iload_n 1, 1) := by decide +kernel
theorem dX12_toldOf_51 : decode cX12_toldOf 51 = .ok (.iaload, 1) := by decide +kernel
theorem dX12_toldOf_52 : decode cX12_toldOf 52 = .ok (.goto 9, 3) := by decide +kernel
theorem dX12_toldOf_55 : decode cX12_toldOf 55 = .ok (.aload_n 0, 1) := by decide +kernel
theorem dX12_toldOf_56 : decode cX12_toldOf 56 = .ok (.getfield 42, 3) := by decide +kernel
theorem dX12_toldOf_59 : decode cX12_toldOf 59 = .ok (.iload_n 1, 1) := by decide +kernel
theorem dX12_toldOf_60 : decode cX12_toldOf 60 = .ok (.iaload, 1) := by decide +kernel
theorem dX12_toldOf_61 : decode cX12_toldOf 61 = .ok (.ireturn, 1) := by decide +kernel
theorem dX12_told_0 : decode cX12_told 0 = .ok (.aload_n 0, 1) := by decide +kernel
theorem dX12_told_1 : decode cX12_told 1 = .ok (.iload_n 2, 1) := by decide +kernel
theorem dX12_told_2 : decode cX12_told 2 = .ok (.iconst 0, 1) := by decide +kernel
theorem dX12_told_3 : decode cX12_told 3 = .ok (.iconst 4, 1) := by decide +kernel
theorem dX12_told_4 : decode cX12_told 4 = .ok (.invokestatic 108, 3) := by decide +kernel
theorem dX12_told_7 : decode cX12_told 7 = .ok (.iload_n 1, 1) := by decide +kernel
theorem dX12_told_8 : decode cX12_told 8 = .ok (.invokevirtual 142, 3) := by decide +kernel
theorem dX12_told_11 : decode cX12_told 11 = .ok (.istore_n 3, 1) := by decide +kernel
theorem dX12_told_12 : decode cX12_told 12 = .ok (.iload_n 3, 1) := by decide +kernel
theorem dX12_told_13 : decode cX12_told 13 = .ok (.ifCond .ge 7, 3) := by decide +kernel
theorem dX12_told_16 : decode cX12_told 16 = .ok (.iload_n 3, 1) := by decide +kernel
theorem dX12_told_17 : decode cX12_told 17 = .ok (.goto 9, 3) := by decide +kernel
theorem dX12_told_20 : decode cX12_told 20 = .ok (.aload_n 0, 1) := by decide +kernel
theorem dX12_told_21 : decode cX12_told 21 = .ok (.iload_n 1, 1) := by decide +kernel
theorem dX12_told_22 : decode cX12_told 22 = .ok (.iload_n 2, 1) := by decide +kernel
theorem dX12_told_23 : decode cX12_told 23 = .ok (.invokevirtual 146, 3) := by decide +kernel
theorem dX12_told_26 : decode cX12_told 26 = .ok (.ireturn, 1) := by decide +kernel
theorem dX12_mark_0 : decode cX12_mark 0 = .ok (.aload_n 0, 1) := by decide +kernel
theorem dX12_mark_1 : decode cX12_mark 1 = .ok (.iload_n 2, 1) := by decide +kernel
theorem dX12_mark_2 : decode cX12_mark 2 = .ok (.iconst 0, 1) := by decide +kernel
theorem dX12_mark_3 : decode cX12_mark 3 = .ok (.iconst 3, 1) := by decide +kernel
theorem dX12_mark_4 : decode cX12_mark 4 = .ok (.invokestatic 108, 3) := by decide +kernel
theorem dX12_mark_7 : decode cX12_mark 7 = .ok (.iload_n 1, 1) := by decide +kernel
theorem dX12_mark_8 : decode cX12_mark 8 = .ok (.invokevirtual 142, 3) := by decide +kernel
theorem dX12_mark_11 : decode cX12_mark 11 = .ok (.istore_n 3, 1) := by decide +kernel
theorem dX12_mark_12 : decode cX12_mark 12 = .ok (.iload_n 3, 1) := by decide +kernel
theorem dX12_mark_13 : decode cX12_mark 13 = .ok (.ifCond .ge 5, 3) := by decide +kernel
theorem dX12_mark_16 : decode cX12_mark 16 = .ok (.iload_n 3, 1) := by decide +kernel
theorem dX12_mark_17 : decode cX12_mark 17 = .ok (.ireturn, 1) := by decide +kernel
theorem dX12_mark_18 : decode cX12_mark 18 = .ok (.iload_n 2, 1) := by decide +kernel
theorem dX12_mark_19 : decode cX12_mark 19 = .ok (.ifCond .ne 5, 3) := by decide +kernel
theorem dX12_mark_22 : decode cX12_mark 22 = .ok (.iload_n 1, 1) := by decide +kernel
theorem dX12_mark_23 : decode cX12_mark 23 = .ok (.ireturn, 1) := by decide +kernel
theorem dX12_mark_24 : decode cX12_mark 24 = .ok (.aload_n 0, 1) := by decide +kernel
theorem dX12_mark_25 : decode cX12_mark 25 = .ok (.getfield 30, 3) := by decide +kernel
theorem dX12_mark_28 : decode cX12_mark 28 = .ok (.iload_n 1, 1) := by decide +kernel
theorem dX12_mark_29 : decode cX12_mark 29 = .ok (.iaload, 1) := by decide +kernel
theorem dX12_mark_30 : decode cX12_mark 30 = .ok (.iload_n 2, 1) := by decide +kernel
theorem dX12_mark_31 : decode cX12_mark 31 = .ok (.if_icmp .eq 24, 3) := by decide +kernel
theorem dX12_mark_34 : decode cX12_mark 34 = .ok (.iload_n 2, 1) := by decide +kernel
theorem dX12_mark_35 : decode cX12_mark 35 = .ok (.iconst 1, 1) := by decide +kernel
theorem dX12_mark_36 : decode cX12_mark 36 = .ok (.if_icmp .ne 13, 3) := by decide +kernel
theorem dX12_mark_39 : decode cX12_mark 39 = .ok (.aload_n 0, 1) := by decide +kernel
theorem dX12_mark_40 : decode cX12_mark 40 = .ok (.getfield 30, 3) := by decide +kernel
theorem dX12_mark_43 : decode cX12_mark 43 = .ok (.iload_n 1, 1) := by decide +kernel
theorem dX12_mark_44 : decode cX12_mark 44 = .ok (.iaload, 1) := by decide +kernel
theorem dX12_mark_45 : decode cX12_mark 45 = .ok (.iconst 2, 1) := by decide +kernel
theorem dX12_mark_46 : decode cX12_mark 46 = .ok (.if_icmp .eq 9, 3) := by decide +kernel
theorem dX12_mark_49 : decode cX12_mark 49 = .ok (.aload_n 0, 1) := by decide +kernel
theorem dX12_mark_50 : decode cX12_mark 50 = .ok (.iconst 3, 1) := by decide +kernel
theorem dX12_mark_51 : decode cX12_mark 51 = .ok (.invokevirtual 123, 3) := by decide +kernel
theorem dX12_mark_54 : decode cX12_mark 54 = .ok (.ireturn, 1) := by decide +kernel
theorem dX12_mark_55 : decode cX12_mark 55 = .ok (.iload_n 2, 1) := by decide +kernel
theorem dX12_mark_56 : decode cX12_mark 56 = .ok (.iconst 1, 1) := by decide +kernel
theorem dX12_mark_57 : decode cX12_mark 57 = .ok (.if_icmp .ne 12, 3) := by decide +kernel
theorem dX12_mark_60 : decode cX12_mark 60 = .ok (.aload_n 0, 1) := by decide +kernel
theorem dX12_mark_61 : decode cX12_mark 61 = .ok (.getfield 36, 3) := by decide +kernel
theorem dX12_mark_64 : decode cX12_mark 64 = .ok (.iload_n 1, 1) := by decide +kernel
theorem dX12_mark_65 : decode cX12_mark 65 = .ok (.iaload, 1) := by decide +kernel
theorem dX12_mark_66 : decode cX12_mark 66 = .ok (.goto 30, 3) := by decide +kernel
theorem dX12_mark_69 : decode cX12_mark 69 = .ok (.iload_n 2, 1) := by decide +kernel
theorem dX12_mark_70 : decode cX12_mark 70 = .ok (.iconst 2, 1) := by decide +kernel
theorem dX12_mark_71 : decode cX12_mark 71 = .ok (.if_icmp .ne 19, 3) := by decide +kernel
theorem dX12_mark_74 : decode cX12_mark 74 = .ok (.aload_n 0, 1) := by decide +kernel
theorem dX12_mark_75 : decode cX12_mark 75 = .ok (.getfield 36, 3) := by decide +kernel
theorem dX12_mark_78 : decode cX12_mark 78 = .ok (.iload_n 1, 1) := by decide +kernel
theorem dX12_mark_79 : decode cX12_mark 79 = .ok (.iaload, 1) := by decide +kernel
theorem dX12_mark_80 : decode cX12_mark 80 = .ok (.aload_n 0, 1) := by decide +kernel
theorem dX12_mark_81 : decode cX12_mark 81 = .ok (.getfield 33, 3) := by decide +kernel
theorem dX12_mark_84 : decode cX12_mark 84 = .ok (.iload_n 1, 1) := by decide +kernel
theorem dX12_mark_85 : decode cX12_mark 85 = .ok (.iaload, 1) := by decide +kernel
theorem dX12_mark_86 : decode cX12_mark 86 = .ok (.isub, 1) := by decide +kernel
theorem dX12_mark_87 : decode cX12_mark 87 = .ok (.goto 9, 3) := by decide +kernel
theorem dX12_mark_90 : decode cX12_mark 90 = .ok (.aload_n 0, 1) := by decide +kernel
theorem dX12_mark_91 : decode cX12_mark 91 = .ok (.getfield 39, 3) := by decide +kernel
theorem dX12_mark_94 : decode cX12_mark 94 = .ok (.iload_n 1, 1) := by decide +kernel
theorem dX12_mark_95 : decode cX12_mark 95 = .ok (.iaload, 1) := by decide +kernel
theorem dX12_mark_96 : decode cX12_mark 96 = .ok (.ireturn, 1) := by decide +kernel
theorem dX12_orders_0 : decode cX12_orders 0 = .ok (.aload_n 0, 1) := by decide +kernel
theorem dX12_orders_1 : decode cX12_orders 1 = .ok (.getfield 30, 3) := by decide +kernel
theorem dX12_orders_4 : decode cX12_orders 4 = .ok (.iload_n 1, 1) := by decide +kernel
theorem dX12_orders_5 : decode cX12_orders 5 = .ok (.iaload, 1) := by decide +kernel
theorem dX12_orders_6 : decode cX12_orders 6 = .ok (.tableswitch 88 1 3 #[26, 38, 64], 26) := by decide +kernel
theorem dX12_orders_32 : decode cX12_orders 32 = .ok (.aload_n 0, 1) := by decide +kernel
theorem dX12_orders_33 : decode cX12_orders 33 = .ok (.getfield 36, 3) := by decide +kernel
theorem dX12_orders_36 : decode cX12_orders 36 = .ok (.iload_n 1, 1) := by decide +kernel
theorem dX12_orders_37 : decode cX12_orders 37 = .ok (.iaload, 1) := by decide +kernel
theorem dX12_orders_38 : decode cX12_orders 38 = .ok (.iload_n 2, 1) := by decide +kernel
theorem dX12_orders_39 : decode cX12_orders 39 = .ok (.isub, 1) := by decide +kernel
theorem dX12_orders_40 : decode cX12_orders 40 = .ok (.istore_n 3, 1) := by decide +kernel
theorem dX12_orders_41 : decode cX12_orders 41 = .ok (.goto 91, 3) := by decide +kernel
theorem dX12_orders_44 : decode cX12_orders 44 = .ok (.iload_n 2, 1) := by decide +kernel
theorem dX12_orders_45 : decode cX12_orders 45 = .ok (.aload_n 0, 1) := by decide +kernel
theorem dX12_orders_46 : decode cX12_orders 46 = .ok (.getfield 33, 3) := by decide +kernel
theorem dX12_orders_49 : decode cX12_orders 49 = .ok (.iload_n 1, 1) := by decide +kernel
theorem dX12_orders_50 : decode cX12_orders 50 = .ok (.iaload, 1) := by decide +kernel
theorem dX12_orders_51 : decode cX12_orders 51 = .ok (.if_icmp .gt 14, 3) := by decide +kernel
theorem dX12_orders_54 : decode cX12_orders 54 = .ok (.aload_n 0, 1) := by decide +kernel
theorem dX12_orders_55 : decode cX12_orders 55 = .ok (.getfield 36, 3) := by decide +kernel
theorem dX12_orders_58 : decode cX12_orders 58 = .ok (.iload_n 1, 1) := by decide +kernel
theorem dX12_orders_59 : decode cX12_orders 59 = .ok (.iaload, 1) := by decide +kernel
theorem dX12_orders_60 : decode cX12_orders 60 = .ok (.iload_n 2, 1) := by decide +kernel
theorem dX12_orders_61 : decode cX12_orders 61 = .ok (.isub, 1) := by decide +kernel
theorem dX12_orders_62 : decode cX12_orders 62 = .ok (.goto 4, 3) := by decide +kernel
theorem dX12_orders_65 : decode cX12_orders 65 = .ok (.iconst 0, 1) := by decide +kernel
theorem dX12_orders_66 : decode cX12_orders 66 = .ok (.istore_n 3, 1) := by decide +kernel
theorem dX12_orders_67 : decode cX12_orders 67 = .ok (.goto 65, 3) := by decide +kernel
theorem dX12_orders_70 : decode cX12_orders 70 = .ok (.iload_n 2, 1) := by decide +kernel
theorem dX12_orders_71 : decode cX12_orders 71 = .ok (.aload_n 0, 1) := by decide +kernel
theorem dX12_orders_72 : decode cX12_orders 72 = .ok (.getfield 33, 3) := by decide +kernel
theorem dX12_orders_75 : decode cX12_orders 75 = .ok (.iload_n 1, 1) := by decide +kernel
theorem dX12_orders_76 : decode cX12_orders 76 = .ok (.iaload, 1) := by decide +kernel
theorem dX12_orders_77 : decode cX12_orders 77 = .ok (.if_icmp .gt 12, 3) := by decide +kernel
theorem dX12_orders_80 : decode cX12_orders 80 = .ok (.aload_n 0, 1) := by decide +kernel
theorem dX12_orders_81 : decode cX12_orders 81 = .ok (.getfield 39, 3) := by decide +kernel
theorem dX12_orders_84 : decode cX12_orders 84 = .ok (.iload_n 1, 1) := by decide +kernel
theorem dX12_orders_85 : decode cX12_orders 85 = .ok (.iaload, 1) := by decide +kernel
theorem dX12_orders_86 : decode cX12_orders 86 = .ok (.goto 4, 3) := by decide +kernel
theorem dX12_orders_89 : decode cX12_orders 89 = .ok (.iconst 0, 1) := by decide +kernel
theorem dX12_orders_90 : decode cX12_orders 90 = .ok (.istore_n 3, 1) := by decide +kernel
theorem dX12_orders_91 : decode cX12_orders 91 = .ok (.goto 41, 3) := by decide +kernel
theorem dX12_orders_94 : decode cX12_orders 94 = .ok (.iload_n 2, 1) := by decide +kernel
theorem dX12_orders_95 : decode cX12_orders 95 = .ok (.bipush 12, 2) := by decide +kernel
theorem dX12_orders_97 : decode cX12_orders 97 = .ok (.iadd, 1) := by decide +kernel
theorem dX12_orders_98 : decode cX12_orders 98 = .ok (.iconst 0, 1) := by decide +kernel
theorem dX12_orders_99 : decode cX12_orders 99 = .ok (.aload_n 0, 1) := by decide +kernel
theorem dX12_orders_100 : decode cX12_orders 100 = .ok (.getfield 42, 3) := by decide +kernel
theorem dX12_orders_103 : decode cX12_orders 103 = .ok (.iload_n 1, 1) := by decide +kernel
theorem dX12_orders_104 : decode cX12_orders 104 = .ok (.iaload, 1) := by decide +kernel
theorem dX12_orders_105 : decode cX12_orders 105 = .ok (.iconst 1, 1) := by decide +kernel
theorem dX12_orders_106 : decode cX12_orders 106 = .ok (.isub, 1) := by decide +kernel
theorem dX12_orders_107 : decode cX12_orders 107 = .ok (.invokestatic 108, 3) := by decide +kernel
theorem dX12_orders_110 : decode cX12_orders 110 = .ok (.ifCond .eq 20, 3) := by decide +kernel
theorem dX12_orders_113 : decode cX12_orders 113 = .ok (.aload_n 0, 1) := by decide +kernel
theorem dX12_orders_114 : decode cX12_orders 114 = .ok (.getfield 45, 3) := by decide +kernel
theorem dX12_orders_117 : decode cX12_orders 117 = .ok (.bipush 25, 2) := by decide +kernel
theorem dX12_orders_119 : decode cX12_orders 119 = .ok (.iload_n 1, 1) := by decide +kernel
theorem dX12_orders_120 : decode cX12_orders 120 = .ok (.imul, 1) := by decide +kernel
theorem dX12_orders_121 : decode cX12_orders 121 = .ok (.iload_n 2, 1) := by decide +kernel
theorem dX12_orders_122 : decode cX12_orders 122 = .ok (.iadd, 1) := by decide +kernel
theorem dX12_orders_123 : decode cX12_orders 123 = .ok (.bipush 12, 2) := by decide +kernel
theorem dX12_orders_125 : decode cX12_orders 125 = .ok (.iadd, 1) := by decide +kernel
theorem dX12_orders_126 : decode cX12_orders 126 = .ok (.baload, 1) := by decide +kernel
theorem dX12_orders_127 : decode cX12_orders 127 = .ok (.goto 4, 3) := by decide +kernel
theorem dX12_orders_130 : decode cX12_orders 130 = .ok (.iconst 0, 1) := by decide +kernel
theorem dX12_orders_131 : decode cX12_orders 131 = .ok (.istore_n 3, 1) := by decide +kernel
theorem dX12_orders_132 : decode cX12_orders 132 = .ok (.iload_n 3, 1) := by decide +kernel
theorem dX12_orders_133 : decode cX12_orders 133 = .ok (.ifCond .ge 7, 3) := by decide +kernel
theorem dX12_orders_136 : decode cX12_orders 136 = .ok (.iconst 0, 1) := by decide +kernel
theorem dX12_orders_137 : decode cX12_orders 137 = .ok (.goto 15, 3) := by decide +kernel
theorem dX12_orders_140 : decode cX12_orders 140 = .ok (.iload_n 3, 1) := by decide +kernel
theorem dX12_orders_141 : decode cX12_orders 141 = .ok (.bipush 12, 2) := by decide +kernel
theorem dX12_orders_143 : decode cX12_orders 143 = .ok (.if_icmp .le 8, 3) := by decide +kernel
theorem dX12_orders_146 : decode cX12_orders 146 = .ok (.bipush 12, 2) := by decide +kernel
theorem dX12_orders_148 : decode cX12_orders 148 = .ok (.goto 4, 3) := by decide +kernel
theorem dX12_orders_151 : decode cX12_orders 151 = .ok (.iload_n 3, 1) := by decide +kernel
theorem dX12_orders_152 : decode cX12_orders 152 = .ok (.ireturn, 1) := by decide +kernel
theorem dX12_order_0 : decode cX12_order 0 = .ok (.aload_n 0, 1) := by decide +kernel
theorem dX12_order_1 : decode cX12_order 1 = .ok (.iload_n 2, 1) := by decide +kernel
theorem dX12_order_2 : decode cX12_order 2 = .ok (.bipush (-12), 2) := by decide +kernel
theorem dX12_order_4 : decode cX12_order 4 = .ok (.bipush 36, 2) := by decide +kernel
theorem dX12_order_6 : decode cX12_order 6 = .ok (.invokestatic 108, 3) := by decide +kernel
theorem dX12_order_9 : decode cX12_order 9 = .ok (.iload_n 1, 1) := by decide +kernel
theorem dX12_order_10 : decode cX12_order 10 = .ok (.invokevirtual 142, 3) := by decide +kernel
theorem dX12_order_13 : decode cX12_order 13 = .ok (.istore_n 3, 1) := by decide +kernel
theorem dX12_order_14 : decode cX12_order 14 = .ok (.iload_n 3, 1) := by decide +kernel
theorem dX12_order_15 : decode cX12_order 15 = .ok (.ifCond .ge 7, 3) := by decide +kernel
theorem dX12_order_18 : decode cX12_order 18 = .ok (.iload_n 3, 1) := by decide +kernel
theorem dX12_order_19 : decode cX12_order 19 = .ok (.goto 9, 3) := by decide +kernel
theorem dX12_order_22 : decode cX12_order 22 = .ok (.aload_n 0, 1) := by decide +kernel
theorem dX12_order_23 : decode cX12_order 23 = .ok (.iload_n 1, 1) := by decide +kernel
theorem dX12_order_24 : decode cX12_order 24 = .ok (.iload_n 2, 1) := by decide +kernel
theorem dX12_order_25 : decode cX12_order 25 = .ok (.invokevirtual 150, 3) := by decide +kernel
theorem dX12_order_28 : decode cX12_order 28 = .ok (.ireturn, 1) := by decide +kernel
end
section
theorem dX12_shop_0 : decode cX12_shop 0 = .ok (.iload_n 1, 1) := by decide +kernel
theorem dX12_shop_1 : decode cX12_shop 1 = .ok (.iconst 1, 1) := by decide +kernel
theorem dX12_shop_2 : decode cX12_shop 2 = .ok (.bipush 12, 2) := by decide +kernel
theorem dX12_shop_4 : decode cX12_shop 4 = .ok (.invokestatic 108, 3) := by decide +kernel
theorem dX12_shop_7 : decode cX12_shop 7 = .ok (.ifCond .eq 12, 3) := by decide +kernel
theorem dX12_shop_10 : decode cX12_shop 10 = .ok (.iload_n 2, 1) := by decide +kernel
theorem dX12_shop_11 : decode cX12_shop 11 = .ok (.iconst 0, 1) := by decide +kernel
theorem dX12_shop_12 : decode cX12_shop 12 = .ok (.iconst 2, 1) := by decide +kernel
theorem dX12_shop_13 : decode cX12_shop 13 = .ok (.invokestatic 108, 3) := by decide +kernel
theorem dX12_shop_16 : decode cX12_shop 16 = .ok (.ifCond .ne 5, 3) := by decide +kernel
theorem dX12_shop_19 : decode cX12_shop 19 = .ok (.iconst (-1), 1) := by decide +kernel
theorem dX12_shop_20 : decode cX12_shop 20 = .ok (.ireturn, 1) := by decide +kernel
theorem dX12_shop_21 : decode cX12_shop 21 = .ok (.aload_n 0, 1) := by decide +kernel
theorem dX12_shop_22 : decode cX12_shop 22 = .ok (.iload_n 1, 1) := by decide +kernel
theorem dX12_shop_23 : decode cX12_shop 23 = .ok (.putfield 83, 3) := by decide +kernel
theorem dX12_shop_26 : decode cX12_shop 26 = .ok (.aload_n 0, 1) := by decide +kernel
theorem dX12_shop_27 : decode cX12_shop 27 = .ok (.iload_n 2, 1) := by decide +kernel
theorem dX12_shop_28 : decode cX12_shop 28 = .ok (.putfield 153, 3) := by decide +kernel
theorem dX12_shop_31 : decode cX12_shop 31 = .ok (.aload_n 0, 1) := by decide +kernel
theorem dX12_shop_32 : decode cX12_shop 32 = .ok (.iload_n 3, 1) := by decide +kernel
theorem dX12_shop_33 : decode cX12_shop 33 = .ok (.putfield 156, 3) := by decide +kernel
theorem dX12_shop_36 : decode cX12_shop 36 = .ok (.iconst 1, 1) := by decide +kernel
theorem dX12_shop_37 : decode cX12_shop 37 = .ok (.ireturn, 1) := by decide +kernel
theorem dX12_costs_0 : decode cX12_costs 0 = .ok (.iload_n 1, 1) := by decide +kernel
theorem dX12_costs_1 : decode cX12_costs 1 = .ok (.iconst 0, 1) := by decide +kernel
theorem dX12_costs_2 : decode cX12_costs 2 = .ok (.bipush 100, 2) := by decide +kernel
theorem dX12_costs_4 : decode cX12_costs 4 = .ok (.invokestatic 108, 3) := by decide +kernel
theorem dX12_costs_7 : decode cX12_costs 7 = .ok (.ifCond .eq 34, 3) := by decide +kernel
theorem dX12_costs_10 : decode cX12_costs 10 = .ok (.iload_n 2, 1) := by decide +kernel
theorem dX12_costs_11 : decode cX12_costs 11 = .ok (.iconst 0, 1) := by decide +kernel
theorem dX12_costs_12 : decode cX12_costs 12 = .ok (.bipush 100, 2) := by decide +kernel
theorem dX12_costs_14 : decode cX12_costs 14 = .ok (.invokestatic 108, 3) := by decide +kernel
theorem dX12_costs_17 : decode cX12_costs 17 = .ok (.ifCond .eq 24, 3) := by decide +kernel
theorem dX12_costs_20 : decode cX12_costs 20 = .ok (.iload_n 3, 1) := by decide +kernel
theorem dX12_costs_21 : decode cX12_costs 21 = .ok (.iconst 0, 1) := by decide +kernel
theorem dX12_costs_22 : decode cX12_costs 22 = .ok (.bipush 100, 2) := by decide +kernel
theorem dX12_costs_24 : decode cX12_costs 24 = .ok (.invokestatic 108, 3) := by decide +kernel
theorem dX12_costs_27 : decode cX12_costs 27 = .ok (.ifCond .eq 14, 3) := by decide +kernel
theorem dX12_costs_30 : decode cX12_costs 30 = .ok (.iload 4, 2) := by decide +kernel
theorem dX12_costs_32 : decode cX12_costs 32 = .ok (.iconst 0, 1) := by decide +kernel
theorem dX12_costs_33 : decode cX12_costs 33 = .ok (.bipush 100, 2) := by decide +kernel
theorem dX12_costs_35 : decode cX12_costs 35 = .ok (.invokestatic 108, 3) := by decide +kernel
theorem dX12_costs_38 : decode cX12_costs 38 = .ok (.ifCond .ne 5, 3) := by decide +kernel
theorem dX12_costs_41 : decode cX12_costs 41 = .ok (.iconst (-1), 1) := by decide +kernel
theorem dX12_costs_42 : decode cX12_costs 42 = .ok (.ireturn, 1) := by decide +kernel
theorem dX12_costs_43 : decode cX12_costs 43 = .ok (.aload_n 0, 1) := by decide +kernel
theorem dX12_costs_44 : decode cX12_costs 44 = .ok (.iload_n 1, 1) := by decide +kernel
theorem dX12_costs_45 : decode cX12_costs 45 = .ok (.putfield 87, 3) := by decide +kernel
theorem dX12_costs_48 : decode cX12_costs 48 = .ok (.aload_n 0, 1) := by decide +kernel
theorem dX12_costs_49 : decode cX12_costs 49 = .ok (.iload_n 2, 1) := by decide +kernel
theorem dX12_costs_50 : decode cX12_costs 50 = .ok (.putfield 90, 3) := by decide +kernel
theorem dX12_costs_53 : decode cX12_costs 53 = .ok (.aload_n 0, 1) := by decide +kernel
theorem dX12_costs_54 : decode cX12_costs 54 = .ok (.iload_n 3, 1) := by decide +kernel
theorem dX12_costs_55 : decode cX12_costs 55 = .ok (.putfield 93, 3) := by decide +kernel
theorem dX12_costs_58 : decode cX12_costs 58 = .ok (.aload_n 0, 1) := by decide +kernel
theorem dX12_costs_59 : decode cX12_costs 59 = .ok (.iload 4, 2) := by decide +kernel
theorem dX12_costs_61 : decode cX12_costs 61 = .ok (.putfield 96, 3) := by decide +kernel
theorem dX12_costs_64 : decode cX12_costs 64 = .ok (.iconst 1, 1) := by decide +kernel
theorem dX12_costs_65 : decode cX12_costs 65 = .ok (.ireturn, 1) := by decide +kernel
theorem dX12_day_0 : decode cX12_day 0 = .ok (.aload_n 0, 1) := by decide +kernel
theorem dX12_day_1 : decode cX12_day 1 = .ok (.getfield 153, 3) := by decide +kernel
theorem dX12_day_4 : decode cX12_day 4 = .ok (.ifCond .ne 8, 3) := by decide +kernel
theorem dX12_day_7 : decode cX12_day 7 = .ok (.iload 4, 2) := by decide +kernel
theorem dX12_day_9 : decode cX12_day 9 = .ok (.goto 4, 3) := by decide +kernel
theorem dX12_day_12 : decode cX12_day 12 = .ok (.iload_n 2, 1) := by decide +kernel
theorem dX12_day_13 : decode cX12_day 13 = .ok (.istore 6, 2) := by decide +kernel
theorem dX12_day_15 : decode cX12_day 15 = .ok (.aload_n 0, 1) := by decide +kernel
theorem dX12_day_16 : decode cX12_day 16 = .ok (.aload_n 0, 1) := by decide +kernel
theorem dX12_day_17 : decode cX12_day 17 = .ok (.getfield 153, 3) := by decide +kernel
theorem dX12_day_20 : decode cX12_day 20 = .ok (.ifCond .ne 7, 3) := by decide +kernel
theorem dX12_day_23 : decode cX12_day 23 = .ok (.iconst 0, 1) := by decide +kernel
theorem dX12_day_24 : decode cX12_day 24 = .ok (.goto 17, 3) := by decide +kernel
theorem dX12_day_27 : decode cX12_day 27 = .ok (.aload_n 0, 1) := by decide +kernel
theorem dX12_day_28 : decode cX12_day 28 = .ok (.getfield 153, 3) := by decide +kernel
theorem dX12_day_31 : decode cX12_day 31 = .ok (.iconst 1, 1) := by decide +kernel
theorem dX12_day_32 : decode cX12_day 32 = .ok (.if_icmp .ne 8, 3) := by decide +kernel
theorem dX12_day_35 : decode cX12_day 35 = .ok (.iload 4, 2) := by decide +kernel
theorem dX12_day_37 : decode cX12_day 37 = .ok (.goto 4, 3) := by decide +kernel
theorem dX12_day_40 : decode cX12_day 40 = .ok (.iload_n 3, 1) := by decide +kernel
theorem dX12_day_41 : decode cX12_day 41 = .ok (.putfield 160, 3) := by decide +kernel
theorem dX12_day_44 : decode cX12_day 44 = .ok (.aload_n 0, 1) := by decide +kernel
theorem dX12_day_45 : decode cX12_day 45 = .ok (.aload_n 0, 1) := by decide +kernel
theorem dX12_day_46 : decode cX12_day 46 = .ok (.getfield 153, 3) := by decide +kernel
theorem dX12_day_49 : decode cX12_day 49 = .ok (.iconst 2, 1) := by decide +kernel
theorem dX12_day_50 : decode cX12_day 50 = .ok (.if_icmp .ne 8, 3) := by decide +kernel
theorem dX12_day_53 : decode cX12_day 53 = .ok (.iload 4, 2) := by decide +kernel
theorem dX12_day_55 : decode cX12_day 55 = .ok (.goto 4, 3) := by decide +kernel
theorem dX12_day_58 : decode cX12_day 58 = .ok (.iconst 0, 1) := by decide +kernel
theorem dX12_day_59 : decode cX12_day 59 = .ok (.putfield 163, 3) := by decide +kernel
theorem dX12_day_62 : decode cX12_day 62 = .ok (.iload_n 1, 1) := by decide +kernel
theorem dX12_day_63 : decode cX12_day 63 = .ok (.iload 6, 2) := by decide +kernel
theorem dX12_day_65 : decode cX12_day 65 = .ok (.iadd, 1) := by decide +kernel
theorem dX12_day_66 : decode cX12_day 66 = .ok (.aload_n 0, 1) := by decide +kernel
theorem dX12_day_67 : decode cX12_day 67 = .ok (.getfield 83, 3) := by decide +kernel
theorem dX12_day_70 : decode cX12_day 70 = .ok (.if_icmp .le 10, 3) := by decide +kernel
theorem dX12_day_73 : decode cX12_day 73 = .ok (.aload_n 0, 1) := by decide +kernel
theorem dX12_day_74 : decode cX12_day 74 = .ok (.getfield 83, 3) := by decide +kernel
theorem dX12_day_77 : decode cX12_day 77 = .ok (.goto 7, 3) := by decide +kernel
theorem dX12_day_80 : decode cX12_day 80 = .ok (.iload_n 1, 1) := by decide +kernel
theorem dX12_day_81 : decode cX12_day 81 = .ok (.iload 6, 2) := by decide +kernel
theorem dX12_day_83 : decode cX12_day 83 = .ok (.iadd, 1) := by decide +kernel
theorem dX12_day_84 : decode cX12_day 84 = .ok (.istore 7, 2) := by decide +kernel
theorem dX12_day_86 : decode cX12_day 86 = .ok (.iload 7, 2) := by decide +kernel
theorem dX12_day_88 : decode cX12_day 88 = .ok (.ifCond .le 8, 3) := by decide +kernel
theorem dX12_day_91 : decode cX12_day 91 = .ok (.iload 7, 2) := by decide +kernel
theorem dX12_day_93 : decode cX12_day 93 = .ok (.goto 4, 3) := by decide +kernel
theorem dX12_day_96 : decode cX12_day 96 = .ok (.iconst 0, 1) := by decide +kernel
theorem dX12_day_97 : decode cX12_day 97 = .ok (.istore 8, 2) := by decide +kernel
theorem dX12_day_99 : decode cX12_day 99 = .ok (.aload_n 0, 1) := by decide +kernel
theorem dX12_day_100 : decode cX12_day 100 = .ok (.iload 5, 2) := by decide +kernel
theorem dX12_day_102 : decode cX12_day 102 = .ok (.iload 8, 2) := by decide +kernel
theorem dX12_day_104 : decode cX12_day 104 = .ok (.if_icmp .ge 8, 3) := by decide +kernel
theorem dX12_day_107 : decode cX12_day 107 = .ok (.iload 5, 2) := by decide +kernel
theorem dX12_day_109 : decode cX12_day 109 = .ok (.goto 5, 3) := by decide +kernel
theorem dX12_day_112 : decode cX12_day 112 = .ok (.iload 8, 2) := by decide +kernel
theorem dX12_day_114 : decode cX12_day 114 = .ok (.putfield 166, 3) := by decide +kernel
theorem dX12_day_117 : decode cX12_day 117 = .ok (.aload_n 0, 1) := by decide +kernel
theorem dX12_day_118 : decode cX12_day 118 = .ok (.iload 5, 2) := by decide +kernel
theorem dX12_day_120 : decode cX12_day 120 = .ok (.aload_n 0, 1) := by decide +kernel
theorem dX12_day_121 : decode cX12_day 121 = .ok (.getfield 166, 3) := by decide +kernel
theorem dX12_day_124 : decode cX12_day 124 = .ok (.isub, 1) := by decide +kernel
theorem dX12_day_125 : decode cX12_day 125 = .ok (.putfield 169, 3) := by decide +kernel
theorem dX12_day_128 : decode cX12_day 128 = .ok (.iload 7, 2) := by decide +kernel
theorem dX12_day_130 : decode cX12_day 130 = .ok (.iload 5, 2) := by decide +kernel
theorem dX12_day_132 : decode cX12_day 132 = .ok (.isub, 1) := by decide +kernel
theorem dX12_day_133 : decode cX12_day 133 = .ok (.istore 7, 2) := by decide +kernel
theorem dX12_day_135 : decode cX12_day 135 = .ok (.aload_n 0, 1) := by decide +kernel
theorem dX12_day_136 : decode cX12_day 136 = .ok (.getfield 156, 3) := by decide +kernel
theorem dX12_day_139 : decode cX12_day 139 = .ok (.ifCond .eq 8, 3) := by decide +kernel
theorem dX12_day_142 : decode cX12_day 142 = .ok (.bipush (-12), 2) := by decide +kernel
theorem dX12_day_144 : decode cX12_day 144 = .ok (.goto 4, 3) := by decide +kernel
theorem dX12_day_147 : decode cX12_day 147 = .ok (.iconst 0, 1) := by decide +kernel
theorem dX12_day_148 : decode cX12_day 148 = .ok (.istore 9, 2) := by decide +kernel
theorem dX12_day_150 : decode cX12_day 150 = .ok (.aload_n 0, 1) := by decide +kernel
theorem dX12_day_151 : decode cX12_day 151 = .ok (.iload 7, 2) := by decide +kernel
theorem dX12_day_153 : decode cX12_day 153 = .ok (.iload 9, 2) := by decide +kernel
theorem dX12_day_155 : decode cX12_day 155 = .ok (.if_icmp .ge 8, 3) := by decide +kernel
theorem dX12_day_158 : decode cX12_day 158 = .ok (.iload 9, 2) := by decide +kernel
theorem dX12_day_160 : decode cX12_day 160 = .ok (.goto 5, 3) := by decide +kernel
theorem dX12_day_163 : decode cX12_day 163 = .ok (.iload 7, 2) := by decide +kernel
theorem dX12_day_165 : decode cX12_day 165 = .ok (.putfield 172, 3) := by decide +kernel
theorem dX12_day_168 : decode cX12_day 168 = .ok (.aload_n 0, 1) := by decide +kernel
theorem dX12_day_169 : decode cX12_day 169 = .ok (.iload 4, 2) := by decide +kernel
theorem dX12_day_171 : decode cX12_day 171 = .ok (.ifCond .le 10, 3) := by decide +kernel
theorem dX12_day_174 : decode cX12_day 174 = .ok (.aload_n 0, 1) := by decide +kernel
theorem dX12_day_175 : decode cX12_day 175 = .ok (.getfield 87, 3) := by decide +kernel
theorem dX12_day_178 : decode cX12_day 178 = .ok (.goto 4, 3) := by decide +kernel
theorem dX12_day_181 : decode cX12_day 181 = .ok (.iconst 0, 1) := by decide +kernel
theorem dX12_day_182 : decode cX12_day 182 = .ok (.aload_n 0, 1) := by decide +kernel
theorem dX12_day_183 : decode cX12_day 183 = .ok (.getfield 90, 3) := by decide +kernel
theorem dX12_day_186 : decode cX12_day 186 = .ok (.iload 4, 2) := by decide +kernel
theorem dX12_day_188 : decode cX12_day 188 = .ok (.imul, 1) := by decide +kernel
theorem dX12_day_189 : decode cX12_day 189 = .ok (.iadd, 1) := by decide +kernel
theorem dX12_day_190 : decode cX12_day 190 = .ok (.aload_n 0, 1) := by decide +kernel
theorem dX12_day_191 : decode cX12_day 191 = .ok (.getfield 93, 3) := by decide +kernel
theorem dX12_day_194 : decode cX12_day 194 = .ok (.aload_n 0, 1) := by decide +kernel
theorem dX12_day_195 : decode cX12_day 195 = .ok (.getfield 172, 3) := by decide +kernel
theorem dX12_day_198 : decode cX12_day 198 = .ok (.ifCond .le 10, 3) := by decide +kernel
theorem dX12_day_201 : decode cX12_day 201 = .ok (.aload_n 0, 1) := by decide +kernel
theorem dX12_day_202 : decode cX12_day 202 = .ok (.getfield 172, 3) := by decide +kernel
theorem dX12_day_205 : decode cX12_day 205 = .ok (.goto 4, 3) := by decide +kernel
theorem dX12_day_208 : decode cX12_day 208 = .ok (.iconst 0, 1) := by decide +kernel
theorem dX12_day_209 : decode cX12_day 209 = .ok (.imul, 1) := by decide +kernel
theorem dX12_day_210 : decode cX12_day 210 = .ok (.iadd, 1) := by decide +kernel
theorem dX12_day_211 : decode cX12_day 211 = .ok (.aload_n 0, 1) := by decide +kernel
theorem dX12_day_212 : decode cX12_day 212 = .ok (.getfield 96, 3) := by decide +kernel
theorem dX12_day_215 : decode cX12_day 215 = .ok (.aload_n 0, 1) := by decide +kernel
theorem dX12_day_216 : decode cX12_day 216 = .ok (.getfield 169, 3) := by decide +kernel
theorem dX12_day_219 : decode cX12_day 219 = .ok (.imul, 1) := by decide +kernel
theorem dX12_day_220 : decode cX12_day 220 = .ok (.iadd, 1) := by decide +kernel
theorem dX12_day_221 : decode cX12_day 221 = .ok (.putfield 175, 3) := by decide +kernel
theorem dX12_day_224 : decode cX12_day 224 = .ok (.return_, 1) := by decide +kernel
theorem dX12_put_0 : decode cX12_put 0 = .ok (.aload_n 0, 1) := by decide +kernel
theorem dX12_put_1 : decode cX12_put 1 = .ok (.getfield 67, 3) := by decide +kernel
theorem dX12_put_4 : decode cX12_put 4 = .ok (.iload_n 1, 1) := by decide +kernel
theorem dX12_put_5 : decode cX12_put 5 = .ok (.iaload, 1) := by decide +kernel
theorem dX12_put_6 : decode cX12_put 6 = .ok (.aload_n 0, 1) := by decide +kernel
theorem dX12_put_7 : decode cX12_put 7 = .ok (.getfield 178, 3) := by decide +kernel
theorem dX12_put_10 : decode cX12_put 10 = .ok (.if_icmp .eq 53, 3) := by decide +kernel
theorem dX12_put_13 : decode cX12_put 13 = .ok (.aload_n 0, 1) := by decide +kernel
theorem dX12_put_14 : decode cX12_put 14 = .ok (.getfield 67, 3) := by decide +kernel
theorem dX12_put_17 : decode cX12_put 17 = .ok (.iload_n 1, 1) := by decide +kernel
theorem dX12_put_18 : decode cX12_put 18 = .ok (.aload_n 0, 1) := by decide +kernel
theorem dX12_put_19 : decode cX12_put 19 = .ok (.getfield 178, 3) := by decide +kernel
theorem dX12_put_22 : decode cX12_put 22 = .ok (.iastore, 1) := by decide +kernel
theorem dX12_put_23 : decode cX12_put 23 = .ok (.aload_n 0, 1) := by decide +kernel
theorem dX12_put_24 : decode cX12_put 24 = .ok (.getfield 64, 3) := by decide +kernel
theorem dX12_put_27 : decode cX12_put 27 = .ok (.iload_n 1, 1) := by decide +kernel
theorem dX12_put_28 : decode cX12_put 28 = .ok (.aload_n 0, 1) := by decide +kernel
theorem dX12_put_29 : decode cX12_put 29 = .ok (.getfield 181, 3) := by decide +kernel
theorem dX12_put_32 : decode cX12_put 32 = .ok (.iastore, 1) := by decide +kernel
theorem dX12_put_33 : decode cX12_put 33 = .ok (.aload_n 0, 1) := by decide +kernel
theorem dX12_put_34 : decode cX12_put 34 = .ok (.getfield 58, 3) := by decide +kernel
theorem dX12_put_37 : decode cX12_put 37 = .ok (.aload_n 0, 1) := by decide +kernel
theorem dX12_put_38 : decode cX12_put 38 = .ok (.getfield 181, 3) := by decide +kernel
theorem dX12_put_41 : decode cX12_put 41 = .ok (.iload_n 1, 1) := by decide +kernel
theorem dX12_put_42 : decode cX12_put 42 = .ok (.iastore, 1) := by decide +kernel
theorem dX12_put_43 : decode cX12_put 43 = .ok (.aload_n 0, 1) := by decide +kernel
theorem dX12_put_44 : decode cX12_put 44 = .ok (.getfield 61, 3) := by decide +kernel
theorem dX12_put_47 : decode cX12_put 47 = .ok (.aload_n 0, 1) := by decide +kernel
theorem dX12_put_48 : decode cX12_put 48 = .ok (.getfield 181, 3) := by decide +kernel
theorem dX12_put_51 : decode cX12_put 51 = .ok (.lconst 0, 1) := by decide +kernel
theorem dX12_put_52 : decode cX12_put 52 = .ok (.lastore, 1) := by decide +kernel
theorem dX12_put_53 : decode cX12_put 53 = .ok (.aload_n 0, 1) := by decide +kernel
theorem dX12_put_54 : decode cX12_put 54 = .ok (.dup, 1) := by decide +kernel
theorem dX12_put_55 : decode cX12_put 55 = .ok (.getfield 181, 3) := by decide +kernel
theorem dX12_put_58 : decode cX12_put 58 = .ok (.iconst 1, 1) := by decide +kernel
theorem dX12_put_59 : decode cX12_put 59 = .ok (.iadd, 1) := by decide +kernel
theorem dX12_put_60 : decode cX12_put 60 = .ok (.putfield 181, 3) := by decide +kernel
theorem dX12_put_63 : decode cX12_put 63 = .ok (.aload_n 0, 1) := by decide +kernel
theorem dX12_put_64 : decode cX12_put 64 = .ok (.getfield 61, 3) := by decide +kernel
theorem dX12_put_67 : decode cX12_put 67 = .ok (.aload_n 0, 1) := by decide +kernel
theorem dX12_put_68 : decode cX12_put 68 = .ok (.getfield 64, 3) := by decide +kernel
theorem dX12_put_71 : decode cX12_put 71 = .ok (.iload_n 1, 1) := by decide +kernel
theorem dX12_put_72 : decode cX12_put 72 = .ok (.iaload, 1) := by decide +kernel
theorem dX12_put_73 : decode cX12_put 73 = .ok (.dup2, 1) := by decide +kernel
theorem dX12_put_74 : decode cX12_put 74 = .ok (.laload, 1) := by decide +kernel
theorem dX12_put_75 : decode cX12_put 75 = .ok (.lload_n 2, 1) := by decide +kernel
theorem dX12_put_76 : decode cX12_put 76 = .ok (.ladd, 1) := by decide +kernel
theorem dX12_put_77 : decode cX12_put 77 = .ok (.lastore, 1) := by decide +kernel
theorem dX12_put_78 : decode cX12_put 78 = .ok (.return_, 1) := by decide +kernel
theorem dX12_stateOf_0 : decode cX12_stateOf 0 = .ok (.sipush 625, 3) := by decide +kernel
theorem dX12_stateOf_3 : decode cX12_stateOf 3 = .ok (.iload_n 0, 1) := by decide +kernel
theorem dX12_stateOf_4 : decode cX12_stateOf 4 = .ok (.bipush 12, 2) := by decide +kernel
theorem dX12_stateOf_6 : decode cX12_stateOf 6 = .ok (.iadd, 1) := by decide +kernel
theorem dX12_stateOf_7 : decode cX12_stateOf 7 = .ok (.imul, 1) := by decide +kernel
theorem dX12_stateOf_8 : decode cX12_stateOf 8 = .ok (.bipush 25, 2) := by decide +kernel
theorem dX12_stateOf_10 : decode cX12_stateOf 10 = .ok (.iload_n 1, 1) := by decide +kernel
theorem dX12_stateOf_11 : decode cX12_stateOf 11 = .ok (.imul, 1) := by decide +kernel
theorem dX12_stateOf_12 : decode cX12_stateOf 12 = .ok (.iadd, 1) := by decide +kernel
theorem dX12_stateOf_13 : decode cX12_stateOf 13 = .ok (.iload_n 2, 1) := by decide +kernel
theorem dX12_stateOf_14 : decode cX12_stateOf 14 = .ok (.iadd, 1) := by decide +kernel
theorem dX12_stateOf_15 : decode cX12_stateOf 15 = .ok (.ireturn, 1) := by decide +kernel
theorem dX12_goThrough_0 : decode cX12_goThrough 0 = .ok (.aload_n 0, 1) := by decide +kernel
theorem dX12_goThrough_1 : decode cX12_goThrough 1 = .ok (.iload_n 2, 1) := by decide +kernel
theorem dX12_goThrough_2 : decode cX12_goThrough 2 = .ok (.invokevirtual 129, 3) := by decide +kernel
theorem dX12_goThrough_5 : decode cX12_goThrough 5 = .ok (.i2l, 1) := by decide +kernel
theorem dX12_goThrough_6 : decode cX12_goThrough 6 = .ok (.lstore 6, 2) := by decide +kernel
theorem dX12_goThrough_8 : decode cX12_goThrough 8 = .ok (.aload_n 0, 1) := by decide +kernel
theorem dX12_goThrough_9 : decode cX12_goThrough 9 = .ok (.lconst 0, 1) := by decide +kernel
theorem dX12_goThrough_10 : decode cX12_goThrough 10 = .ok (.putfield 184, 3) := by decide +kernel
theorem dX12_goThrough_13 : decode cX12_goThrough 13 = .ok (.aload_n 0, 1) := by decide +kernel
theorem dX12_goThrough_14 : decode cX12_goThrough 14 = .ok (.lconst 0, 1) := by decide +kernel
theorem dX12_goThrough_15 : decode cX12_goThrough 15 = .ok (.putfield 187, 3) := by decide +kernel
theorem dX12_goThrough_18 : decode cX12_goThrough 18 = .ok (.aload_n 0, 1) := by decide +kernel
theorem dX12_goThrough_19 : decode cX12_goThrough 19 = .ok (.lconst 0, 1) := by decide +kernel
theorem dX12_goThrough_20 : decode cX12_goThrough 20 = .ok (.putfield 190, 3) := by decide +kernel
theorem dX12_goThrough_23 : decode cX12_goThrough 23 = .ok (.aload_n 0, 1) := by decide +kernel
theorem dX12_goThrough_24 : decode cX12_goThrough 24 = .ok (.lconst 0, 1) := by decide +kernel
theorem dX12_goThrough_25 : decode cX12_goThrough 25 = .ok (.putfield 193, 3) := by decide +kernel
theorem dX12_goThrough_28 : decode cX12_goThrough 28 = .ok (.aload_n 0, 1) := by decide +kernel
theorem dX12_goThrough_29 : decode cX12_goThrough 29 = .ok (.lconst 1, 1) := by decide +kernel
theorem dX12_goThrough_30 : decode cX12_goThrough 30 = .ok (.putfield 196, 3) := by decide +kernel
theorem dX12_goThrough_33 : decode cX12_goThrough 33 = .ok (.aload_n 0, 1) := by decide +kernel
theorem dX12_goThrough_34 : decode cX12_goThrough 34 = .ok (.getfield 51, 3) := by decide +kernel
theorem dX12_goThrough_37 : decode cX12_goThrough 37 = .ok (.iconst 0, 1) := by decide +kernel
theorem dX12_goThrough_38 : decode cX12_goThrough 38 = .ok (.iload_n 3, 1) := by decide +kernel
theorem dX12_goThrough_39 : decode cX12_goThrough 39 = .ok (.iconst 0, 1) := by decide +kernel
theorem dX12_goThrough_40 : decode cX12_goThrough 40 = .ok (.iconst 0, 1) := by decide +kernel
theorem dX12_goThrough_41 : decode cX12_goThrough 41 = .ok (.invokestatic 199, 3) := by decide +kernel
theorem dX12_goThrough_44 : decode cX12_goThrough 44 = .ok (.iastore, 1) := by decide +kernel
theorem dX12_goThrough_45 : decode cX12_goThrough 45 = .ok (.aload_n 0, 1) := by decide +kernel
theorem dX12_goThrough_46 : decode cX12_goThrough 46 = .ok (.getfield 54, 3) := by decide +kernel
theorem dX12_goThrough_49 : decode cX12_goThrough 49 = .ok (.iconst 0, 1) := by decide +kernel
theorem dX12_goThrough_50 : decode cX12_goThrough 50 = .ok (.lconst 1, 1) := by decide +kernel
theorem dX12_goThrough_51 : decode cX12_goThrough 51 = .ok (.lastore, 1) := by decide +kernel
theorem dX12_goThrough_52 : decode cX12_goThrough 52 = .ok (.aload_n 0, 1) := by decide +kernel
theorem dX12_goThrough_53 : decode cX12_goThrough 53 = .ok (.iconst 1, 1) := by decide +kernel
theorem dX12_goThrough_54 : decode cX12_goThrough 54 = .ok (.putfield 203, 3) := by decide +kernel
theorem dX12_goThrough_57 : decode cX12_goThrough 57 = .ok (.iconst 0, 1) := by decide +kernel
theorem dX12_goThrough_58 : decode cX12_goThrough 58 = .ok (.istore 8, 2) := by decide +kernel
theorem dX12_goThrough_60 : decode cX12_goThrough 60 = .ok (.iload 8, 2) := by decide +kernel
theorem dX12_goThrough_62 : decode cX12_goThrough 62 = .ok (.iload 4, 2) := by decide +kernel
theorem dX12_goThrough_64 : decode cX12_goThrough 64 = .ok (.if_icmp .ge 161, 3) := by decide +kernel
theorem dX12_goThrough_67 : decode cX12_goThrough 67 = .ok (.aload_n 0, 1) := by decide +kernel
theorem dX12_goThrough_68 : decode cX12_goThrough 68 = .ok (.dup, 1) := by decide +kernel
theorem dX12_goThrough_69 : decode cX12_goThrough 69 = .ok (.getfield 178, 3) := by decide +kernel
theorem dX12_goThrough_72 : decode cX12_goThrough 72 = .ok (.iconst 1, 1) := by decide +kernel
theorem dX12_goThrough_73 : decode cX12_goThrough 73 = .ok (.iadd, 1) := by decide +kernel
theorem dX12_goThrough_74 : decode cX12_goThrough 74 = .ok (.putfield 178, 3) := by decide +kernel
theorem dX12_goThrough_77 : decode cX12_goThrough 77 = .ok (.aload_n 0, 1) := by decide +kernel
theorem dX12_goThrough_78 : decode cX12_goThrough 78 = .ok (.iconst 0, 1) := by decide +kernel
theorem dX12_goThrough_79 : decode cX12_goThrough 79 = .ok (.putfield 181, 3) := by decide +kernel
theorem dX12_goThrough_82 : decode cX12_goThrough 82 = .ok (.aload_n 0, 1) := by decide +kernel
theorem dX12_goThrough_83 : decode cX12_goThrough 83 = .ok (.dup, 1) := by decide +kernel
theorem dX12_goThrough_84 : decode cX12_goThrough 84 = .ok (.getfield 184, 3) := by decide +kernel
theorem dX12_goThrough_87 : decode cX12_goThrough 87 = .ok (.lload 6, 2) := by decide +kernel
theorem dX12_goThrough_89 : decode cX12_goThrough 89 = .ok (.lmul, 1) := by decide +kernel
theorem dX12_goThrough_90 : decode cX12_goThrough 90 = .ok (.putfield 184, 3) := by decide +kernel
theorem dX12_goThrough_93 : decode cX12_goThrough 93 = .ok (.aload_n 0, 1) := by decide +kernel
theorem dX12_goThrough_94 : decode cX12_goThrough 94 = .ok (.dup, 1) := by decide +kernel
theorem dX12_goThrough_95 : decode cX12_goThrough 95 = .ok (.getfield 187, 3) := by decide +kernel
theorem dX12_goThrough_98 : decode cX12_goThrough 98 = .ok (.lload 6, 2) := by decide +kernel
theorem dX12_goThrough_100 : decode cX12_goThrough 100 = .ok (.lmul, 1) := by decide +kernel
theorem dX12_goThrough_101 : decode cX12_goThrough 101 = .ok (.putfield 187, 3) := by decide +kernel
theorem dX12_goThrough_104 : decode cX12_goThrough 104 = .ok (.aload_n 0, 1) := by decide +kernel
theorem dX12_goThrough_105 : decode cX12_goThrough 105 = .ok (.dup, 1) := by decide +kernel
theorem dX12_goThrough_106 : decode cX12_goThrough 106 = .ok (.getfield 190, 3) := by decide +kernel
theorem dX12_goThrough_109 : decode cX12_goThrough 109 = .ok (.lload 6, 2) := by decide +kernel
theorem dX12_goThrough_111 : decode cX12_goThrough 111 = .ok (.lmul, 1) := by decide +kernel
theorem dX12_goThrough_112 : decode cX12_goThrough 112 = .ok (.putfield 190, 3) := by decide +kernel
theorem dX12_goThrough_115 : decode cX12_goThrough 115 = .ok (.aload_n 0, 1) := by decide +kernel
theorem dX12_goThrough_116 : decode cX12_goThrough 116 = .ok (.dup, 1) := by decide +kernel
theorem dX12_goThrough_117 : decode cX12_goThrough 117 = .ok (.getfield 193, 3) := by decide +kernel
theorem dX12_goThrough_120 : decode cX12_goThrough 120 = .ok (.lload 6, 2) := by decide +kernel
theorem dX12_goThrough_122 : decode cX12_goThrough 122 = .ok (.lmul, 1) := by decide +kernel
theorem dX12_goThrough_123 : decode cX12_goThrough 123 = .ok (.putfield 193, 3) := by decide +kernel
theorem dX12_goThrough_126 : decode cX12_goThrough 126 = .ok (.aload_n 0, 1) := by decide +kernel
theorem dX12_goThrough_127 : decode cX12_goThrough 127 = .ok (.dup, 1) := by decide +kernel
theorem dX12_goThrough_128 : decode cX12_goThrough 128 = .ok (.getfield 196, 3) := by decide +kernel
theorem dX12_goThrough_131 : decode cX12_goThrough 131 = .ok (.lload 6, 2) := by decide +kernel
theorem dX12_goThrough_133 : decode cX12_goThrough 133 = .ok (.lmul, 1) := by decide +kernel
theorem dX12_goThrough_134 : decode cX12_goThrough 134 = .ok (.putfield 196, 3) := by decide +kernel
theorem dX12_goThrough_137 : decode cX12_goThrough 137 = .ok (.iconst 0, 1) := by decide +kernel
theorem dX12_goThrough_138 : decode cX12_goThrough 138 = .ok (.istore 9, 2) := by decide +kernel
theorem dX12_goThrough_140 : decode cX12_goThrough 140 = .ok (.iload 9, 2) := by decide +kernel
theorem dX12_goThrough_142 : decode cX12_goThrough 142 = .ok (.aload_n 0, 1) := by decide +kernel
theorem dX12_goThrough_143 : decode cX12_goThrough 143 = .ok (.getfield 203, 3) := by decide +kernel
theorem dX12_goThrough_146 : decode cX12_goThrough 146 = .ok (.if_icmp .ge 19, 3) := by decide +kernel
theorem dX12_goThrough_149 : decode cX12_goThrough 149 = .ok (.aload_n 0, 1) := by decide +kernel
theorem dX12_goThrough_150 : decode cX12_goThrough 150 = .ok (.iload 9, 2) := by decide +kernel
theorem dX12_goThrough_152 : decode cX12_goThrough 152 = .ok (.iload_n 1, 1) := by decide +kernel
theorem dX12_goThrough_153 : decode cX12_goThrough 153 = .ok (.iload_n 2, 1) := by decide +kernel
theorem dX12_goThrough_154 : decode cX12_goThrough 154 = .ok (.iload 5, 2) := by decide +kernel
theorem dX12_goThrough_156 : decode cX12_goThrough 156 = .ok (.invokevirtual 206, 3) := by decide +kernel
theorem dX12_goThrough_159 : decode cX12_goThrough 159 = .ok (.iinc 9 1, 3) := by decide +kernel
theorem dX12_goThrough_162 : decode cX12_goThrough 162 = .ok (.goto (-22), 3) := by decide +kernel
theorem dX12_goThrough_165 : decode cX12_goThrough 165 = .ok (.aload_n 0, 1) := by decide +kernel
theorem dX12_goThrough_166 : decode cX12_goThrough 166 = .ok (.aload_n 0, 1) := by decide +kernel
theorem dX12_goThrough_167 : decode cX12_goThrough 167 = .ok (.getfield 181, 3) := by decide +kernel
theorem dX12_goThrough_170 : decode cX12_goThrough 170 = .ok (.putfield 203, 3) := by decide +kernel
theorem dX12_goThrough_173 : decode cX12_goThrough 173 = .ok (.iconst 0, 1) := by decide +kernel
theorem dX12_goThrough_174 : decode cX12_goThrough 174 = .ok (.istore 9, 2) := by decide +kernel
theorem dX12_goThrough_176 : decode cX12_goThrough 176 = .ok (.iload 9, 2) := by decide +kernel
theorem dX12_goThrough_178 : decode cX12_goThrough 178 = .ok (.aload_n 0, 1) := by decide +kernel
theorem dX12_goThrough_179 : decode cX12_goThrough 179 = .ok (.getfield 203, 3) := by decide +kernel
theorem dX12_goThrough_182 : decode cX12_goThrough 182 = .ok (.if_icmp .ge 37, 3) := by decide +kernel
theorem dX12_goThrough_185 : decode cX12_goThrough 185 = .ok (.aload_n 0, 1) := by decide +kernel
theorem dX12_goThrough_186 : decode cX12_goThrough 186 = .ok (.getfield 51, 3) := by decide +kernel
theorem dX12_goThrough_189 : decode cX12_goThrough 189 = .ok (.iload 9, 2) := by decide +kernel
theorem dX12_goThrough_191 : decode cX12_goThrough 191 = .ok (.aload_n 0, 1) := by decide +kernel
theorem dX12_goThrough_192 : decode cX12_goThrough 192 = .ok (.getfield 58, 3) := by decide +kernel
theorem dX12_goThrough_195 : decode cX12_goThrough 195 = .ok (.iload 9, 2) := by decide +kernel
theorem dX12_goThrough_197 : decode cX12_goThrough 197 = .ok (.iaload, 1) := by decide +kernel
theorem dX12_goThrough_198 : decode cX12_goThrough 198 = .ok (.iastore, 1) := by decide +kernel
theorem dX12_goThrough_199 : decode cX12_goThrough 199 = .ok (.aload_n 0, 1) := by decide +kernel
theorem dX12_goThrough_200 : decode cX12_goThrough 200 = .ok (.getfield 54, 3) := by decide +kernel
theorem dX12_goThrough_203 : decode cX12_goThrough 203 = .ok (.iload 9, 2) := by decide +kernel
theorem dX12_goThrough_205 : decode cX12_goThrough 205 = .ok (.aload_n 0, 1) := by decide +kernel
theorem dX12_goThrough_206 : decode cX12_goThrough 206 = .ok (.getfield 61, 3) := by decide +kernel
theorem dX12_goThrough_209 : decode cX12_goThrough 209 = .ok (.iload 9, 2) := by decide +kernel
theorem dX12_goThrough_211 : decode cX12_goThrough 211 = .ok (.laload, 1) := by decide +kernel
theorem dX12_goThrough_212 : decode cX12_goThrough 212 = .ok (.lastore, 1) := by decide +kernel
theorem dX12_goThrough_213 : decode cX12_goThrough 213 = .ok (.iinc 9 1, 3) := by decide +kernel
theorem dX12_goThrough_216 : decode cX12_goThrough 216 = .ok (.goto (-40), 3) := by decide +kernel
theorem dX12_goThrough_219 : decode cX12_goThrough 219 = .ok (.iinc 8 1, 3) := by decide +kernel
theorem dX12_goThrough_222 : decode cX12_goThrough 222 = .ok (.goto (-162), 3) := by decide +kernel
theorem dX12_goThrough_225 : decode cX12_goThrough 225 = .ok (.aload_n 0, 1) := by decide +kernel
theorem dX12_goThrough_226 : decode cX12_goThrough 226 = .ok (.lconst 0, 1) := by decide +kernel
theorem dX12_goThrough_227 : decode cX12_goThrough 227 = .ok (.putfield 210, 3) := by decide +kernel
theorem dX12_goThrough_230 : decode cX12_goThrough 230 = .ok (.iconst 0, 1) := by decide +kernel
theorem dX12_goThrough_231 : decode cX12_goThrough 231 = .ok (.istore 8, 2) := by decide +kernel
theorem dX12_goThrough_233 : decode cX12_goThrough 233 = .ok (.iload 8, 2) := by decide +kernel
theorem dX12_goThrough_235 : decode cX12_goThrough 235 = .ok (.aload_n 0, 1) := by decide +kernel
theorem dX12_goThrough_236 : decode cX12_goThrough 236 = .ok (.getfield 203, 3) := by decide +kernel
theorem dX12_goThrough_239 : decode cX12_goThrough 239 = .ok (.if_icmp .ge 25, 3) := by decide +kernel
theorem dX12_goThrough_242 : decode cX12_goThrough 242 = .ok (.aload_n 0, 1) := by decide +kernel
theorem dX12_goThrough_243 : decode cX12_goThrough 243 = .ok (.dup, 1) := by decide +kernel
theorem dX12_goThrough_244 : decode cX12_goThrough 244 = .ok (.getfield 210, 3) := by decide +kernel
theorem dX12_goThrough_247 : decode cX12_goThrough 247 = .ok (.aload_n 0, 1) := by decide +kernel
theorem dX12_goThrough_248 : decode cX12_goThrough 248 = .ok (.getfield 54, 3) := by decide +kernel
theorem dX12_goThrough_251 : decode cX12_goThrough 251 = .ok (.iload 8, 2) := by decide +kernel
theorem dX12_goThrough_253 : decode cX12_goThrough 253 = .ok (.laload, 1) := by decide +kernel
theorem dX12_goThrough_254 : decode cX12_goThrough 254 = .ok (.ladd, 1) := by decide +kernel
theorem dX12_goThrough_255 : decode cX12_goThrough 255 = .ok (.putfield 210, 3) := by decide +kernel
theorem dX12_goThrough_258 : decode cX12_goThrough 258 = .ok (.iinc 8 1, 3) := by decide +kernel
theorem dX12_goThrough_261 : decode cX12_goThrough 261 = .ok (.goto (-28), 3) := by decide +kernel
theorem dX12_goThrough_264 : decode cX12_goThrough 264 = .ok (.return_, 1) := by decide +kernel
theorem dX12_goOn_0 : decode cX12_goOn 0 = .ok (.aload_n 0, 1) := by decide +kernel
theorem dX12_goOn_1 : decode cX12_goOn 1 = .ok (.getfield 51, 3) := by decide +kernel
theorem dX12_goOn_4 : decode cX12_goOn 4 = .ok (.iload_n 1, 1) := by decide +kernel
theorem dX12_goOn_5 : decode cX12_goOn 5 = .ok (.iaload, 1) := by decide +kernel
theorem dX12_goOn_6 : decode cX12_goOn 6 = .ok (.sipush 625, 3) := by decide +kernel
theorem dX12_goOn_9 : decode cX12_goOn 9 = .ok (.idiv, 1) := by decide +kernel
theorem dX12_goOn_10 : decode cX12_goOn 10 = .ok (.bipush 12, 2) := by decide +kernel
theorem dX12_goOn_12 : decode cX12_goOn 12 = .ok (.isub, 1) := by decide +kernel
theorem dX12_goOn_13 : decode cX12_goOn 13 = .ok (.istore 5, 2) := by decide +kernel
theorem dX12_goOn_15 : decode cX12_goOn 15 = .ok (.aload_n 0, 1) := by decide +kernel
theorem dX12_goOn_16 : decode cX12_goOn 16 = .ok (.getfield 51, 3) := by decide +kernel
theorem dX12_goOn_19 : decode cX12_goOn 19 = .ok (.iload_n 1, 1) := by decide +kernel
theorem dX12_goOn_20 : decode cX12_goOn 20 = .ok (.iaload, 1) := by decide +kernel
theorem dX12_goOn_21 : decode cX12_goOn 21 = .ok (.bipush 25, 2) := by decide +kernel
theorem dX12_goOn_23 : decode cX12_goOn 23 = .ok (.idiv, 1) := by decide +kernel
theorem dX12_goOn_24 : decode cX12_goOn 24 = .ok (.bipush 25, 2) := by decide +kernel
theorem dX12_goOn_26 : decode cX12_goOn 26 = .ok (.irem, 1) := by decide +kernel
theorem dX12_goOn_27 : decode cX12_goOn 27 = .ok (.istore 6, 2) := by decide +kernel
theorem dX12_goOn_29 : decode cX12_goOn 29 = .ok (.aload_n 0, 1) := by decide +kernel
theorem dX12_goOn_30 : decode cX12_goOn 30 = .ok (.getfield 51, 3) := by decide +kernel
theorem dX12_goOn_33 : decode cX12_goOn 33 = .ok (.iload_n 1, 1) := by decide +kernel
theorem dX12_goOn_34 : decode cX12_goOn 34 = .ok (.iaload, 1) := by decide +kernel
theorem dX12_goOn_35 : decode cX12_goOn 35 = .ok (.bipush 25, 2) := by decide +kernel
theorem dX12_goOn_37 : decode cX12_goOn 37 = .ok (.irem, 1) := by decide +kernel
theorem dX12_goOn_38 : decode cX12_goOn 38 = .ok (.istore 7, 2) := by decide +kernel
theorem dX12_goOn_40 : decode cX12_goOn 40 = .ok (.aload_n 0, 1) := by decide +kernel
theorem dX12_goOn_41 : decode cX12_goOn 41 = .ok (.iload_n 2, 1) := by decide +kernel
theorem dX12_goOn_42 : decode cX12_goOn 42 = .ok (.iload 5, 2) := by decide +kernel
theorem dX12_goOn_44 : decode cX12_goOn 44 = .ok (.iload 6, 2) := by decide +kernel
theorem dX12_goOn_46 : decode cX12_goOn 46 = .ok (.iadd, 1) := by decide +kernel
theorem dX12_goOn_47 : decode cX12_goOn 47 = .ok (.iload 7, 2) := by decide +kernel
theorem dX12_goOn_49 : decode cX12_goOn 49 = .ok (.iadd, 1) := by decide +kernel
theorem dX12_goOn_50 : decode cX12_goOn 50 = .ok (.invokevirtual 150, 3) := by decide +kernel
theorem dX12_goOn_53 : decode cX12_goOn 53 = .ok (.istore 8, 2) := by decide +kernel
theorem dX12_goOn_55 : decode cX12_goOn 55 = .ok (.iconst 0, 1) := by decide +kernel
theorem dX12_goOn_56 : decode cX12_goOn 56 = .ok (.istore 9, 2) := by decide +kernel
theorem dX12_goOn_58 : decode cX12_goOn 58 = .ok (.iload 9, 2) := by decide +kernel
theorem dX12_goOn_60 : decode cX12_goOn 60 = .ok (.bipush 7, 2) := by decide +kernel
theorem dX12_goOn_62 : decode cX12_goOn 62 = .ok (.if_icmp .ge 158, 3) := by decide +kernel
theorem dX12_goOn_65 : decode cX12_goOn 65 = .ok (.aload_n 0, 1) := by decide +kernel
theorem dX12_goOn_66 : decode cX12_goOn 66 = .ok (.getfield 17, 3) := by decide +kernel
theorem dX12_goOn_69 : decode cX12_goOn 69 = .ok (.bipush 7, 2) := by decide +kernel
theorem dX12_goOn_71 : decode cX12_goOn 71 = .ok (.iload_n 3, 1) := by decide +kernel
theorem dX12_goOn_72 : decode cX12_goOn 72 = .ok (.imul, 1) := by decide +kernel
theorem dX12_goOn_73 : decode cX12_goOn 73 = .ok (.iload 9, 2) := by decide +kernel
theorem dX12_goOn_75 : decode cX12_goOn 75 = .ok (.iadd, 1) := by decide +kernel
theorem dX12_goOn_76 : decode cX12_goOn 76 = .ok (.iaload, 1) := by decide +kernel
theorem dX12_goOn_77 : decode cX12_goOn 77 = .ok (.istore 10, 2) := by decide +kernel
theorem dX12_goOn_79 : decode cX12_goOn 79 = .ok (.iload 10, 2) := by decide +kernel
theorem dX12_goOn_81 : decode cX12_goOn 81 = .ok (.ifCond .le 133, 3) := by decide +kernel
theorem dX12_goOn_84 : decode cX12_goOn 84 = .ok (.aload_n 0, 1) := by decide +kernel
theorem dX12_goOn_85 : decode cX12_goOn 85 = .ok (.iload 5, 2) := by decide +kernel
theorem dX12_goOn_87 : decode cX12_goOn 87 = .ok (.iload 6, 2) := by decide +kernel
theorem dX12_goOn_89 : decode cX12_goOn 89 = .ok (.iload 7, 2) := by decide +kernel
theorem dX12_goOn_91 : decode cX12_goOn 91 = .ok (.iload 8, 2) := by decide +kernel
theorem dX12_goOn_93 : decode cX12_goOn 93 = .ok (.iload 9, 2) := by decide +kernel
theorem dX12_goOn_95 : decode cX12_goOn 95 = .ok (.invokevirtual 213, 3) := by decide +kernel
theorem dX12_goOn_98 : decode cX12_goOn 98 = .ok (.iload 4, 2) := by decide +kernel
theorem dX12_goOn_100 : decode cX12_goOn 100 = .ok (.ifCond .eq 10, 3) := by decide +kernel
theorem dX12_goOn_103 : decode cX12_goOn 103 = .ok (.aload_n 0, 1) := by decide +kernel
theorem dX12_goOn_104 : decode cX12_goOn 104 = .ok (.getfield 169, 3) := by decide +kernel
theorem dX12_goOn_107 : decode cX12_goOn 107 = .ok (.ifCond .ne 107, 3) := by decide +kernel
theorem dX12_goOn_110 : decode cX12_goOn 110 = .ok (.aload_n 0, 1) := by decide +kernel
theorem dX12_goOn_111 : decode cX12_goOn 111 = .ok (.getfield 54, 3) := by decide +kernel
theorem dX12_goOn_114 : decode cX12_goOn 114 = .ok (.iload_n 1, 1) := by decide +kernel
theorem dX12_goOn_115 : decode cX12_goOn 115 = .ok (.laload, 1) := by decide +kernel
theorem dX12_goOn_116 : decode cX12_goOn 116 = .ok (.iload 10, 2) := by decide +kernel
theorem dX12_goOn_118 : decode cX12_goOn 118 = .ok (.i2l, 1) := by decide +kernel
theorem dX12_goOn_119 : decode cX12_goOn 119 = .ok (.lmul, 1) := by decide +kernel
theorem dX12_goOn_120 : decode cX12_goOn 120 = .ok (.lstore 11, 2) := by decide +kernel
theorem dX12_goOn_122 : decode cX12_goOn 122 = .ok (.aload_n 0, 1) := by decide +kernel
theorem dX12_goOn_123 : decode cX12_goOn 123 = .ok (.dup, 1) := by decide +kernel
theorem dX12_goOn_124 : decode cX12_goOn 124 = .ok (.getfield 184, 3) := by decide +kernel
theorem dX12_goOn_127 : decode cX12_goOn 127 = .ok (.lload 11, 2) := by decide +kernel
theorem dX12_goOn_129 : decode cX12_goOn 129 = .ok (.aload_n 0, 1) := by decide +kernel
theorem dX12_goOn_130 : decode cX12_goOn 130 = .ok (.getfield 175, 3) := by decide +kernel
theorem dX12_goOn_133 : decode cX12_goOn 133 = .ok (.i2l, 1) := by decide +kernel
theorem dX12_goOn_134 : decode cX12_goOn 134 = .ok (.lmul, 1) := by decide +kernel
theorem dX12_goOn_135 : decode cX12_goOn 135 = .ok (.ladd, 1) := by decide +kernel
theorem dX12_goOn_136 : decode cX12_goOn 136 = .ok (.putfield 184, 3) := by decide +kernel
theorem dX12_goOn_139 : decode cX12_goOn 139 = .ok (.aload_n 0, 1) := by decide +kernel
theorem dX12_goOn_140 : decode cX12_goOn 140 = .ok (.dup, 1) := by decide +kernel
theorem dX12_goOn_141 : decode cX12_goOn 141 = .ok (.getfield 187, 3) := by decide +kernel
theorem dX12_goOn_144 : decode cX12_goOn 144 = .ok (.lload 11, 2) := by decide +kernel
theorem dX12_goOn_146 : decode cX12_goOn 146 = .ok (.aload_n 0, 1) := by decide +kernel
theorem dX12_goOn_147 : decode cX12_goOn 147 = .ok (.getfield 166, 3) := by decide +kernel
theorem dX12_goOn_150 : decode cX12_goOn 150 = .ok (.i2l, 1) := by decide +kernel
theorem dX12_goOn_151 : decode cX12_goOn 151 = .ok (.lmul, 1) := by decide +kernel
theorem dX12_goOn_152 : decode cX12_goOn 152 = .ok (.ladd, 1) := by decide +kernel
theorem dX12_goOn_153 : decode cX12_goOn 153 = .ok (.putfield 187, 3) := by decide +kernel
theorem dX12_goOn_156 : decode cX12_goOn 156 = .ok (.aload_n 0, 1) := by decide +kernel
theorem dX12_goOn_157 : decode cX12_goOn 157 = .ok (.dup, 1) := by decide +kernel
theorem dX12_goOn_158 : decode cX12_goOn 158 = .ok (.getfield 190, 3) := by decide +kernel
theorem dX12_goOn_161 : decode cX12_goOn 161 = .ok (.lload 11, 2) := by decide +kernel
theorem dX12_goOn_163 : decode cX12_goOn 163 = .ok (.iload 9, 2) := by decide +kernel
theorem dX12_goOn_165 : decode cX12_goOn 165 = .ok (.i2l, 1) := by decide +kernel
theorem dX12_goOn_166 : decode cX12_goOn 166 = .ok (.lmul, 1) := by decide +kernel
theorem dX12_goOn_167 : decode cX12_goOn 167 = .ok (.ladd, 1) := by decide +kernel
theorem dX12_goOn_168 : decode cX12_goOn 168 = .ok (.putfield 190, 3) := by decide +kernel
theorem dX12_goOn_171 : decode cX12_goOn 171 = .ok (.aload_n 0, 1) := by decide +kernel
theorem dX12_goOn_172 : decode cX12_goOn 172 = .ok (.dup, 1) := by decide +kernel
theorem dX12_goOn_173 : decode cX12_goOn 173 = .ok (.getfield 193, 3) := by decide +kernel
theorem dX12_goOn_176 : decode cX12_goOn 176 = .ok (.aload_n 0, 1) := by decide +kernel
theorem dX12_goOn_177 : decode cX12_goOn 177 = .ok (.getfield 172, 3) := by decide +kernel
theorem dX12_goOn_180 : decode cX12_goOn 180 = .ok (.ifCond .le 8, 3) := by decide +kernel
theorem dX12_goOn_183 : decode cX12_goOn 183 = .ok (.lload 11, 2) := by decide +kernel
theorem dX12_goOn_185 : decode cX12_goOn 185 = .ok (.goto 4, 3) := by decide +kernel
theorem dX12_goOn_188 : decode cX12_goOn 188 = .ok (.lconst 0, 1) := by decide +kernel
theorem dX12_goOn_189 : decode cX12_goOn 189 = .ok (.ladd, 1) := by decide +kernel
theorem dX12_goOn_190 : decode cX12_goOn 190 = .ok (.putfield 193, 3) := by decide +kernel
theorem dX12_goOn_193 : decode cX12_goOn 193 = .ok (.aload_n 0, 1) := by decide +kernel
theorem dX12_goOn_194 : decode cX12_goOn 194 = .ok (.aload_n 0, 1) := by decide +kernel
theorem dX12_goOn_195 : decode cX12_goOn 195 = .ok (.getfield 172, 3) := by decide +kernel
theorem dX12_goOn_198 : decode cX12_goOn 198 = .ok (.aload_n 0, 1) := by decide +kernel
theorem dX12_goOn_199 : decode cX12_goOn 199 = .ok (.getfield 160, 3) := by decide +kernel
theorem dX12_goOn_202 : decode cX12_goOn 202 = .ok (.aload_n 0, 1) := by decide +kernel
theorem dX12_goOn_203 : decode cX12_goOn 203 = .ok (.getfield 163, 3) := by decide +kernel
theorem dX12_goOn_206 : decode cX12_goOn 206 = .ok (.invokestatic 199, 3) := by decide +kernel
theorem dX12_goOn_209 : decode cX12_goOn 209 = .ok (.lload 11, 2) := by decide +kernel
theorem dX12_goOn_211 : decode cX12_goOn 211 = .ok (.invokevirtual 217, 3) := by decide +kernel
theorem dX12_goOn_214 : decode cX12_goOn 214 = .ok (.iinc 9 1, 3) := by decide +kernel
theorem dX12_goOn_217 : decode cX12_goOn 217 = .ok (.goto (-159), 3) := by decide +kernel
theorem dX12_goOn_220 : decode cX12_goOn 220 = .ok (.return_, 1) := by decide +kernel
theorem dX12_isStart_0 : decode cX12_isStart 0 = .ok (.iload_n 1, 1) := by decide +kernel
theorem dX12_isStart_1 : decode cX12_isStart 1 = .ok (.aload_n 0, 1) := by decide +kernel
theorem dX12_isStart_2 : decode cX12_isStart 2 = .ok (.getfield 156, 3) := by decide +kernel
theorem dX12_isStart_5 : decode cX12_isStart 5 = .ok (.ifCond .eq 8, 3) := by decide +kernel
theorem dX12_isStart_8 : decode cX12_isStart 8 = .ok (.bipush (-12), 2) := by decide +kernel
theorem dX12_isStart_10 : decode cX12_isStart 10 = .ok (.goto 4, 3) := by decide +kernel
theorem dX12_isStart_13 : decode cX12_isStart 13 = .ok (.iconst 0, 1) := by decide +kernel
theorem dX12_isStart_14 : decode cX12_isStart 14 = .ok (.aload_n 0, 1) := by decide +kernel
theorem dX12_isStart_15 : decode cX12_isStart 15 = .ok (.getfield 83, 3) := by decide +kernel
theorem dX12_isStart_18 : decode cX12_isStart 18 = .ok (.invokestatic 108, 3) := by decide +kernel
theorem dX12_isStart_21 : decode cX12_isStart 21 = .ok (.ifCond .eq 17, 3) := by decide +kernel
theorem dX12_isStart_24 : decode cX12_isStart 24 = .ok (.iload_n 2, 1) := by decide +kernel
theorem dX12_isStart_25 : decode cX12_isStart 25 = .ok (.iconst 1, 1) := by decide +kernel
theorem dX12_isStart_26 : decode cX12_isStart 26 = .ok (.bipush 6, 2) := by decide +kernel
theorem dX12_isStart_28 : decode cX12_isStart 28 = .ok (.invokestatic 108, 3) := by decide +kernel
theorem dX12_isStart_31 : decode cX12_isStart 31 = .ok (.ifCond .eq 7, 3) := by decide +kernel
theorem dX12_isStart_34 : decode cX12_isStart 34 = .ok (.iconst 1, 1) := by decide +kernel
theorem dX12_isStart_35 : decode cX12_isStart 35 = .ok (.goto 4, 3) := by decide +kernel
theorem dX12_isStart_38 : decode cX12_isStart 38 = .ok (.iconst 0, 1) := by decide +kernel
theorem dX12_isStart_39 : decode cX12_isStart 39 = .ok (.ireturn, 1) := by decide +kernel
theorem dX12_needBook_0 : decode cX12_needBook 0 = .ok (.aload_n 0, 1) := by decide +kernel
theorem dX12_needBook_1 : decode cX12_needBook 1 = .ok (.getfield 13, 3) := by decide +kernel
theorem dX12_needBook_4 : decode cX12_needBook 4 = .ok (.iload_n 1, 1) := by decide +kernel
theorem dX12_needBook_5 : decode cX12_needBook 5 = .ok (.baload, 1) := by decide +kernel
theorem dX12_needBook_6 : decode cX12_needBook 6 = .ok (.ifCond .ne 11, 3) := by decide +kernel
theorem dX12_needBook_9 : decode cX12_needBook 9 = .ok (.aload_n 0, 1) := by decide +kernel
theorem dX12_needBook_10 : decode cX12_needBook 10 = .ok (.iconst 1, 1) := by decide +kernel
theorem dX12_needBook_11 : decode cX12_needBook 11 = .ok (.invokevirtual 123, 3) := by decide +kernel
theorem dX12_needBook_14 : decode cX12_needBook 14 = .ok (.goto 20, 3) := by decide +kernel
theorem dX12_needBook_17 : decode cX12_needBook 17 = .ok (.aload_n 0, 1) := by decide +kernel
theorem dX12_needBook_18 : decode cX12_needBook 18 = .ok (.iload_n 1, 1) := by decide +kernel
theorem dX12_needBook_19 : decode cX12_needBook 19 = .ok (.invokevirtual 129, 3) := by decide +kernel
theorem dX12_needBook_22 : decode cX12_needBook 22 = .ok (.ifCond .ne 11, 3) := by decide +kernel
theorem dX12_needBook_25 : decode cX12_needBook 25 = .ok (.aload_n 0, 1) := by decide +kernel
theorem dX12_needBook_26 : decode cX12_needBook 26 = .ok (.iconst 4, 1) := by decide +kernel
theorem dX12_needBook_27 : decode cX12_needBook 27 = .ok (.invokevirtual 123, 3) := by decide +kernel
theorem dX12_needBook_30 : decode cX12_needBook 30 = .ok (.goto 4, 3) := by decide +kernel
theorem dX12_needBook_33 : decode cX12_needBook 33 = .ok (.iconst 0, 1) := by decide +kernel
theorem dX12_needBook_34 : decode cX12_needBook 34 = .ok (.ireturn, 1) := by decide +kernel
theorem dX12_needBoth_0 : decode cX12_needBoth 0 = .ok (.iload_n 1, 1) := by decide +kernel
theorem dX12_needBoth_1 : decode cX12_needBoth 1 = .ok (.ifCond .eq 29, 3) := by decide +kernel
theorem dX12_needBoth_4 : decode cX12_needBoth 4 = .ok (.aload_n 0, 1) := by decide +kernel
theorem dX12_needBoth_5 : decode cX12_needBoth 5 = .ok (.iload_n 2, 1) := by decide +kernel
theorem dX12_needBoth_6 : decode cX12_needBoth 6 = .ok (.invokevirtual 139, 3) := by decide +kernel
theorem dX12_needBoth_9 : decode cX12_needBoth 9 = .ok (.ifCond .eq 21, 3) := by decide +kernel
theorem dX12_needBoth_12 : decode cX12_needBoth 12 = .ok (.iload_n 3, 1) := by decide +kernel
theorem dX12_needBoth_13 : decode cX12_needBoth 13 = .ok (.invokestatic 119, 3) := by decide +kernel
theorem dX12_needBoth_16 : decode cX12_needBoth 16 = .ok (.ifCond .eq 14, 3) := by decide +kernel
theorem dX12_needBoth_19 : decode cX12_needBoth 19 = .ok (.aload_n 0, 1) := by decide +kernel
theorem dX12_needBoth_20 : decode cX12_needBoth 20 = .ok (.iload 4, 2) := by decide +kernel
theorem dX12_needBoth_22 : decode cX12_needBoth 22 = .ok (.iload 5, 2) := by decide +kernel
theorem dX12_needBoth_24 : decode cX12_needBoth 24 = .ok (.invokevirtual 221, 3) := by decide +kernel
theorem dX12_needBoth_27 : decode cX12_needBoth 27 = .ok (.ifCond .ne 5, 3) := by decide +kernel
theorem dX12_needBoth_30 : decode cX12_needBoth 30 = .ok (.iconst (-1), 1) := by decide +kernel
theorem dX12_needBoth_31 : decode cX12_needBoth 31 = .ok (.ireturn, 1) := by decide +kernel
theorem dX12_needBoth_32 : decode cX12_needBoth 32 = .ok (.aload_n 0, 1) := by decide +kernel
theorem dX12_needBoth_33 : decode cX12_needBoth 33 = .ok (.getfield 48, 3) := by decide +kernel
theorem dX12_needBoth_36 : decode cX12_needBoth 36 = .ok (.iload_n 2, 1) := by decide +kernel
theorem dX12_needBoth_37 : decode cX12_needBoth 37 = .ok (.baload, 1) := by decide +kernel
theorem dX12_needBoth_38 : decode cX12_needBoth 38 = .ok (.ifCond .eq 11, 3) := by decide +kernel
theorem dX12_needBoth_41 : decode cX12_needBoth 41 = .ok (.aload_n 0, 1) := by decide +kernel
theorem dX12_needBoth_42 : decode cX12_needBoth 42 = .ok (.iconst 1, 1) := by decide +kernel
theorem dX12_needBoth_43 : decode cX12_needBoth 43 = .ok (.invokevirtual 123, 3) := by decide +kernel
theorem dX12_needBoth_46 : decode cX12_needBoth 46 = .ok (.goto 8, 3) := by decide +kernel
theorem dX12_needBoth_49 : decode cX12_needBoth 49 = .ok (.aload_n 0, 1) := by decide +kernel
theorem dX12_needBoth_50 : decode cX12_needBoth 50 = .ok (.iload_n 3, 1) := by decide +kernel
theorem dX12_needBoth_51 : decode cX12_needBoth 51 = .ok (.invokevirtual 225, 3) := by decide +kernel
theorem dX12_needBoth_54 : decode cX12_needBoth 54 = .ok (.ireturn, 1) := by decide +kernel
theorem dX12_cost_0 : decode cX12_cost 0 = .ok (.aload_n 0, 1) := by decide +kernel
theorem dX12_cost_1 : decode cX12_cost 1 = .ok (.iconst 1, 1) := by decide +kernel
theorem dX12_cost_2 : decode cX12_cost 2 = .ok (.iload_n 1, 1) := by decide +kernel
theorem dX12_cost_3 : decode cX12_cost 3 = .ok (.iload_n 2, 1) := by decide +kernel
theorem dX12_cost_4 : decode cX12_cost 4 = .ok (.iload_n 3, 1) := by decide +kernel
theorem dX12_cost_5 : decode cX12_cost 5 = .ok (.iload 4, 2) := by decide +kernel
theorem dX12_cost_7 : decode cX12_cost 7 = .ok (.invokevirtual 228, 3) := by decide +kernel
theorem dX12_cost_10 : decode cX12_cost 10 = .ok (.istore 5, 2) := by decide +kernel
theorem dX12_cost_12 : decode cX12_cost 12 = .ok (.iload 5, 2) := by decide +kernel
theorem dX12_cost_14 : decode cX12_cost 14 = .ok (.ifCond .ge 6, 3) := by decide +kernel
theorem dX12_cost_17 : decode cX12_cost 17 = .ok (.iload 5, 2) := by decide +kernel
theorem dX12_cost_19 : decode cX12_cost 19 = .ok (.ireturn, 1) := by decide +kernel
theorem dX12_cost_20 : decode cX12_cost 20 = .ok (.aload_n 0, 1) := by decide +kernel
theorem dX12_cost_21 : decode cX12_cost 21 = .ok (.iload_n 1, 1) := by decide +kernel
theorem dX12_cost_22 : decode cX12_cost 22 = .ok (.iload_n 2, 1) := by decide +kernel
theorem dX12_cost_23 : decode cX12_cost 23 = .ok (.iload_n 3, 1) := by decide +kernel
theorem dX12_cost_24 : decode cX12_cost 24 = .ok (.iload 4, 2) := by decide +kernel
theorem dX12_cost_26 : decode cX12_cost 26 = .ok (.iconst 0, 1) := by decide +kernel
theorem dX12_cost_27 : decode cX12_cost 27 = .ok (.invokevirtual 232, 3) := by decide +kernel
theorem dX12_cost_30 : decode cX12_cost 30 = .ok (.aload_n 0, 1) := by decide +kernel
theorem dX12_cost_31 : decode cX12_cost 31 = .ok (.aload_n 0, 1) := by decide +kernel
theorem dX12_cost_32 : decode cX12_cost 32 = .ok (.getfield 184, 3) := by decide +kernel
theorem dX12_cost_35 : decode cX12_cost 35 = .ok (.aload_n 0, 1) := by decide +kernel
theorem dX12_cost_36 : decode cX12_cost 36 = .ok (.getfield 196, 3) := by decide +kernel
theorem dX12_cost_39 : decode cX12_cost 39 = .ok (.iconst 1, 1) := by decide +kernel
theorem dX12_cost_40 : decode cX12_cost 40 = .ok (.invokevirtual 236, 3) := by decide +kernel
theorem dX12_cost_43 : decode cX12_cost 43 = .ok (.ireturn, 1) := by decide +kernel
theorem dX12_service_0 : decode cX12_service 0 = .ok (.aload_n 0, 1) := by decide +kernel
theorem dX12_service_1 : decode cX12_service 1 = .ok (.iload_n 1, 1) := by decide +kernel
theorem dX12_service_2 : decode cX12_service 2 = .ok (.iconst 0, 1) := by decide +kernel
theorem dX12_service_3 : decode cX12_service 3 = .ok (.iconst 2, 1) := by decide +kernel
theorem dX12_service_4 : decode cX12_service 4 = .ok (.invokestatic 108, 3) := by decide +kernel
theorem dX12_service_7 : decode cX12_service 7 = .ok (.iload_n 2, 1) := by decide +kernel
theorem dX12_service_8 : decode cX12_service 8 = .ok (.iload_n 3, 1) := by decide +kernel
theorem dX12_service_9 : decode cX12_service 9 = .ok (.iload 4, 2) := by decide +kernel
theorem dX12_service_11 : decode cX12_service 11 = .ok (.iload 5, 2) := by decide +kernel
theorem dX12_service_13 : decode cX12_service 13 = .ok (.invokevirtual 228, 3) := by decide +kernel
theorem dX12_service_16 : decode cX12_service 16 = .ok (.istore 6, 2) := by decide +kernel
theorem dX12_service_18 : decode cX12_service 18 = .ok (.iload 6, 2) := by decide +kernel
theorem dX12_service_20 : decode cX12_service 20 = .ok (.ifCond .ge 6, 3) := by decide +kernel
theorem dX12_service_23 : decode cX12_service 23 = .ok (.iload 6, 2) := by decide +kernel
theorem dX12_service_25 : decode cX12_service 25 = .ok (.ireturn, 1) := by decide +kernel
theorem dX12_service_26 : decode cX12_service 26 = .ok (.aload_n 0, 1) := by decide +kernel
theorem dX12_service_27 : decode cX12_service 27 = .ok (.iload_n 2, 1) := by decide +kernel
theorem dX12_service_28 : decode cX12_service 28 = .ok (.iload_n 3, 1) := by decide +kernel
theorem dX12_service_29 : decode cX12_service 29 = .ok (.iload 4, 2) := by decide +kernel
theorem dX12_service_31 : decode cX12_service 31 = .ok (.iload 5, 2) := by decide +kernel
theorem dX12_service_33 : decode cX12_service 33 = .ok (.iload_n 1, 1) := by decide +kernel
theorem dX12_service_34 : decode cX12_service 34 = .ok (.ifCond .ne 7, 3) := by decide +kernel
theorem dX12_service_37 : decode cX12_service 37 = .ok (.iconst 1, 1) := by decide +kernel
theorem dX12_service_38 : decode cX12_service 38 = .ok (.goto 4, 3) := by decide +kernel
theorem dX12_service_41 : decode cX12_service 41 = .ok (.iconst 0, 1) := by decide +kernel
theorem dX12_service_42 : decode cX12_service 42 = .ok (.invokevirtual 232, 3) := by decide +kernel
theorem dX12_service_45 : decode cX12_service 45 = .ok (.iload_n 1, 1) := by decide +kernel
theorem dX12_service_46 : decode cX12_service 46 = .ok (.ifCond .ne 17, 3) := by decide +kernel
theorem dX12_service_49 : decode cX12_service 49 = .ok (.aload_n 0, 1) := by decide +kernel
theorem dX12_service_50 : decode cX12_service 50 = .ok (.aload_n 0, 1) := by decide +kernel
theorem dX12_service_51 : decode cX12_service 51 = .ok (.getfield 210, 3) := by decide +kernel
theorem dX12_service_54 : decode cX12_service 54 = .ok (.aload_n 0, 1) := by decide +kernel
theorem dX12_service_55 : decode cX12_service 55 = .ok (.getfield 196, 3) := by decide +kernel
theorem dX12_service_58 : decode cX12_service 58 = .ok (.iconst 1, 1) := by decide +kernel
theorem dX12_service_59 : decode cX12_service 59 = .ok (.invokevirtual 236, 3) := by decide +kernel
theorem dX12_service_62 : decode cX12_service 62 = .ok (.ireturn, 1) := by decide +kernel
theorem dX12_service_63 : decode cX12_service 63 = .ok (.iload_n 1, 1) := by decide +kernel
theorem dX12_service_64 : decode cX12_service 64 = .ok (.iconst 1, 1) := by decide +kernel
theorem dX12_service_65 : decode cX12_service 65 = .ok (.if_icmp .ne 36, 3) := by decide +kernel
theorem dX12_service_68 : decode cX12_service 68 = .ok (.aload_n 0, 1) := by decide +kernel
theorem dX12_service_69 : decode cX12_service 69 = .ok (.getfield 190, 3) := by decide +kernel
theorem dX12_service_72 : decode cX12_service 72 = .ok (.lconst 0, 1) := by decide +kernel
theorem dX12_service_73 : decode cX12_service 73 = .ok (.lcmp, 1) := by decide +kernel
theorem dX12_service_74 : decode cX12_service 74 = .ok (.ifCond .ne 13, 3) := by decide +kernel
theorem dX12_service_77 : decode cX12_service 77 = .ok (.aload_n 0, 1) := by decide +kernel
theorem dX12_service_78 : decode cX12_service 78 = .ok (.lconst 0, 1) := by decide +kernel
theorem dX12_service_79 : decode cX12_service 79 = .ok (.lconst 1, 1) := by decide +kernel
theorem dX12_service_80 : decode cX12_service 80 = .ok (.iconst 1, 1) := by decide +kernel
theorem dX12_service_81 : decode cX12_service 81 = .ok (.invokevirtual 236, 3) := by decide +kernel
theorem dX12_service_84 : decode cX12_service 84 = .ok (.goto 16, 3) := by decide +kernel
theorem dX12_service_87 : decode cX12_service 87 = .ok (.aload_n 0, 1) := by decide +kernel
theorem dX12_service_88 : decode cX12_service 88 = .ok (.aload_n 0, 1) := by decide +kernel
theorem dX12_service_89 : decode cX12_service 89 = .ok (.getfield 187, 3) := by decide +kernel
theorem dX12_service_92 : decode cX12_service 92 = .ok (.aload_n 0, 1) := by decide +kernel
theorem dX12_service_93 : decode cX12_service 93 = .ok (.getfield 190, 3) := by decide +kernel
theorem dX12_service_96 : decode cX12_service 96 = .ok (.iconst 1, 1) := by decide +kernel
theorem dX12_service_97 : decode cX12_service 97 = .ok (.invokevirtual 236, 3) := by decide +kernel
theorem dX12_service_100 : decode cX12_service 100 = .ok (.ireturn, 1) := by decide +kernel
theorem dX12_service_101 : decode cX12_service 101 = .ok (.aload_n 0, 1) := by decide +kernel
theorem dX12_service_102 : decode cX12_service 102 = .ok (.aload_n 0, 1) := by decide +kernel
theorem dX12_service_103 : decode cX12_service 103 = .ok (.getfield 193, 3) := by decide +kernel
theorem dX12_service_106 : decode cX12_service 106 = .ok (.aload_n 0, 1) := by decide +kernel
theorem dX12_service_107 : decode cX12_service 107 = .ok (.getfield 196, 3) := by decide +kernel
theorem dX12_service_110 : decode cX12_service 110 = .ok (.iload 5, 2) := by decide +kernel
theorem dX12_service_112 : decode cX12_service 112 = .ok (.i2l, 1) := by decide +kernel
theorem dX12_service_113 : decode cX12_service 113 = .ok (.lmul, 1) := by decide +kernel
theorem dX12_service_114 : decode cX12_service 114 = .ok (.iconst 1, 1) := by decide +kernel
theorem dX12_service_115 : decode cX12_service 115 = .ok (.invokevirtual 236, 3) := by decide +kernel
theorem dX12_service_118 : decode cX12_service 118 = .ok (.ireturn, 1) := by decide +kernel
theorem dX12_leastFrom_0 : decode cX12_leastFrom 0 = .ok (.ldc2_w 240, 3) := by decide +kernel
theorem dX12_leastFrom_3 : decode cX12_leastFrom 3 = .ok (.lstore 7, 2) := by decide +kernel
theorem dX12_leastFrom_5 : decode cX12_leastFrom 5 = .ok (.iconst 0, 1) := by decide +kernel
theorem dX12_leastFrom_6 : decode cX12_leastFrom 6 = .ok (.istore 9, 2) := by decide +kernel
theorem dX12_leastFrom_8 : decode cX12_leastFrom 8 = .ok (.iload 9, 2) := by decide +kernel
theorem dX12_leastFrom_10 : decode cX12_leastFrom 10 = .ok (.bipush 12, 2) := by decide +kernel
theorem dX12_leastFrom_12 : decode cX12_leastFrom 12 = .ok (.if_icmp .gt 122, 3) := by decide +kernel
theorem dX12_leastFrom_15 : decode cX12_leastFrom 15 = .ok (.lconst 0, 1) := by decide +kernel
theorem dX12_leastFrom_16 : decode cX12_leastFrom 16 = .ok (.lstore 10, 2) := by decide +kernel
theorem dX12_leastFrom_18 : decode cX12_leastFrom 18 = .ok (.iconst 0, 1) := by decide +kernel
theorem dX12_leastFrom_19 : decode cX12_leastFrom 19 = .ok (.istore 12, 2) := by decide +kernel
theorem dX12_leastFrom_21 : decode cX12_leastFrom 21 = .ok (.iload 12, 2) := by decide +kernel
theorem dX12_leastFrom_23 : decode cX12_leastFrom 23 = .ok (.bipush 7, 2) := by decide +kernel
theorem dX12_leastFrom_25 : decode cX12_leastFrom 25 = .ok (.if_icmp .ge 78, 3) := by decide +kernel
theorem dX12_leastFrom_28 : decode cX12_leastFrom 28 = .ok (.aload_n 0, 1) := by decide +kernel
theorem dX12_leastFrom_29 : decode cX12_leastFrom 29 = .ok (.getfield 17, 3) := by decide +kernel
theorem dX12_leastFrom_32 : decode cX12_leastFrom 32 = .ok (.bipush 7, 2) := by decide +kernel
theorem dX12_leastFrom_34 : decode cX12_leastFrom 34 = .ok (.iload_n 1, 1) := by decide +kernel
theorem dX12_leastFrom_35 : decode cX12_leastFrom 35 = .ok (.imul, 1) := by decide +kernel
theorem dX12_leastFrom_36 : decode cX12_leastFrom 36 = .ok (.iload 12, 2) := by decide +kernel
theorem dX12_leastFrom_38 : decode cX12_leastFrom 38 = .ok (.iadd, 1) := by decide +kernel
theorem dX12_leastFrom_39 : decode cX12_leastFrom 39 = .ok (.iaload, 1) := by decide +kernel
theorem dX12_leastFrom_40 : decode cX12_leastFrom 40 = .ok (.istore 13, 2) := by decide +kernel
theorem dX12_leastFrom_42 : decode cX12_leastFrom 42 = .ok (.iload 13, 2) := by decide +kernel
theorem dX12_leastFrom_44 : decode cX12_leastFrom 44 = .ok (.ifCond .le 53, 3) := by decide +kernel
theorem dX12_leastFrom_47 : decode cX12_leastFrom 47 = .ok (.aload_n 0, 1) := by decide +kernel
theorem dX12_leastFrom_48 : decode cX12_leastFrom 48 = .ok (.iload_n 2, 1) := by decide +kernel
theorem dX12_leastFrom_49 : decode cX12_leastFrom 49 = .ok (.iload_n 3, 1) := by decide +kernel
theorem dX12_leastFrom_50 : decode cX12_leastFrom 50 = .ok (.iload 4, 2) := by decide +kernel
theorem dX12_leastFrom_52 : decode cX12_leastFrom 52 = .ok (.iload 9, 2) := by decide +kernel
theorem dX12_leastFrom_54 : decode cX12_leastFrom 54 = .ok (.iload 12, 2) := by decide +kernel
theorem dX12_leastFrom_56 : decode cX12_leastFrom 56 = .ok (.invokevirtual 213, 3) := by decide +kernel
theorem dX12_leastFrom_59 : decode cX12_leastFrom 59 = .ok (.lload 10, 2) := by decide +kernel
theorem dX12_leastFrom_61 : decode cX12_leastFrom 61 = .ok (.iload 13, 2) := by decide +kernel
theorem dX12_leastFrom_63 : decode cX12_leastFrom 63 = .ok (.i2l, 1) := by decide +kernel
theorem dX12_leastFrom_64 : decode cX12_leastFrom 64 = .ok (.aload_n 0, 1) := by decide +kernel
theorem dX12_leastFrom_65 : decode cX12_leastFrom 65 = .ok (.getfield 175, 3) := by decide +kernel
theorem dX12_leastFrom_68 : decode cX12_leastFrom 68 = .ok (.i2l, 1) := by decide +kernel
theorem dX12_leastFrom_69 : decode cX12_leastFrom 69 = .ok (.lload 5, 2) := by decide +kernel
theorem dX12_leastFrom_71 : decode cX12_leastFrom 71 = .ok (.lmul, 1) := by decide +kernel
theorem dX12_leastFrom_72 : decode cX12_leastFrom 72 = .ok (.aload_n 0, 1) := by decide +kernel
theorem dX12_leastFrom_73 : decode cX12_leastFrom 73 = .ok (.getfield 70, 3) := by decide +kernel
theorem dX12_leastFrom_76 : decode cX12_leastFrom 76 = .ok (.aload_n 0, 1) := by decide +kernel
theorem dX12_leastFrom_77 : decode cX12_leastFrom 77 = .ok (.getfield 172, 3) := by decide +kernel
theorem dX12_leastFrom_80 : decode cX12_leastFrom 80 = .ok (.aload_n 0, 1) := by decide +kernel
theorem dX12_leastFrom_81 : decode cX12_leastFrom 81 = .ok (.getfield 160, 3) := by decide +kernel
theorem dX12_leastFrom_84 : decode cX12_leastFrom 84 = .ok (.aload_n 0, 1) := by decide +kernel
theorem dX12_leastFrom_85 : decode cX12_leastFrom 85 = .ok (.getfield 163, 3) := by decide +kernel
theorem dX12_leastFrom_88 : decode cX12_leastFrom 88 = .ok (.invokestatic 199, 3) := by decide +kernel
theorem dX12_leastFrom_91 : decode cX12_leastFrom 91 = .ok (.laload, 1) := by decide +kernel
theorem dX12_leastFrom_92 : decode cX12_leastFrom 92 = .ok (.ladd, 1) := by decide +kernel
theorem dX12_leastFrom_93 : decode cX12_leastFrom 93 = .ok (.lmul, 1) := by decide +kernel
theorem dX12_leastFrom_94 : decode cX12_leastFrom 94 = .ok (.ladd, 1) := by decide +kernel
theorem dX12_leastFrom_95 : decode cX12_leastFrom 95 = .ok (.lstore 10, 2) := by decide +kernel
theorem dX12_leastFrom_97 : decode cX12_leastFrom 97 = .ok (.iinc 12 1, 3) := by decide +kernel
theorem dX12_leastFrom_100 : decode cX12_leastFrom 100 = .ok (.goto (-79), 3) := by decide +kernel
theorem dX12_leastFrom_103 : decode cX12_leastFrom 103 = .ok (.lload 7, 2) := by decide +kernel
theorem dX12_leastFrom_105 : decode cX12_leastFrom 105 = .ok (.lconst 0, 1) := by decide +kernel
theorem dX12_leastFrom_106 : decode cX12_leastFrom 106 = .ok (.lcmp, 1) := by decide +kernel
theorem dX12_leastFrom_107 : decode cX12_leastFrom 107 = .ok (.ifCond .lt 11, 3) := by decide +kernel
theorem dX12_leastFrom_110 : decode cX12_leastFrom 110 = .ok (.lload 10, 2) := by decide +kernel
theorem dX12_leastFrom_112 : decode cX12_leastFrom 112 = .ok (.lload 7, 2) := by decide +kernel
theorem dX12_leastFrom_114 : decode cX12_leastFrom 114 = .ok (.lcmp, 1) := by decide +kernel
theorem dX12_leastFrom_115 : decode cX12_leastFrom 115 = .ok (.ifCond .ge 13, 3) := by decide +kernel
theorem dX12_leastFrom_118 : decode cX12_leastFrom 118 = .ok (.lload 10, 2) := by decide +kernel
theorem dX12_leastFrom_120 : decode cX12_leastFrom 120 = .ok (.lstore 7, 2) := by decide +kernel
theorem dX12_leastFrom_122 : decode cX12_leastFrom 122 = .ok (.aload_n 0, 1) := by decide +kernel
theorem dX12_leastFrom_123 : decode cX12_leastFrom 123 = .ok (.iload 9, 2) := by decide +kernel
theorem dX12_leastFrom_125 : decode cX12_leastFrom 125 = .ok (.putfield 242, 3) := by decide +kernel
theorem dX12_leastFrom_128 : decode cX12_leastFrom 128 = .ok (.iinc 9 1, 3) := by decide +kernel
theorem dX12_leastFrom_131 : decode cX12_leastFrom 131 = .ok (.goto (-123), 3) := by decide +kernel
theorem dX12_leastFrom_134 : decode cX12_leastFrom 134 = .ok (.lload 7, 2) := by decide +kernel
theorem dX12_leastFrom_136 : decode cX12_leastFrom 136 = .ok (.lreturn, 1) := by decide +kernel
theorem dX12_best_0 : decode cX12_best 0 = .ok (.iload_n 1, 1) := by decide +kernel
theorem dX12_best_1 : decode cX12_best 1 = .ok (.invokestatic 119, 3) := by decide +kernel
theorem dX12_best_4 : decode cX12_best 4 = .ok (.ifCond .eq 12, 3) := by decide +kernel
theorem dX12_best_7 : decode cX12_best 7 = .ok (.aload_n 0, 1) := by decide +kernel
theorem dX12_best_8 : decode cX12_best 8 = .ok (.iload_n 2, 1) := by decide +kernel
theorem dX12_best_9 : decode cX12_best 9 = .ok (.iload_n 3, 1) := by decide +kernel
theorem dX12_best_10 : decode cX12_best 10 = .ok (.invokevirtual 221, 3) := by decide +kernel
theorem dX12_best_13 : decode cX12_best 13 = .ok (.ifCond .ne 5, 3) := by decide +kernel
theorem dX12_best_16 : decode cX12_best 16 = .ok (.iconst (-1), 1) := by decide +kernel
theorem dX12_best_17 : decode cX12_best 17 = .ok (.ireturn, 1) := by decide +kernel
theorem dX12_best_18 : decode cX12_best 18 = .ok (.aload_n 0, 1) := by decide +kernel
theorem dX12_best_19 : decode cX12_best 19 = .ok (.iload_n 1, 1) := by decide +kernel
theorem dX12_best_20 : decode cX12_best 20 = .ok (.invokevirtual 225, 3) := by decide +kernel
theorem dX12_best_23 : decode cX12_best 23 = .ok (.istore 4, 2) := by decide +kernel
theorem dX12_best_25 : decode cX12_best 25 = .ok (.iload 4, 2) := by decide +kernel
theorem dX12_best_27 : decode cX12_best 27 = .ok (.ifCond .ge 6, 3) := by decide +kernel
theorem dX12_best_30 : decode cX12_best 30 = .ok (.iload 4, 2) := by decide +kernel
theorem dX12_best_32 : decode cX12_best 32 = .ok (.ireturn, 1) := by decide +kernel
theorem dX12_best_33 : decode cX12_best 33 = .ok (.aload_n 0, 1) := by decide +kernel
theorem dX12_best_34 : decode cX12_best 34 = .ok (.iload_n 1, 1) := by decide +kernel
theorem dX12_best_35 : decode cX12_best 35 = .ok (.invokevirtual 129, 3) := by decide +kernel
theorem dX12_best_38 : decode cX12_best 38 = .ok (.i2l, 1) := by decide +kernel
theorem dX12_best_39 : decode cX12_best 39 = .ok (.lstore 5, 2) := by decide +kernel
theorem dX12_best_41 : decode cX12_best 41 = .ok (.lconst 1, 1) := by decide +kernel
theorem dX12_best_42 : decode cX12_best 42 = .ok (.lstore 7, 2) := by decide +kernel
theorem dX12_best_44 : decode cX12_best 44 = .ok (.iconst 0, 1) := by decide +kernel
theorem dX12_best_45 : decode cX12_best 45 = .ok (.istore 9, 2) := by decide +kernel
theorem dX12_best_47 : decode cX12_best 47 = .ok (.iload 9, 2) := by decide +kernel
theorem dX12_best_49 : decode cX12_best 49 = .ok (.sipush 17000, 3) := by decide +kernel
theorem dX12_best_52 : decode cX12_best 52 = .ok (.if_icmp .ge 17, 3) := by decide +kernel
theorem dX12_best_55 : decode cX12_best 55 = .ok (.aload_n 0, 1) := by decide +kernel
theorem dX12_best_56 : decode cX12_best 56 = .ok (.getfield 70, 3) := by decide +kernel
theorem dX12_best_59 : decode cX12_best 59 = .ok (.iload 9, 2) := by decide +kernel
theorem dX12_best_61 : decode cX12_best 61 = .ok (.lconst 0, 1) := by decide +kernel
theorem dX12_best_62 : decode cX12_best 62 = .ok (.lastore, 1) := by decide +kernel
theorem dX12_best_63 : decode cX12_best 63 = .ok (.iinc 9 1, 3) := by decide +kernel
theorem dX12_best_66 : decode cX12_best 66 = .ok (.goto (-19), 3) := by decide +kernel
theorem dX12_best_69 : decode cX12_best 69 = .ok (.iconst 1, 1) := by decide +kernel
theorem dX12_best_70 : decode cX12_best 70 = .ok (.istore 9, 2) := by decide +kernel
theorem dX12_best_72 : decode cX12_best 72 = .ok (.iload 9, 2) := by decide +kernel
theorem dX12_best_74 : decode cX12_best 74 = .ok (.iload_n 3, 1) := by decide +kernel
theorem dX12_best_75 : decode cX12_best 75 = .ok (.if_icmp .ge 159, 3) := by decide +kernel
theorem dX12_best_78 : decode cX12_best 78 = .ok (.aload_n 0, 1) := by decide +kernel
theorem dX12_best_79 : decode cX12_best 79 = .ok (.getfield 156, 3) := by decide +kernel
theorem dX12_best_82 : decode cX12_best 82 = .ok (.ifCond .eq 8, 3) := by decide +kernel
theorem dX12_best_85 : decode cX12_best 85 = .ok (.bipush (-12), 2) := by decide +kernel
theorem dX12_best_87 : decode cX12_best 87 = .ok (.goto 4, 3) := by decide +kernel
theorem dX12_best_90 : decode cX12_best 90 = .ok (.iconst 0, 1) := by decide +kernel
theorem dX12_best_91 : decode cX12_best 91 = .ok (.istore 10, 2) := by decide +kernel
theorem dX12_best_93 : decode cX12_best 93 = .ok (.iload 10, 2) := by decide +kernel
theorem dX12_best_95 : decode cX12_best 95 = .ok (.aload_n 0, 1) := by decide +kernel
theorem dX12_best_96 : decode cX12_best 96 = .ok (.getfield 83, 3) := by decide +kernel
theorem dX12_best_99 : decode cX12_best 99 = .ok (.if_icmp .gt 91, 3) := by decide +kernel
theorem dX12_best_102 : decode cX12_best 102 = .ok (.iconst 0, 1) := by decide +kernel
theorem dX12_best_103 : decode cX12_best 103 = .ok (.istore 11, 2) := by decide +kernel
theorem dX12_best_105 : decode cX12_best 105 = .ok (.iload 11, 2) := by decide +kernel
theorem dX12_best_107 : decode cX12_best 107 = .ok (.aload_n 0, 1) := by decide +kernel
theorem dX12_best_108 : decode cX12_best 108 = .ok (.getfield 153, 3) := by decide +kernel
theorem dX12_best_111 : decode cX12_best 111 = .ok (.ifCond .le 8, 3) := by decide +kernel
theorem dX12_best_114 : decode cX12_best 114 = .ok (.bipush 12, 2) := by decide +kernel
theorem dX12_best_116 : decode cX12_best 116 = .ok (.goto 4, 3) := by decide +kernel
theorem dX12_best_119 : decode cX12_best 119 = .ok (.iconst 0, 1) := by decide +kernel
theorem dX12_best_120 : decode cX12_best 120 = .ok (.if_icmp .gt 64, 3) := by decide +kernel
theorem dX12_best_123 : decode cX12_best 123 = .ok (.iconst 0, 1) := by decide +kernel
theorem dX12_best_124 : decode cX12_best 124 = .ok (.istore 12, 2) := by decide +kernel
theorem dX12_best_126 : decode cX12_best 126 = .ok (.iload 12, 2) := by decide +kernel
theorem dX12_best_128 : decode cX12_best 128 = .ok (.aload_n 0, 1) := by decide +kernel
theorem dX12_best_129 : decode cX12_best 129 = .ok (.getfield 153, 3) := by decide +kernel
theorem dX12_best_132 : decode cX12_best 132 = .ok (.iconst 1, 1) := by decide +kernel
theorem dX12_best_133 : decode cX12_best 133 = .ok (.if_icmp .le 8, 3) := by decide +kernel
theorem dX12_best_136 : decode cX12_best 136 = .ok (.bipush 12, 2) := by decide +kernel
theorem dX12_best_138 : decode cX12_best 138 = .ok (.goto 4, 3) := by decide +kernel
theorem dX12_best_141 : decode cX12_best 141 = .ok (.iconst 0, 1) := by decide +kernel
theorem dX12_best_142 : decode cX12_best 142 = .ok (.if_icmp .gt 36, 3) := by decide +kernel
theorem dX12_best_145 : decode cX12_best 145 = .ok (.aload_n 0, 1) := by decide +kernel
theorem dX12_best_146 : decode cX12_best 146 = .ok (.getfield 73, 3) := by decide +kernel
theorem dX12_best_149 : decode cX12_best 149 = .ok (.iload 10, 2) := by decide +kernel
theorem dX12_best_151 : decode cX12_best 151 = .ok (.iload 11, 2) := by decide +kernel
theorem dX12_best_153 : decode cX12_best 153 = .ok (.iload 12, 2) := by decide +kernel
theorem dX12_best_155 : decode cX12_best 155 = .ok (.invokestatic 199, 3) := by decide +kernel
theorem dX12_best_158 : decode cX12_best 158 = .ok (.aload_n 0, 1) := by decide +kernel
theorem dX12_best_159 : decode cX12_best 159 = .ok (.iload_n 1, 1) := by decide +kernel
theorem dX12_best_160 : decode cX12_best 160 = .ok (.iload 10, 2) := by decide +kernel
theorem dX12_best_162 : decode cX12_best 162 = .ok (.iload 11, 2) := by decide +kernel
theorem dX12_best_164 : decode cX12_best 164 = .ok (.iload 12, 2) := by decide +kernel
theorem dX12_best_166 : decode cX12_best 166 = .ok (.lload 7, 2) := by decide +kernel
theorem dX12_best_168 : decode cX12_best 168 = .ok (.invokevirtual 245, 3) := by decide +kernel
theorem dX12_best_171 : decode cX12_best 171 = .ok (.lastore, 1) := by decide +kernel
theorem dX12_best_172 : decode cX12_best 172 = .ok (.iinc 12 1, 3) := by decide +kernel
theorem dX12_best_175 : decode cX12_best 175 = .ok (.goto (-49), 3) := by decide +kernel
theorem dX12_best_178 : decode cX12_best 178 = .ok (.iinc 11 1, 3) := by decide +kernel
theorem dX12_best_181 : decode cX12_best 181 = .ok (.goto (-76), 3) := by decide +kernel
theorem dX12_best_184 : decode cX12_best 184 = .ok (.iinc 10 1, 3) := by decide +kernel
theorem dX12_best_187 : decode cX12_best 187 = .ok (.goto (-94), 3) := by decide +kernel
theorem dX12_best_190 : decode cX12_best 190 = .ok (.iconst 0, 1) := by decide +kernel
theorem dX12_best_191 : decode cX12_best 191 = .ok (.istore 10, 2) := by decide +kernel
theorem dX12_best_193 : decode cX12_best 193 = .ok (.iload 10, 2) := by decide +kernel
theorem dX12_best_195 : decode cX12_best 195 = .ok (.sipush 17000, 3) := by decide +kernel
theorem dX12_best_198 : decode cX12_best 198 = .ok (.if_icmp .ge 23, 3) := by decide +kernel
theorem dX12_best_201 : decode cX12_best 201 = .ok (.aload_n 0, 1) := by decide +kernel
theorem dX12_best_202 : decode cX12_best 202 = .ok (.getfield 70, 3) := by decide +kernel
theorem dX12_best_205 : decode cX12_best 205 = .ok (.iload 10, 2) := by decide +kernel
theorem dX12_best_207 : decode cX12_best 207 = .ok (.aload_n 0, 1) := by decide +kernel
theorem dX12_best_208 : decode cX12_best 208 = .ok (.getfield 73, 3) := by decide +kernel
theorem dX12_best_211 : decode cX12_best 211 = .ok (.iload 10, 2) := by decide +kernel
theorem dX12_best_213 : decode cX12_best 213 = .ok (.laload, 1) := by decide +kernel
theorem dX12_best_214 : decode cX12_best 214 = .ok (.lastore, 1) := by decide +kernel
theorem dX12_best_215 : decode cX12_best 215 = .ok (.iinc 10 1, 3) := by decide +kernel
theorem dX12_best_218 : decode cX12_best 218 = .ok (.goto (-25), 3) := by decide +kernel
theorem dX12_best_221 : decode cX12_best 221 = .ok (.lload 7, 2) := by decide +kernel
theorem dX12_best_223 : decode cX12_best 223 = .ok (.lload 5, 2) := by decide +kernel
theorem dX12_best_225 : decode cX12_best 225 = .ok (.lmul, 1) := by decide +kernel
theorem dX12_best_226 : decode cX12_best 226 = .ok (.lstore 7, 2) := by decide +kernel
theorem dX12_best_228 : decode cX12_best 228 = .ok (.iinc 9 1, 3) := by decide +kernel
theorem dX12_best_231 : decode cX12_best 231 = .ok (.goto (-159), 3) := by decide +kernel
theorem dX12_best_234 : decode cX12_best 234 = .ok (.aload_n 0, 1) := by decide +kernel
theorem dX12_best_235 : decode cX12_best 235 = .ok (.iload_n 1, 1) := by decide +kernel
theorem dX12_best_236 : decode cX12_best 236 = .ok (.iload_n 2, 1) := by decide +kernel
theorem dX12_best_237 : decode cX12_best 237 = .ok (.iconst 0, 1) := by decide +kernel
theorem dX12_best_238 : decode cX12_best 238 = .ok (.iconst 0, 1) := by decide +kernel
theorem dX12_best_239 : decode cX12_best 239 = .ok (.lload 7, 2) := by decide +kernel
theorem dX12_best_241 : decode cX12_best 241 = .ok (.invokevirtual 245, 3) := by decide +kernel
theorem dX12_best_244 : decode cX12_best 244 = .ok (.lstore 9, 2) := by decide +kernel
theorem dX12_best_246 : decode cX12_best 246 = .ok (.aload_n 0, 1) := by decide +kernel
theorem dX12_best_247 : decode cX12_best 247 = .ok (.lload 9, 2) := by decide +kernel
theorem dX12_best_249 : decode cX12_best 249 = .ok (.lload 7, 2) := by decide +kernel
theorem dX12_best_251 : decode cX12_best 251 = .ok (.lload 5, 2) := by decide +kernel
theorem dX12_best_253 : decode cX12_best 253 = .ok (.lmul, 1) := by decide +kernel
theorem dX12_best_254 : decode cX12_best 254 = .ok (.aload_n 0, 1) := by decide +kernel
theorem dX12_best_255 : decode cX12_best 255 = .ok (.getfield 242, 3) := by decide +kernel
theorem dX12_best_258 : decode cX12_best 258 = .ok (.invokevirtual 236, 3) := by decide +kernel
theorem dX12_best_261 : decode cX12_best 261 = .ok (.ireturn, 1) := by decide +kernel
theorem dX12_bestPair_0 : decode cX12_bestPair 0 = .ok (.iload_n 1, 1) := by decide +kernel
theorem dX12_bestPair_1 : decode cX12_bestPair 1 = .ok (.invokestatic 119, 3) := by decide +kernel
theorem dX12_bestPair_4 : decode cX12_bestPair 4 = .ok (.ifCond .eq 12, 3) := by decide +kernel
theorem dX12_bestPair_7 : decode cX12_bestPair 7 = .ok (.aload_n 0, 1) := by decide +kernel
theorem dX12_bestPair_8 : decode cX12_bestPair 8 = .ok (.iload_n 2, 1) := by decide +kernel
theorem dX12_bestPair_9 : decode cX12_bestPair 9 = .ok (.iload_n 3, 1) := by decide +kernel
theorem dX12_bestPair_10 : decode cX12_bestPair 10 = .ok (.invokevirtual 221, 3) := by decide +kernel
theorem dX12_bestPair_13 : decode cX12_bestPair 13 = .ok (.ifCond .ne 5, 3) := by decide +kernel
theorem dX12_bestPair_16 : decode cX12_bestPair 16 = .ok (.iconst (-1), 1) := by decide +kernel
theorem dX12_bestPair_17 : decode cX12_bestPair 17 = .ok (.ireturn, 1) := by decide +kernel
theorem dX12_bestPair_18 : decode cX12_bestPair 18 = .ok (.aload_n 0, 1) := by decide +kernel
theorem dX12_bestPair_19 : decode cX12_bestPair 19 = .ok (.iload_n 1, 1) := by decide +kernel
theorem dX12_bestPair_20 : decode cX12_bestPair 20 = .ok (.invokevirtual 225, 3) := by decide +kernel
theorem dX12_bestPair_23 : decode cX12_bestPair 23 = .ok (.istore 4, 2) := by decide +kernel
theorem dX12_bestPair_25 : decode cX12_bestPair 25 = .ok (.iload 4, 2) := by decide +kernel
theorem dX12_bestPair_27 : decode cX12_bestPair 27 = .ok (.ifCond .ge 6, 3) := by decide +kernel
theorem dX12_bestPair_30 : decode cX12_bestPair 30 = .ok (.iload 4, 2) := by decide +kernel
theorem dX12_bestPair_32 : decode cX12_bestPair 32 = .ok (.ireturn, 1) := by decide +kernel
theorem dX12_bestPair_33 : decode cX12_bestPair 33 = .ok (.ldc2_w 240, 3) := by decide +kernel
theorem dX12_bestPair_36 : decode cX12_bestPair 36 = .ok (.lstore 5, 2) := by decide +kernel
theorem dX12_bestPair_38 : decode cX12_bestPair 38 = .ok (.bipush (-9), 2) := by decide +kernel
theorem dX12_bestPair_40 : decode cX12_bestPair 40 = .ok (.istore 7, 2) := by decide +kernel
theorem dX12_bestPair_42 : decode cX12_bestPair 42 = .ok (.bipush (-9), 2) := by decide +kernel
theorem dX12_bestPair_44 : decode cX12_bestPair 44 = .ok (.istore 8, 2) := by decide +kernel
theorem dX12_bestPair_46 : decode cX12_bestPair 46 = .ok (.iconst 0, 1) := by decide +kernel
theorem dX12_bestPair_47 : decode cX12_bestPair 47 = .ok (.istore 9, 2) := by decide +kernel
theorem dX12_bestPair_49 : decode cX12_bestPair 49 = .ok (.iload 9, 2) := by decide +kernel
theorem dX12_bestPair_51 : decode cX12_bestPair 51 = .ok (.aload_n 0, 1) := by decide +kernel
theorem dX12_bestPair_52 : decode cX12_bestPair 52 = .ok (.getfield 83, 3) := by decide +kernel
theorem dX12_bestPair_55 : decode cX12_bestPair 55 = .ok (.if_icmp .gt 76, 3) := by decide +kernel
theorem dX12_bestPair_58 : decode cX12_bestPair 58 = .ok (.bipush (-12), 2) := by decide +kernel
theorem dX12_bestPair_60 : decode cX12_bestPair 60 = .ok (.istore 10, 2) := by decide +kernel
theorem dX12_bestPair_62 : decode cX12_bestPair 62 = .ok (.iload 10, 2) := by decide +kernel
theorem dX12_bestPair_64 : decode cX12_bestPair 64 = .ok (.iload 9, 2) := by decide +kernel
theorem dX12_bestPair_66 : decode cX12_bestPair 66 = .ok (.if_icmp .ge 59, 3) := by decide +kernel
theorem dX12_bestPair_69 : decode cX12_bestPair 69 = .ok (.aload_n 0, 1) := by decide +kernel
theorem dX12_bestPair_70 : decode cX12_bestPair 70 = .ok (.iload 10, 2) := by decide +kernel
theorem dX12_bestPair_72 : decode cX12_bestPair 72 = .ok (.putfield 249, 3) := by decide +kernel
theorem dX12_bestPair_75 : decode cX12_bestPair 75 = .ok (.aload_n 0, 1) := by decide +kernel
theorem dX12_bestPair_76 : decode cX12_bestPair 76 = .ok (.iload 9, 2) := by decide +kernel
theorem dX12_bestPair_78 : decode cX12_bestPair 78 = .ok (.putfield 252, 3) := by decide +kernel
theorem dX12_bestPair_81 : decode cX12_bestPair 81 = .ok (.aload_n 0, 1) := by decide +kernel
theorem dX12_bestPair_82 : decode cX12_bestPair 82 = .ok (.iload_n 1, 1) := by decide +kernel
theorem dX12_bestPair_83 : decode cX12_bestPair 83 = .ok (.iload_n 2, 1) := by decide +kernel
theorem dX12_bestPair_84 : decode cX12_bestPair 84 = .ok (.iload_n 3, 1) := by decide +kernel
theorem dX12_bestPair_85 : decode cX12_bestPair 85 = .ok (.invokevirtual 255, 3) := by decide +kernel
theorem dX12_bestPair_88 : decode cX12_bestPair 88 = .ok (.lload 5, 2) := by decide +kernel
theorem dX12_bestPair_90 : decode cX12_bestPair 90 = .ok (.lconst 0, 1) := by decide +kernel
theorem dX12_bestPair_91 : decode cX12_bestPair 91 = .ok (.lcmp, 1) := by decide +kernel
theorem dX12_bestPair_92 : decode cX12_bestPair 92 = .ok (.ifCond .lt 13, 3) := by decide +kernel
theorem dX12_bestPair_95 : decode cX12_bestPair 95 = .ok (.aload_n 0, 1) := by decide +kernel
theorem dX12_bestPair_96 : decode cX12_bestPair 96 = .ok (.getfield 184, 3) := by decide +kernel
theorem dX12_bestPair_99 : decode cX12_bestPair 99 = .ok (.lload 5, 2) := by decide +kernel
theorem dX12_bestPair_101 : decode cX12_bestPair 101 = .ok (.lcmp, 1) := by decide +kernel
theorem dX12_bestPair_102 : decode cX12_bestPair 102 = .ok (.ifCond .ge 17, 3) := by decide +kernel
theorem dX12_bestPair_105 : decode cX12_bestPair 105 = .ok (.aload_n 0, 1) := by decide +kernel
theorem dX12_bestPair_106 : decode cX12_bestPair 106 = .ok (.getfield 184, 3) := by decide +kernel
theorem dX12_bestPair_109 : decode cX12_bestPair 109 = .ok (.lstore 5, 2) := by decide +kernel
theorem dX12_bestPair_111 : decode cX12_bestPair 111 = .ok (.iload 10, 2) := by decide +kernel
theorem dX12_bestPair_113 : decode cX12_bestPair 113 = .ok (.istore 7, 2) := by decide +kernel
theorem dX12_bestPair_115 : decode cX12_bestPair 115 = .ok (.iload 9, 2) := by decide +kernel
theorem dX12_bestPair_117 : decode cX12_bestPair 117 = .ok (.istore 8, 2) := by decide +kernel
theorem dX12_bestPair_119 : decode cX12_bestPair 119 = .ok (.iinc 10 1, 3) := by decide +kernel
theorem dX12_bestPair_122 : decode cX12_bestPair 122 = .ok (.goto (-60), 3) := by decide +kernel
theorem dX12_bestPair_125 : decode cX12_bestPair 125 = .ok (.iinc 9 1, 3) := by decide +kernel
theorem dX12_bestPair_128 : decode cX12_bestPair 128 = .ok (.goto (-79), 3) := by decide +kernel
theorem dX12_bestPair_131 : decode cX12_bestPair 131 = .ok (.aload_n 0, 1) := by decide +kernel
theorem dX12_bestPair_132 : decode cX12_bestPair 132 = .ok (.iload 7, 2) := by decide +kernel
theorem dX12_bestPair_134 : decode cX12_bestPair 134 = .ok (.putfield 99, 3) := by decide +kernel
theorem dX12_bestPair_137 : decode cX12_bestPair 137 = .ok (.aload_n 0, 1) := by decide +kernel
theorem dX12_bestPair_138 : decode cX12_bestPair 138 = .ok (.iload 8, 2) := by decide +kernel
theorem dX12_bestPair_140 : decode cX12_bestPair 140 = .ok (.putfield 102, 3) := by decide +kernel
theorem dX12_bestPair_143 : decode cX12_bestPair 143 = .ok (.aload_n 0, 1) := by decide +kernel
theorem dX12_bestPair_144 : decode cX12_bestPair 144 = .ok (.lload 5, 2) := by decide +kernel
theorem dX12_bestPair_146 : decode cX12_bestPair 146 = .ok (.aload_n 0, 1) := by decide +kernel
theorem dX12_bestPair_147 : decode cX12_bestPair 147 = .ok (.getfield 196, 3) := by decide +kernel
theorem dX12_bestPair_150 : decode cX12_bestPair 150 = .ok (.iconst 1, 1) := by decide +kernel
theorem dX12_bestPair_151 : decode cX12_bestPair 151 = .ok (.invokevirtual 236, 3) := by decide +kernel
theorem dX12_bestPair_154 : decode cX12_bestPair 154 = .ok (.ireturn, 1) := by decide +kernel
theorem dX12_goThroughPair_0 : decode cX12_goThroughPair 0 = .ok (.aload_n 0, 1) := by decide +kernel
theorem dX12_goThroughPair_1 : decode cX12_goThroughPair 1 = .ok (.iload_n 1, 1) := by decide +kernel
theorem dX12_goThroughPair_2 : decode cX12_goThroughPair 2 = .ok (.invokevirtual 129, 3) := by decide +kernel
theorem dX12_goThroughPair_5 : decode cX12_goThroughPair 5 = .ok (.i2l, 1) := by decide +kernel
theorem dX12_goThroughPair_6 : decode cX12_goThroughPair 6 = .ok (.lstore 4, 2) := by decide +kernel
theorem dX12_goThroughPair_8 : decode cX12_goThroughPair 8 = .ok (.aload_n 0, 1) := by decide +kernel
theorem dX12_goThroughPair_9 : decode cX12_goThroughPair 9 = .ok (.lconst 0, 1) := by decide +kernel
theorem dX12_goThroughPair_10 : decode cX12_goThroughPair 10 = .ok (.putfield 184, 3) := by decide +kernel
theorem dX12_goThroughPair_13 : decode cX12_goThroughPair 13 = .ok (.aload_n 0, 1) := by decide +kernel
theorem dX12_goThroughPair_14 : decode cX12_goThroughPair 14 = .ok (.lconst 1, 1) := by decide +kernel
theorem dX12_goThroughPair_15 : decode cX12_goThroughPair 15 = .ok (.putfield 196, 3) := by decide +kernel
theorem dX12_goThroughPair_18 : decode cX12_goThroughPair 18 = .ok (.aload_n 0, 1) := by decide +kernel
theorem dX12_goThroughPair_19 : decode cX12_goThroughPair 19 = .ok (.getfield 51, 3) := by decide +kernel
theorem dX12_goThroughPair_22 : decode cX12_goThroughPair 22 = .ok (.iconst 0, 1) := by decide +kernel
theorem dX12_goThroughPair_23 : decode cX12_goThroughPair 23 = .ok (.iload_n 2, 1) := by decide +kernel
theorem dX12_goThroughPair_24 : decode cX12_goThroughPair 24 = .ok (.iconst 0, 1) := by decide +kernel
theorem dX12_goThroughPair_25 : decode cX12_goThroughPair 25 = .ok (.iconst 0, 1) := by decide +kernel
theorem dX12_goThroughPair_26 : decode cX12_goThroughPair 26 = .ok (.invokestatic 199, 3) := by decide +kernel
theorem dX12_goThroughPair_29 : decode cX12_goThroughPair 29 = .ok (.iastore, 1) := by decide +kernel
theorem dX12_goThroughPair_30 : decode cX12_goThroughPair 30 = .ok (.aload_n 0, 1) := by decide +kernel
theorem dX12_goThroughPair_31 : decode cX12_goThroughPair 31 = .ok (.getfield 54, 3) := by decide +kernel
theorem dX12_goThroughPair_34 : decode cX12_goThroughPair 34 = .ok (.iconst 0, 1) := by decide +kernel
theorem dX12_goThroughPair_35 : decode cX12_goThroughPair 35 = .ok (.lconst 1, 1) := by decide +kernel
theorem dX12_goThroughPair_36 : decode cX12_goThroughPair 36 = .ok (.lastore, 1) := by decide +kernel
theorem dX12_goThroughPair_37 : decode cX12_goThroughPair 37 = .ok (.aload_n 0, 1) := by decide +kernel
theorem dX12_goThroughPair_38 : decode cX12_goThroughPair 38 = .ok (.iconst 1, 1) := by decide +kernel
theorem dX12_goThroughPair_39 : decode cX12_goThroughPair 39 = .ok (.putfield 203, 3) := by decide +kernel
theorem dX12_goThroughPair_42 : decode cX12_goThroughPair 42 = .ok (.iconst 0, 1) := by decide +kernel
theorem dX12_goThroughPair_43 : decode cX12_goThroughPair 43 = .ok (.istore 6, 2) := by decide +kernel
theorem dX12_goThroughPair_45 : decode cX12_goThroughPair 45 = .ok (.iload 6, 2) := by decide +kernel
theorem dX12_goThroughPair_47 : decode cX12_goThroughPair 47 = .ok (.iload_n 3, 1) := by decide +kernel
theorem dX12_goThroughPair_48 : decode cX12_goThroughPair 48 = .ok (.if_icmp .ge 315, 3) := by decide +kernel
theorem dX12_goThroughPair_51 : decode cX12_goThroughPair 51 = .ok (.aload_n 0, 1) := by decide +kernel
theorem dX12_goThroughPair_52 : decode cX12_goThroughPair 52 = .ok (.dup, 1) := by decide +kernel
theorem dX12_goThroughPair_53 : decode cX12_goThroughPair 53 = .ok (.getfield 178, 3) := by decide +kernel
theorem dX12_goThroughPair_56 : decode cX12_goThroughPair 56 = .ok (.iconst 1, 1) := by decide +kernel
theorem dX12_goThroughPair_57 : decode cX12_goThroughPair 57 = .ok (.iadd, 1) := by decide +kernel
theorem dX12_goThroughPair_58 : decode cX12_goThroughPair 58 = .ok (.putfield 178, 3) := by decide +kernel
theorem dX12_goThroughPair_61 : decode cX12_goThroughPair 61 = .ok (.aload_n 0, 1) := by decide +kernel
theorem dX12_goThroughPair_62 : decode cX12_goThroughPair 62 = .ok (.iconst 0, 1) := by decide +kernel
theorem dX12_goThroughPair_63 : decode cX12_goThroughPair 63 = .ok (.putfield 181, 3) := by decide +kernel
theorem dX12_goThroughPair_66 : decode cX12_goThroughPair 66 = .ok (.aload_n 0, 1) := by decide +kernel
theorem dX12_goThroughPair_67 : decode cX12_goThroughPair 67 = .ok (.dup, 1) := by decide +kernel
theorem dX12_goThroughPair_68 : decode cX12_goThroughPair 68 = .ok (.getfield 184, 3) := by decide +kernel
theorem dX12_goThroughPair_71 : decode cX12_goThroughPair 71 = .ok (.lload 4, 2) := by decide +kernel
theorem dX12_goThroughPair_73 : decode cX12_goThroughPair 73 = .ok (.lmul, 1) := by decide +kernel
theorem dX12_goThroughPair_74 : decode cX12_goThroughPair 74 = .ok (.putfield 184, 3) := by decide +kernel
theorem dX12_goThroughPair_77 : decode cX12_goThroughPair 77 = .ok (.aload_n 0, 1) := by decide +kernel
theorem dX12_goThroughPair_78 : decode cX12_goThroughPair 78 = .ok (.dup, 1) := by decide +kernel
theorem dX12_goThroughPair_79 : decode cX12_goThroughPair 79 = .ok (.getfield 196, 3) := by decide +kernel
theorem dX12_goThroughPair_82 : decode cX12_goThroughPair 82 = .ok (.lload 4, 2) := by decide +kernel
theorem dX12_goThroughPair_84 : decode cX12_goThroughPair 84 = .ok (.lmul, 1) := by decide +kernel
theorem dX12_goThroughPair_85 : decode cX12_goThroughPair 85 = .ok (.putfield 196, 3) := by decide +kernel
theorem dX12_goThroughPair_88 : decode cX12_goThroughPair 88 = .ok (.iconst 0, 1) := by decide +kernel
theorem dX12_goThroughPair_89 : decode cX12_goThroughPair 89 = .ok (.istore 7, 2) := by decide +kernel
theorem dX12_goThroughPair_91 : decode cX12_goThroughPair 91 = .ok (.iload 7, 2) := by decide +kernel
theorem dX12_goThroughPair_93 : decode cX12_goThroughPair 93 = .ok (.aload_n 0, 1) := by decide +kernel
theorem dX12_goThroughPair_94 : decode cX12_goThroughPair 94 = .ok (.getfield 203, 3) := by decide +kernel
theorem dX12_goThroughPair_97 : decode cX12_goThroughPair 97 = .ok (.if_icmp .ge 206, 3) := by decide +kernel
theorem dX12_goThroughPair_100 : decode cX12_goThroughPair 100 = .ok (.aload_n 0, 1) := by decide +kernel
theorem dX12_goThroughPair_101 : decode cX12_goThroughPair 101 = .ok (.getfield 51, 3) := by decide +kernel
theorem dX12_goThroughPair_104 : decode cX12_goThroughPair 104 = .ok (.iload 7, 2) := by decide +kernel
theorem dX12_goThroughPair_106 : decode cX12_goThroughPair 106 = .ok (.iaload, 1) := by decide +kernel
theorem dX12_goThroughPair_107 : decode cX12_goThroughPair 107 = .ok (.sipush 625, 3) := by decide +kernel
theorem dX12_goThroughPair_110 : decode cX12_goThroughPair 110 = .ok (.idiv, 1) := by decide +kernel
theorem dX12_goThroughPair_111 : decode cX12_goThroughPair 111 = .ok (.bipush 12, 2) := by decide +kernel
theorem dX12_goThroughPair_113 : decode cX12_goThroughPair 113 = .ok (.isub, 1) := by decide +kernel
theorem dX12_goThroughPair_114 : decode cX12_goThroughPair 114 = .ok (.istore 8, 2) := by decide +kernel
theorem dX12_goThroughPair_116 : decode cX12_goThroughPair 116 = .ok (.aload_n 0, 1) := by decide +kernel
theorem dX12_goThroughPair_117 : decode cX12_goThroughPair 117 = .ok (.getfield 51, 3) := by decide +kernel
theorem dX12_goThroughPair_120 : decode cX12_goThroughPair 120 = .ok (.iload 7, 2) := by decide +kernel
theorem dX12_goThroughPair_122 : decode cX12_goThroughPair 122 = .ok (.iaload, 1) := by decide +kernel
theorem dX12_goThroughPair_123 : decode cX12_goThroughPair 123 = .ok (.bipush 25, 2) := by decide +kernel
theorem dX12_goThroughPair_125 : decode cX12_goThroughPair 125 = .ok (.idiv, 1) := by decide +kernel
theorem dX12_goThroughPair_126 : decode cX12_goThroughPair 126 = .ok (.bipush 25, 2) := by decide +kernel
theorem dX12_goThroughPair_128 : decode cX12_goThroughPair 128 = .ok (.irem, 1) := by decide +kernel
theorem dX12_goThroughPair_129 : decode cX12_goThroughPair 129 = .ok (.istore 9, 2) := by decide +kernel
theorem dX12_goThroughPair_131 : decode cX12_goThroughPair 131 = .ok (.aload_n 0, 1) := by decide +kernel
theorem dX12_goThroughPair_132 : decode cX12_goThroughPair 132 = .ok (.getfield 51, 3) := by decide +kernel
theorem dX12_goThroughPair_135 : decode cX12_goThroughPair 135 = .ok (.iload 7, 2) := by decide +kernel
theorem dX12_goThroughPair_137 : decode cX12_goThroughPair 137 = .ok (.iaload, 1) := by decide +kernel
theorem dX12_goThroughPair_138 : decode cX12_goThroughPair 138 = .ok (.bipush 25, 2) := by decide +kernel
theorem dX12_goThroughPair_140 : decode cX12_goThroughPair 140 = .ok (.irem, 1) := by decide +kernel
theorem dX12_goThroughPair_141 : decode cX12_goThroughPair 141 = .ok (.istore 10, 2) := by decide +kernel
theorem dX12_goThroughPair_143 : decode cX12_goThroughPair 143 = .ok (.iload 8, 2) := by decide +kernel
theorem dX12_goThroughPair_145 : decode cX12_goThroughPair 145 = .ok (.iload 9, 2) := by decide +kernel
theorem dX12_goThroughPair_147 : decode cX12_goThroughPair 147 = .ok (.iadd, 1) := by decide +kernel
theorem dX12_goThroughPair_148 : decode cX12_goThroughPair 148 = .ok (.iload 10, 2) := by decide +kernel
theorem dX12_goThroughPair_150 : decode cX12_goThroughPair 150 = .ok (.iadd, 1) := by decide +kernel
theorem dX12_goThroughPair_151 : decode cX12_goThroughPair 151 = .ok (.istore 11, 2) := by decide +kernel
theorem dX12_goThroughPair_153 : decode cX12_goThroughPair 153 = .ok (.iload 11, 2) := by decide +kernel
theorem dX12_goThroughPair_155 : decode cX12_goThroughPair 155 = .ok (.aload_n 0, 1) := by decide +kernel
theorem dX12_goThroughPair_156 : decode cX12_goThroughPair 156 = .ok (.getfield 249, 3) := by decide +kernel
theorem dX12_goThroughPair_159 : decode cX12_goThroughPair 159 = .ok (.if_icmp .le 7, 3) := by decide +kernel
theorem dX12_goThroughPair_162 : decode cX12_goThroughPair 162 = .ok (.iconst 0, 1) := by decide +kernel
theorem dX12_goThroughPair_163 : decode cX12_goThroughPair 163 = .ok (.goto 27, 3) := by decide +kernel
theorem dX12_goThroughPair_166 : decode cX12_goThroughPair 166 = .ok (.aload_n 0, 1) := by decide +kernel
theorem dX12_goThroughPair_167 : decode cX12_goThroughPair 167 = .ok (.getfield 252, 3) := by decide +kernel
theorem dX12_goThroughPair_170 : decode cX12_goThroughPair 170 = .ok (.iload 11, 2) := by decide +kernel
theorem dX12_goThroughPair_172 : decode cX12_goThroughPair 172 = .ok (.isub, 1) := by decide +kernel
theorem dX12_goThroughPair_173 : decode cX12_goThroughPair 173 = .ok (.bipush 12, 2) := by decide +kernel
theorem dX12_goThroughPair_175 : decode cX12_goThroughPair 175 = .ok (.if_icmp .le 8, 3) := by decide +kernel
theorem dX12_goThroughPair_178 : decode cX12_goThroughPair 178 = .ok (.bipush 12, 2) := by decide +kernel
theorem dX12_goThroughPair_180 : decode cX12_goThroughPair 180 = .ok (.goto 10, 3) := by decide +kernel
theorem dX12_goThroughPair_183 : decode cX12_goThroughPair 183 = .ok (.aload_n 0, 1) := by decide +kernel
theorem dX12_goThroughPair_184 : decode cX12_goThroughPair 184 = .ok (.getfield 252, 3) := by decide +kernel
theorem dX12_goThroughPair_187 : decode cX12_goThroughPair 187 = .ok (.iload 11, 2) := by decide +kernel
theorem dX12_goThroughPair_189 : decode cX12_goThroughPair 189 = .ok (.isub, 1) := by decide +kernel
theorem dX12_goThroughPair_190 : decode cX12_goThroughPair 190 = .ok (.istore 12, 2) := by decide +kernel
theorem dX12_goThroughPair_192 : decode cX12_goThroughPair 192 = .ok (.iconst 0, 1) := by decide +kernel
theorem dX12_goThroughPair_193 : decode cX12_goThroughPair 193 = .ok (.istore 13, 2) := by decide +kernel
theorem dX12_goThroughPair_195 : decode cX12_goThroughPair 195 = .ok (.iload 13, 2) := by decide +kernel
theorem dX12_goThroughPair_197 : decode cX12_goThroughPair 197 = .ok (.bipush 7, 2) := by decide +kernel
theorem dX12_goThroughPair_199 : decode cX12_goThroughPair 199 = .ok (.if_icmp .ge 98, 3) := by decide +kernel
theorem dX12_goThroughPair_202 : decode cX12_goThroughPair 202 = .ok (.aload_n 0, 1) := by decide +kernel
theorem dX12_goThroughPair_203 : decode cX12_goThroughPair 203 = .ok (.getfield 17, 3) := by decide +kernel
theorem dX12_goThroughPair_206 : decode cX12_goThroughPair 206 = .ok (.bipush 7, 2) := by decide +kernel
theorem dX12_goThroughPair_208 : decode cX12_goThroughPair 208 = .ok (.iload_n 1, 1) := by decide +kernel
theorem dX12_goThroughPair_209 : decode cX12_goThroughPair 209 = .ok (.imul, 1) := by decide +kernel
theorem dX12_goThroughPair_210 : decode cX12_goThroughPair 210 = .ok (.iload 13, 2) := by decide +kernel
theorem dX12_goThroughPair_212 : decode cX12_goThroughPair 212 = .ok (.iadd, 1) := by decide +kernel
theorem dX12_goThroughPair_213 : decode cX12_goThroughPair 213 = .ok (.iaload, 1) := by decide +kernel
theorem dX12_goThroughPair_214 : decode cX12_goThroughPair 214 = .ok (.istore 14, 2) := by decide +kernel
theorem dX12_goThroughPair_216 : decode cX12_goThroughPair 216 = .ok (.iload 14, 2) := by decide +kernel
theorem dX12_goThroughPair_218 : decode cX12_goThroughPair 218 = .ok (.ifCond .le 73, 3) := by decide +kernel
theorem dX12_goThroughPair_221 : decode cX12_goThroughPair 221 = .ok (.aload_n 0, 1) := by decide +kernel
theorem dX12_goThroughPair_222 : decode cX12_goThroughPair 222 = .ok (.iload 8, 2) := by decide +kernel
theorem dX12_goThroughPair_224 : decode cX12_goThroughPair 224 = .ok (.iload 9, 2) := by decide +kernel
theorem dX12_goThroughPair_226 : decode cX12_goThroughPair 226 = .ok (.iload 10, 2) := by decide +kernel
theorem dX12_goThroughPair_228 : decode cX12_goThroughPair 228 = .ok (.iload 12, 2) := by decide +kernel
theorem dX12_goThroughPair_230 : decode cX12_goThroughPair 230 = .ok (.iload 13, 2) := by decide +kernel
theorem dX12_goThroughPair_232 : decode cX12_goThroughPair 232 = .ok (.invokevirtual 213, 3) := by decide +kernel
theorem dX12_goThroughPair_235 : decode cX12_goThroughPair 235 = .ok (.aload_n 0, 1) := by decide +kernel
theorem dX12_goThroughPair_236 : decode cX12_goThroughPair 236 = .ok (.dup, 1) := by decide +kernel
theorem dX12_goThroughPair_237 : decode cX12_goThroughPair 237 = .ok (.getfield 184, 3) := by decide +kernel
theorem dX12_goThroughPair_240 : decode cX12_goThroughPair 240 = .ok (.aload_n 0, 1) := by decide +kernel
theorem dX12_goThroughPair_241 : decode cX12_goThroughPair 241 = .ok (.getfield 54, 3) := by decide +kernel
theorem dX12_goThroughPair_244 : decode cX12_goThroughPair 244 = .ok (.iload 7, 2) := by decide +kernel
theorem dX12_goThroughPair_246 : decode cX12_goThroughPair 246 = .ok (.laload, 1) := by decide +kernel
theorem dX12_goThroughPair_247 : decode cX12_goThroughPair 247 = .ok (.iload 14, 2) := by decide +kernel
theorem dX12_goThroughPair_249 : decode cX12_goThroughPair 249 = .ok (.i2l, 1) := by decide +kernel
theorem dX12_goThroughPair_250 : decode cX12_goThroughPair 250 = .ok (.lmul, 1) := by decide +kernel
theorem dX12_goThroughPair_251 : decode cX12_goThroughPair 251 = .ok (.aload_n 0, 1) := by decide +kernel
theorem dX12_goThroughPair_252 : decode cX12_goThroughPair 252 = .ok (.getfield 175, 3) := by decide +kernel
theorem dX12_goThroughPair_255 : decode cX12_goThroughPair 255 = .ok (.i2l, 1) := by decide +kernel
theorem dX12_goThroughPair_256 : decode cX12_goThroughPair 256 = .ok (.lmul, 1) := by decide +kernel
theorem dX12_goThroughPair_257 : decode cX12_goThroughPair 257 = .ok (.ladd, 1) := by decide +kernel
theorem dX12_goThroughPair_258 : decode cX12_goThroughPair 258 = .ok (.putfield 184, 3) := by decide +kernel
theorem dX12_goThroughPair_261 : decode cX12_goThroughPair 261 = .ok (.aload_n 0, 1) := by decide +kernel
theorem dX12_goThroughPair_262 : decode cX12_goThroughPair 262 = .ok (.aload_n 0, 1) := by decide +kernel
theorem dX12_goThroughPair_263 : decode cX12_goThroughPair 263 = .ok (.getfield 172, 3) := by decide +kernel
theorem dX12_goThroughPair_266 : decode cX12_goThroughPair 266 = .ok (.aload_n 0, 1) := by decide +kernel
theorem dX12_goThroughPair_267 : decode cX12_goThroughPair 267 = .ok (.getfield 160, 3) := by decide +kernel
theorem dX12_goThroughPair_270 : decode cX12_goThroughPair 270 = .ok (.aload_n 0, 1) := by decide +kernel
theorem dX12_goThroughPair_271 : decode cX12_goThroughPair 271 = .ok (.getfield 163, 3) := by decide +kernel
theorem dX12_goThroughPair_274 : decode cX12_goThroughPair 274 = .ok (.invokestatic 199, 3) := by decide +kernel
theorem dX12_goThroughPair_277 : decode cX12_goThroughPair 277 = .ok (.aload_n 0, 1) := by decide +kernel
theorem dX12_goThroughPair_278 : decode cX12_goThroughPair 278 = .ok (.getfield 54, 3) := by decide +kernel
theorem dX12_goThroughPair_281 : decode cX12_goThroughPair 281 = .ok (.iload 7, 2) := by decide +kernel
theorem dX12_goThroughPair_283 : decode cX12_goThroughPair 283 = .ok (.laload, 1) := by decide +kernel
theorem dX12_goThroughPair_284 : decode cX12_goThroughPair 284 = .ok (.iload 14, 2) := by decide +kernel
theorem dX12_goThroughPair_286 : decode cX12_goThroughPair 286 = .ok (.i2l, 1) := by decide +kernel
theorem dX12_goThroughPair_287 : decode cX12_goThroughPair 287 = .ok (.lmul, 1) := by decide +kernel
theorem dX12_goThroughPair_288 : decode cX12_goThroughPair 288 = .ok (.invokevirtual 217, 3) := by decide +kernel
theorem dX12_goThroughPair_291 : decode cX12_goThroughPair 291 = .ok (.iinc 13 1, 3) := by decide +kernel
theorem dX12_goThroughPair_294 : decode cX12_goThroughPair 294 = .ok (.goto (-99), 3) := by decide +kernel
theorem dX12_goThroughPair_297 : decode cX12_goThroughPair 297 = .ok (.iinc 7 1, 3) := by decide +kernel
theorem dX12_goThroughPair_300 : decode cX12_goThroughPair 300 = .ok (.goto (-209), 3) := by decide +kernel
theorem dX12_goThroughPair_303 : decode cX12_goThroughPair 303 = .ok (.aload_n 0, 1) := by decide +kernel
theorem dX12_goThroughPair_304 : decode cX12_goThroughPair 304 = .ok (.aload_n 0, 1) := by decide +kernel
theorem dX12_goThroughPair_305 : decode cX12_goThroughPair 305 = .ok (.getfield 181, 3) := by decide +kernel
theorem dX12_goThroughPair_308 : decode cX12_goThroughPair 308 = .ok (.putfield 203, 3) := by decide +kernel
theorem dX12_goThroughPair_311 : decode cX12_goThroughPair 311 = .ok (.iconst 0, 1) := by decide +kernel
theorem dX12_goThroughPair_312 : decode cX12_goThroughPair 312 = .ok (.istore 7, 2) := by decide +kernel
theorem dX12_goThroughPair_314 : decode cX12_goThroughPair 314 = .ok (.iload 7, 2) := by decide +kernel
theorem dX12_goThroughPair_316 : decode cX12_goThroughPair 316 = .ok (.aload_n 0, 1) := by decide +kernel
theorem dX12_goThroughPair_317 : decode cX12_goThroughPair 317 = .ok (.getfield 203, 3) := by decide +kernel
theorem dX12_goThroughPair_320 : decode cX12_goThroughPair 320 = .ok (.if_icmp .ge 37, 3) := by decide +kernel
theorem dX12_goThroughPair_323 : decode cX12_goThroughPair 323 = .ok (.aload_n 0, 1) := by decide +kernel
theorem dX12_goThroughPair_324 : decode cX12_goThroughPair 324 = .ok (.getfield 51, 3) := by decide +kernel
theorem dX12_goThroughPair_327 : decode cX12_goThroughPair 327 = .ok (.iload 7, 2) := by decide +kernel
theorem dX12_goThroughPair_329 : decode cX12_goThroughPair 329 = .ok (.aload_n 0, 1) := by decide +kernel
theorem dX12_goThroughPair_330 : decode cX12_goThroughPair 330 = .ok (.getfield 58, 3) := by decide +kernel
theorem dX12_goThroughPair_333 : decode cX12_goThroughPair 333 = .ok (.iload 7, 2) := by decide +kernel
theorem dX12_goThroughPair_335 : decode cX12_goThroughPair 335 = .ok (.iaload, 1) := by decide +kernel
theorem dX12_goThroughPair_336 : decode cX12_goThroughPair 336 = .ok (.iastore, 1) := by decide +kernel
theorem dX12_goThroughPair_337 : decode cX12_goThroughPair 337 = .ok (.aload_n 0, 1) := by decide +kernel
theorem dX12_goThroughPair_338 : decode cX12_goThroughPair 338 = .ok (.getfield 54, 3) := by decide +kernel
theorem dX12_goThroughPair_341 : decode cX12_goThroughPair 341 = .ok (.iload 7, 2) := by decide +kernel
theorem dX12_goThroughPair_343 : decode cX12_goThroughPair 343 = .ok (.aload_n 0, 1) := by decide +kernel
theorem dX12_goThroughPair_344 : decode cX12_goThroughPair 344 = .ok (.getfield 61, 3) := by decide +kernel
theorem dX12_goThroughPair_347 : decode cX12_goThroughPair 347 = .ok (.iload 7, 2) := by decide +kernel
theorem dX12_goThroughPair_349 : decode cX12_goThroughPair 349 = .ok (.laload, 1) := by decide +kernel
theorem dX12_goThroughPair_350 : decode cX12_goThroughPair 350 = .ok (.lastore, 1) := by decide +kernel
theorem dX12_goThroughPair_351 : decode cX12_goThroughPair 351 = .ok (.iinc 7 1, 3) := by decide +kernel
theorem dX12_goThroughPair_354 : decode cX12_goThroughPair 354 = .ok (.goto (-40), 3) := by decide +kernel
theorem dX12_goThroughPair_357 : decode cX12_goThroughPair 357 = .ok (.iinc 6 1, 3) := by decide +kernel
theorem dX12_goThroughPair_360 : decode cX12_goThroughPair 360 = .ok (.goto (-315), 3) := by decide +kernel
theorem dX12_goThroughPair_363 : decode cX12_goThroughPair 363 = .ok (.return_, 1) := by decide +kernel
theorem dX12_pairTold_0 : decode cX12_pairTold 0 = .ok (.iload_n 1, 1) := by decide +kernel
theorem dX12_pairTold_1 : decode cX12_pairTold 1 = .ok (.ifCond .ne 10, 3) := by decide +kernel
theorem dX12_pairTold_4 : decode cX12_pairTold 4 = .ok (.aload_n 0, 1) := by decide +kernel
theorem dX12_pairTold_5 : decode cX12_pairTold 5 = .ok (.getfield 99, 3) := by decide +kernel
theorem dX12_pairTold_8 : decode cX12_pairTold 8 = .ok (.goto 16, 3) := by decide +kernel
theorem dX12_pairTold_11 : decode cX12_pairTold 11 = .ok (.iload_n 1, 1) := by decide +kernel
theorem dX12_pairTold_12 : decode cX12_pairTold 12 = .ok (.iconst 1, 1) := by decide +kernel
theorem dX12_pairTold_13 : decode cX12_pairTold 13 = .ok (.if_icmp .ne 10, 3) := by decide +kernel
theorem dX12_pairTold_16 : decode cX12_pairTold 16 = .ok (.aload_n 0, 1) := by decide +kernel
theorem dX12_pairTold_17 : decode cX12_pairTold 17 = .ok (.getfield 102, 3) := by decide +kernel
theorem dX12_pairTold_20 : decode cX12_pairTold 20 = .ok (.goto 4, 3) := by decide +kernel
theorem dX12_pairTold_23 : decode cX12_pairTold 23 = .ok (.iconst (-1), 1) := by decide +kernel
theorem dX12_pairTold_24 : decode cX12_pairTold 24 = .ok (.ireturn, 1) := by decide +kernel
theorem dX12_give_0 : decode cX12_give 0 = .ok (.iload_n 1, 1) := by decide +kernel
theorem dX12_give_1 : decode cX12_give 1 = .ok (.istore_n 3, 1) := by decide +kernel
theorem dX12_give_2 : decode cX12_give 2 = .ok (.iconst 0, 1) := by decide +kernel
theorem dX12_give_3 : decode cX12_give 3 = .ok (.istore 4, 2) := by decide +kernel
theorem dX12_give_5 : decode cX12_give 5 = .ok (.iload 4, 2) := by decide +kernel
theorem dX12_give_7 : decode cX12_give 7 = .ok (.iconst 3, 1) := by decide +kernel
theorem dX12_give_8 : decode cX12_give 8 = .ok (.if_icmp .ge 136, 3) := by decide +kernel
theorem dX12_give_11 : decode cX12_give 11 = .ok (.iload_n 2, 1) := by decide +kernel
theorem dX12_give_12 : decode cX12_give 12 = .ok (.ifCond .eq 8, 3) := by decide +kernel
theorem dX12_give_15 : decode cX12_give 15 = .ok (.iload 4, 2) := by decide +kernel
theorem dX12_give_17 : decode cX12_give 17 = .ok (.goto 7, 3) := by decide +kernel
theorem dX12_give_20 : decode cX12_give 20 = .ok (.iconst 2, 1) := by decide +kernel
theorem dX12_give_21 : decode cX12_give 21 = .ok (.iload 4, 2) := by decide +kernel
theorem dX12_give_23 : decode cX12_give 23 = .ok (.isub, 1) := by decide +kernel
theorem dX12_give_24 : decode cX12_give 24 = .ok (.istore 5, 2) := by decide +kernel
theorem dX12_give_26 : decode cX12_give 26 = .ok (.iload 5, 2) := by decide +kernel
theorem dX12_give_28 : decode cX12_give 28 = .ok (.ifCond .ne 10, 3) := by decide +kernel
theorem dX12_give_31 : decode cX12_give 31 = .ok (.aload_n 0, 1) := by decide +kernel
theorem dX12_give_32 : decode cX12_give 32 = .ok (.getfield 259, 3) := by decide +kernel
theorem dX12_give_35 : decode cX12_give 35 = .ok (.goto 20, 3) := by decide +kernel
theorem dX12_give_38 : decode cX12_give 38 = .ok (.iload 5, 2) := by decide +kernel
theorem dX12_give_40 : decode cX12_give 40 = .ok (.iconst 1, 1) := by decide +kernel
theorem dX12_give_41 : decode cX12_give 41 = .ok (.if_icmp .ne 10, 3) := by decide +kernel
theorem dX12_give_44 : decode cX12_give 44 = .ok (.aload_n 0, 1) := by decide +kernel
theorem dX12_give_45 : decode cX12_give 45 = .ok (.getfield 262, 3) := by decide +kernel
theorem dX12_give_48 : decode cX12_give 48 = .ok (.goto 7, 3) := by decide +kernel
theorem dX12_give_51 : decode cX12_give 51 = .ok (.aload_n 0, 1) := by decide +kernel
theorem dX12_give_52 : decode cX12_give 52 = .ok (.getfield 265, 3) := by decide +kernel
theorem dX12_give_55 : decode cX12_give 55 = .ok (.istore 6, 2) := by decide +kernel
theorem dX12_give_57 : decode cX12_give 57 = .ok (.iload_n 3, 1) := by decide +kernel
theorem dX12_give_58 : decode cX12_give 58 = .ok (.iload 6, 2) := by decide +kernel
theorem dX12_give_60 : decode cX12_give 60 = .ok (.if_icmp .ge 7, 3) := by decide +kernel
theorem dX12_give_63 : decode cX12_give 63 = .ok (.iload_n 3, 1) := by decide +kernel
theorem dX12_give_64 : decode cX12_give 64 = .ok (.goto 5, 3) := by decide +kernel
theorem dX12_give_67 : decode cX12_give 67 = .ok (.iload 6, 2) := by decide +kernel
theorem dX12_give_69 : decode cX12_give 69 = .ok (.istore 7, 2) := by decide +kernel
theorem dX12_give_71 : decode cX12_give 71 = .ok (.iload_n 3, 1) := by decide +kernel
theorem dX12_give_72 : decode cX12_give 72 = .ok (.iload 7, 2) := by decide +kernel
theorem dX12_give_74 : decode cX12_give 74 = .ok (.isub, 1) := by decide +kernel
theorem dX12_give_75 : decode cX12_give 75 = .ok (.istore_n 3, 1) := by decide +kernel
theorem dX12_give_76 : decode cX12_give 76 = .ok (.aload_n 0, 1) := by decide +kernel
theorem dX12_give_77 : decode cX12_give 77 = .ok (.dup, 1) := by decide +kernel
theorem dX12_give_78 : decode cX12_give 78 = .ok (.getfield 259, 3) := by decide +kernel
theorem dX12_give_81 : decode cX12_give 81 = .ok (.iload 5, 2) := by decide +kernel
theorem dX12_give_83 : decode cX12_give 83 = .ok (.ifCond .ne 8, 3) := by decide +kernel
theorem dX12_give_86 : decode cX12_give 86 = .ok (.iload 7, 2) := by decide +kernel
theorem dX12_give_88 : decode cX12_give 88 = .ok (.goto 4, 3) := by decide +kernel
theorem dX12_give_91 : decode cX12_give 91 = .ok (.iconst 0, 1) := by decide +kernel
theorem dX12_give_92 : decode cX12_give 92 = .ok (.isub, 1) := by decide +kernel
theorem dX12_give_93 : decode cX12_give 93 = .ok (.putfield 259, 3) := by decide +kernel
theorem dX12_give_96 : decode cX12_give 96 = .ok (.aload_n 0, 1) := by decide +kernel
theorem dX12_give_97 : decode cX12_give 97 = .ok (.dup, 1) := by decide +kernel
theorem dX12_give_98 : decode cX12_give 98 = .ok (.getfield 262, 3) := by decide +kernel
theorem dX12_give_101 : decode cX12_give 101 = .ok (.iload 5, 2) := by decide +kernel
theorem dX12_give_103 : decode cX12_give 103 = .ok (.iconst 1, 1) := by decide +kernel
theorem dX12_give_104 : decode cX12_give 104 = .ok (.if_icmp .ne 8, 3) := by decide +kernel
theorem dX12_give_107 : decode cX12_give 107 = .ok (.iload 7, 2) := by decide +kernel
theorem dX12_give_109 : decode cX12_give 109 = .ok (.goto 4, 3) := by decide +kernel
theorem dX12_give_112 : decode cX12_give 112 = .ok (.iconst 0, 1) := by decide +kernel
theorem dX12_give_113 : decode cX12_give 113 = .ok (.isub, 1) := by decide +kernel
theorem dX12_give_114 : decode cX12_give 114 = .ok (.putfield 262, 3) := by decide +kernel
theorem dX12_give_117 : decode cX12_give 117 = .ok (.aload_n 0, 1) := by decide +kernel
theorem dX12_give_118 : decode cX12_give 118 = .ok (.dup, 1) := by decide +kernel
theorem dX12_give_119 : decode cX12_give 119 = .ok (.getfield 265, 3) := by decide +kernel
theorem dX12_give_122 : decode cX12_give 122 = .ok (.iload 5, 2) := by decide +kernel
theorem dX12_give_124 : decode cX12_give 124 = .ok (.iconst 2, 1) := by decide +kernel
theorem dX12_give_125 : decode cX12_give 125 = .ok (.if_icmp .ne 8, 3) := by decide +kernel
theorem dX12_give_128 : decode cX12_give 128 = .ok (.iload 7, 2) := by decide +kernel
theorem dX12_give_130 : decode cX12_give 130 = .ok (.goto 4, 3) := by decide +kernel
theorem dX12_give_133 : decode cX12_give 133 = .ok (.iconst 0, 1) := by decide +kernel
theorem dX12_give_134 : decode cX12_give 134 = .ok (.isub, 1) := by decide +kernel
theorem dX12_give_135 : decode cX12_give 135 = .ok (.putfield 265, 3) := by decide +kernel
theorem dX12_give_138 : decode cX12_give 138 = .ok (.iinc 4 1, 3) := by decide +kernel
theorem dX12_give_141 : decode cX12_give 141 = .ok (.goto (-136), 3) := by decide +kernel
theorem dX12_give_144 : decode cX12_give 144 = .ok (.return_, 1) := by decide +kernel
theorem dX12_spoilt_0 : decode cX12_spoilt 0 = .ok (.iload_n 1, 1) := by decide +kernel
theorem dX12_spoilt_1 : decode cX12_spoilt 1 = .ok (.invokestatic 119, 3) := by decide +kernel
theorem dX12_spoilt_4 : decode cX12_spoilt 4 = .ok (.ifCond .eq 33, 3) := by decide +kernel
theorem dX12_spoilt_7 : decode cX12_spoilt 7 = .ok (.iload_n 2, 1) := by decide +kernel
theorem dX12_spoilt_8 : decode cX12_spoilt 8 = .ok (.iconst 0, 1) := by decide +kernel
theorem dX12_spoilt_9 : decode cX12_spoilt 9 = .ok (.bipush 12, 2) := by decide +kernel
theorem dX12_spoilt_11 : decode cX12_spoilt 11 = .ok (.invokestatic 108, 3) := by decide +kernel
theorem dX12_spoilt_14 : decode cX12_spoilt 14 = .ok (.ifCond .eq 23, 3) := by decide +kernel
theorem dX12_spoilt_17 : decode cX12_spoilt 17 = .ok (.iload_n 3, 1) := by decide +kernel
theorem dX12_spoilt_18 : decode cX12_spoilt 18 = .ok (.iconst 1, 1) := by decide +kernel
theorem dX12_spoilt_19 : decode cX12_spoilt 19 = .ok (.iconst 3, 1) := by decide +kernel
theorem dX12_spoilt_20 : decode cX12_spoilt 20 = .ok (.invokestatic 108, 3) := by decide +kernel
theorem dX12_spoilt_23 : decode cX12_spoilt 23 = .ok (.ifCond .eq 14, 3) := by decide +kernel
theorem dX12_spoilt_26 : decode cX12_spoilt 26 = .ok (.iload 4, 2) := by decide +kernel
theorem dX12_spoilt_28 : decode cX12_spoilt 28 = .ok (.iconst 1, 1) := by decide +kernel
theorem dX12_spoilt_29 : decode cX12_spoilt 29 = .ok (.bipush 6, 2) := by decide +kernel
theorem dX12_spoilt_31 : decode cX12_spoilt 31 = .ok (.invokestatic 108, 3) := by decide +kernel
theorem dX12_spoilt_34 : decode cX12_spoilt 34 = .ok (.ifCond .ne 5, 3) := by decide +kernel
theorem dX12_spoilt_37 : decode cX12_spoilt 37 = .ok (.iconst (-1), 1) := by decide +kernel
theorem dX12_spoilt_38 : decode cX12_spoilt 38 = .ok (.ireturn, 1) := by decide +kernel
theorem dX12_spoilt_39 : decode cX12_spoilt 39 = .ok (.aload_n 0, 1) := by decide +kernel
theorem dX12_spoilt_40 : decode cX12_spoilt 40 = .ok (.iload_n 1, 1) := by decide +kernel
theorem dX12_spoilt_41 : decode cX12_spoilt 41 = .ok (.invokevirtual 225, 3) := by decide +kernel
theorem dX12_spoilt_44 : decode cX12_spoilt 44 = .ok (.istore 6, 2) := by decide +kernel
theorem dX12_spoilt_46 : decode cX12_spoilt 46 = .ok (.iload 6, 2) := by decide +kernel
theorem dX12_spoilt_48 : decode cX12_spoilt 48 = .ok (.ifCond .ge 6, 3) := by decide +kernel
theorem dX12_spoilt_51 : decode cX12_spoilt 51 = .ok (.iload 6, 2) := by decide +kernel
theorem dX12_spoilt_53 : decode cX12_spoilt 53 = .ok (.ireturn, 1) := by decide +kernel
theorem dX12_spoilt_54 : decode cX12_spoilt 54 = .ok (.aload_n 0, 1) := by decide +kernel
theorem dX12_spoilt_55 : decode cX12_spoilt 55 = .ok (.iload_n 1, 1) := by decide +kernel
theorem dX12_spoilt_56 : decode cX12_spoilt 56 = .ok (.invokevirtual 129, 3) := by decide +kernel
theorem dX12_spoilt_59 : decode cX12_spoilt 59 = .ok (.i2l, 1) := by decide +kernel
theorem dX12_spoilt_60 : decode cX12_spoilt 60 = .ok (.lstore 7, 2) := by decide +kernel
theorem dX12_spoilt_62 : decode cX12_spoilt 62 = .ok (.lconst 0, 1) := by decide +kernel
theorem dX12_spoilt_63 : decode cX12_spoilt 63 = .ok (.lstore 9, 2) := by decide +kernel
theorem dX12_spoilt_65 : decode cX12_spoilt 65 = .ok (.aload_n 0, 1) := by decide +kernel
theorem dX12_spoilt_66 : decode cX12_spoilt 66 = .ok (.lconst 1, 1) := by decide +kernel
theorem dX12_spoilt_67 : decode cX12_spoilt 67 = .ok (.putfield 196, 3) := by decide +kernel
theorem dX12_spoilt_70 : decode cX12_spoilt 70 = .ok (.aload_n 0, 1) := by decide +kernel
theorem dX12_spoilt_71 : decode cX12_spoilt 71 = .ok (.getfield 51, 3) := by decide +kernel
theorem dX12_spoilt_74 : decode cX12_spoilt 74 = .ok (.iconst 0, 1) := by decide +kernel
theorem dX12_spoilt_75 : decode cX12_spoilt 75 = .ok (.iconst 0, 1) := by decide +kernel
theorem dX12_spoilt_76 : decode cX12_spoilt 76 = .ok (.iastore, 1) := by decide +kernel
theorem dX12_spoilt_77 : decode cX12_spoilt 77 = .ok (.aload_n 0, 1) := by decide +kernel
theorem dX12_spoilt_78 : decode cX12_spoilt 78 = .ok (.getfield 54, 3) := by decide +kernel
theorem dX12_spoilt_81 : decode cX12_spoilt 81 = .ok (.iconst 0, 1) := by decide +kernel
theorem dX12_spoilt_82 : decode cX12_spoilt 82 = .ok (.lconst 1, 1) := by decide +kernel
theorem dX12_spoilt_83 : decode cX12_spoilt 83 = .ok (.lastore, 1) := by decide +kernel
theorem dX12_spoilt_84 : decode cX12_spoilt 84 = .ok (.aload_n 0, 1) := by decide +kernel
theorem dX12_spoilt_85 : decode cX12_spoilt 85 = .ok (.iconst 1, 1) := by decide +kernel
theorem dX12_spoilt_86 : decode cX12_spoilt 86 = .ok (.putfield 203, 3) := by decide +kernel
theorem dX12_spoilt_89 : decode cX12_spoilt 89 = .ok (.iconst 0, 1) := by decide +kernel
theorem dX12_spoilt_90 : decode cX12_spoilt 90 = .ok (.istore 11, 2) := by decide +kernel
theorem dX12_spoilt_92 : decode cX12_spoilt 92 = .ok (.iload 11, 2) := by decide +kernel
theorem dX12_spoilt_94 : decode cX12_spoilt 94 = .ok (.iload 4, 2) := by decide +kernel
theorem dX12_spoilt_96 : decode cX12_spoilt 96 = .ok (.if_icmp .ge 295, 3) := by decide +kernel
theorem dX12_spoilt_99 : decode cX12_spoilt 99 = .ok (.aload_n 0, 1) := by decide +kernel
theorem dX12_spoilt_100 : decode cX12_spoilt 100 = .ok (.dup, 1) := by decide +kernel
theorem dX12_spoilt_101 : decode cX12_spoilt 101 = .ok (.getfield 178, 3) := by decide +kernel
theorem dX12_spoilt_104 : decode cX12_spoilt 104 = .ok (.iconst 1, 1) := by decide +kernel
theorem dX12_spoilt_105 : decode cX12_spoilt 105 = .ok (.iadd, 1) := by decide +kernel
theorem dX12_spoilt_106 : decode cX12_spoilt 106 = .ok (.putfield 178, 3) := by decide +kernel
theorem dX12_spoilt_109 : decode cX12_spoilt 109 = .ok (.aload_n 0, 1) := by decide +kernel
theorem dX12_spoilt_110 : decode cX12_spoilt 110 = .ok (.iconst 0, 1) := by decide +kernel
theorem dX12_spoilt_111 : decode cX12_spoilt 111 = .ok (.putfield 181, 3) := by decide +kernel
theorem dX12_spoilt_114 : decode cX12_spoilt 114 = .ok (.lload 9, 2) := by decide +kernel
theorem dX12_spoilt_116 : decode cX12_spoilt 116 = .ok (.lload 7, 2) := by decide +kernel
theorem dX12_spoilt_118 : decode cX12_spoilt 118 = .ok (.lmul, 1) := by decide +kernel
theorem dX12_spoilt_119 : decode cX12_spoilt 119 = .ok (.lstore 9, 2) := by decide +kernel
theorem dX12_spoilt_121 : decode cX12_spoilt 121 = .ok (.aload_n 0, 1) := by decide +kernel
theorem dX12_spoilt_122 : decode cX12_spoilt 122 = .ok (.dup, 1) := by decide +kernel
theorem dX12_spoilt_123 : decode cX12_spoilt 123 = .ok (.getfield 196, 3) := by decide +kernel
theorem dX12_spoilt_126 : decode cX12_spoilt 126 = .ok (.lload 7, 2) := by decide +kernel
theorem dX12_spoilt_128 : decode cX12_spoilt 128 = .ok (.lmul, 1) := by decide +kernel
theorem dX12_spoilt_129 : decode cX12_spoilt 129 = .ok (.putfield 196, 3) := by decide +kernel
theorem dX12_spoilt_132 : decode cX12_spoilt 132 = .ok (.iconst 0, 1) := by decide +kernel
theorem dX12_spoilt_133 : decode cX12_spoilt 133 = .ok (.istore 12, 2) := by decide +kernel
theorem dX12_spoilt_135 : decode cX12_spoilt 135 = .ok (.iload 12, 2) := by decide +kernel
theorem dX12_spoilt_137 : decode cX12_spoilt 137 = .ok (.aload_n 0, 1) := by decide +kernel
theorem dX12_spoilt_138 : decode cX12_spoilt 138 = .ok (.getfield 203, 3) := by decide +kernel
theorem dX12_spoilt_141 : decode cX12_spoilt 141 = .ok (.if_icmp .ge 190, 3) := by decide +kernel
theorem dX12_spoilt_144 : decode cX12_spoilt 144 = .ok (.iconst 0, 1) := by decide +kernel
theorem dX12_spoilt_145 : decode cX12_spoilt 145 = .ok (.istore 13, 2) := by decide +kernel
theorem dX12_spoilt_147 : decode cX12_spoilt 147 = .ok (.iload 13, 2) := by decide +kernel
theorem dX12_spoilt_149 : decode cX12_spoilt 149 = .ok (.bipush 7, 2) := by decide +kernel
theorem dX12_spoilt_151 : decode cX12_spoilt 151 = .ok (.if_icmp .ge 174, 3) := by decide +kernel
theorem dX12_spoilt_154 : decode cX12_spoilt 154 = .ok (.aload_n 0, 1) := by decide +kernel
theorem dX12_spoilt_155 : decode cX12_spoilt 155 = .ok (.getfield 17, 3) := by decide +kernel
theorem dX12_spoilt_158 : decode cX12_spoilt 158 = .ok (.bipush 7, 2) := by decide +kernel
theorem dX12_spoilt_160 : decode cX12_spoilt 160 = .ok (.iload_n 1, 1) := by decide +kernel
theorem dX12_spoilt_161 : decode cX12_spoilt 161 = .ok (.imul, 1) := by decide +kernel
theorem dX12_spoilt_162 : decode cX12_spoilt 162 = .ok (.iload 13, 2) := by decide +kernel
theorem dX12_spoilt_164 : decode cX12_spoilt 164 = .ok (.iadd, 1) := by decide +kernel
theorem dX12_spoilt_165 : decode cX12_spoilt 165 = .ok (.iaload, 1) := by decide +kernel
theorem dX12_spoilt_166 : decode cX12_spoilt 166 = .ok (.istore 14, 2) := by decide +kernel
theorem dX12_spoilt_168 : decode cX12_spoilt 168 = .ok (.iload 14, 2) := by decide +kernel
theorem dX12_spoilt_170 : decode cX12_spoilt 170 = .ok (.ifCond .le 149, 3) := by decide +kernel
theorem dX12_spoilt_173 : decode cX12_spoilt 173 = .ok (.aload_n 0, 1) := by decide +kernel
theorem dX12_spoilt_174 : decode cX12_spoilt 174 = .ok (.aload_n 0, 1) := by decide +kernel
theorem dX12_spoilt_175 : decode cX12_spoilt 175 = .ok (.getfield 51, 3) := by decide +kernel
theorem dX12_spoilt_178 : decode cX12_spoilt 178 = .ok (.iload 12, 2) := by decide +kernel
theorem dX12_spoilt_180 : decode cX12_spoilt 180 = .ok (.iaload, 1) := by decide +kernel
theorem dX12_spoilt_181 : decode cX12_spoilt 181 = .ok (.bipush 25, 2) := by decide +kernel
theorem dX12_spoilt_183 : decode cX12_spoilt 183 = .ok (.idiv, 1) := by decide +kernel
theorem dX12_spoilt_184 : decode cX12_spoilt 184 = .ok (.putfield 262, 3) := by decide +kernel
theorem dX12_spoilt_187 : decode cX12_spoilt 187 = .ok (.aload_n 0, 1) := by decide +kernel
theorem dX12_spoilt_188 : decode cX12_spoilt 188 = .ok (.aload_n 0, 1) := by decide +kernel
theorem dX12_spoilt_189 : decode cX12_spoilt 189 = .ok (.getfield 51, 3) := by decide +kernel
theorem dX12_spoilt_192 : decode cX12_spoilt 192 = .ok (.iload 12, 2) := by decide +kernel
theorem dX12_spoilt_194 : decode cX12_spoilt 194 = .ok (.iaload, 1) := by decide +kernel
theorem dX12_spoilt_195 : decode cX12_spoilt 195 = .ok (.bipush 25, 2) := by decide +kernel
theorem dX12_spoilt_197 : decode cX12_spoilt 197 = .ok (.irem, 1) := by decide +kernel
theorem dX12_spoilt_198 : decode cX12_spoilt 198 = .ok (.putfield 265, 3) := by decide +kernel
theorem dX12_spoilt_201 : decode cX12_spoilt 201 = .ok (.aload_n 0, 1) := by decide +kernel
theorem dX12_spoilt_202 : decode cX12_spoilt 202 = .ok (.iload_n 2, 1) := by decide +kernel
theorem dX12_spoilt_203 : decode cX12_spoilt 203 = .ok (.aload_n 0, 1) := by decide +kernel
theorem dX12_spoilt_204 : decode cX12_spoilt 204 = .ok (.getfield 262, 3) := by decide +kernel
theorem dX12_spoilt_207 : decode cX12_spoilt 207 = .ok (.isub, 1) := by decide +kernel
theorem dX12_spoilt_208 : decode cX12_spoilt 208 = .ok (.aload_n 0, 1) := by decide +kernel
theorem dX12_spoilt_209 : decode cX12_spoilt 209 = .ok (.getfield 265, 3) := by decide +kernel
theorem dX12_spoilt_212 : decode cX12_spoilt 212 = .ok (.isub, 1) := by decide +kernel
theorem dX12_spoilt_213 : decode cX12_spoilt 213 = .ok (.putfield 259, 3) := by decide +kernel
theorem dX12_spoilt_216 : decode cX12_spoilt 216 = .ok (.aload_n 0, 1) := by decide +kernel
theorem dX12_spoilt_217 : decode cX12_spoilt 217 = .ok (.iload 13, 2) := by decide +kernel
theorem dX12_spoilt_219 : decode cX12_spoilt 219 = .ok (.iload 5, 2) := by decide +kernel
theorem dX12_spoilt_221 : decode cX12_spoilt 221 = .ok (.invokevirtual 268, 3) := by decide +kernel
theorem dX12_spoilt_224 : decode cX12_spoilt 224 = .ok (.iload_n 3, 1) := by decide +kernel
theorem dX12_spoilt_225 : decode cX12_spoilt 225 = .ok (.iconst 1, 1) := by decide +kernel
theorem dX12_spoilt_226 : decode cX12_spoilt 226 = .ok (.if_icmp .ne 10, 3) := by decide +kernel
theorem dX12_spoilt_229 : decode cX12_spoilt 229 = .ok (.aload_n 0, 1) := by decide +kernel
theorem dX12_spoilt_230 : decode cX12_spoilt 230 = .ok (.getfield 259, 3) := by decide +kernel
theorem dX12_spoilt_233 : decode cX12_spoilt 233 = .ok (.goto 19, 3) := by decide +kernel
theorem dX12_spoilt_236 : decode cX12_spoilt 236 = .ok (.iload_n 3, 1) := by decide +kernel
theorem dX12_spoilt_237 : decode cX12_spoilt 237 = .ok (.iconst 2, 1) := by decide +kernel
theorem dX12_spoilt_238 : decode cX12_spoilt 238 = .ok (.if_icmp .ne 10, 3) := by decide +kernel
theorem dX12_spoilt_241 : decode cX12_spoilt 241 = .ok (.aload_n 0, 1) := by decide +kernel
theorem dX12_spoilt_242 : decode cX12_spoilt 242 = .ok (.getfield 262, 3) := by decide +kernel
theorem dX12_spoilt_245 : decode cX12_spoilt 245 = .ok (.goto 7, 3) := by decide +kernel
theorem dX12_spoilt_248 : decode cX12_spoilt 248 = .ok (.aload_n 0, 1) := by decide +kernel
theorem dX12_spoilt_249 : decode cX12_spoilt 249 = .ok (.getfield 265, 3) := by decide +kernel
theorem dX12_spoilt_252 : decode cX12_spoilt 252 = .ok (.istore 15, 2) := by decide +kernel
theorem dX12_spoilt_254 : decode cX12_spoilt 254 = .ok (.lload 9, 2) := by decide +kernel
theorem dX12_spoilt_256 : decode cX12_spoilt 256 = .ok (.aload_n 0, 1) := by decide +kernel
theorem dX12_spoilt_257 : decode cX12_spoilt 257 = .ok (.getfield 54, 3) := by decide +kernel
theorem dX12_spoilt_260 : decode cX12_spoilt 260 = .ok (.iload 12, 2) := by decide +kernel
theorem dX12_spoilt_262 : decode cX12_spoilt 262 = .ok (.laload, 1) := by decide +kernel
theorem dX12_spoilt_263 : decode cX12_spoilt 263 = .ok (.iload 14, 2) := by decide +kernel
theorem dX12_spoilt_265 : decode cX12_spoilt 265 = .ok (.i2l, 1) := by decide +kernel
theorem dX12_spoilt_266 : decode cX12_spoilt 266 = .ok (.lmul, 1) := by decide +kernel
theorem dX12_spoilt_267 : decode cX12_spoilt 267 = .ok (.iload 15, 2) := by decide +kernel
theorem dX12_spoilt_269 : decode cX12_spoilt 269 = .ok (.i2l, 1) := by decide +kernel
theorem dX12_spoilt_270 : decode cX12_spoilt 270 = .ok (.lmul, 1) := by decide +kernel
theorem dX12_spoilt_271 : decode cX12_spoilt 271 = .ok (.ladd, 1) := by decide +kernel
theorem dX12_spoilt_272 : decode cX12_spoilt 272 = .ok (.lstore 9, 2) := by decide +kernel
theorem dX12_spoilt_274 : decode cX12_spoilt 274 = .ok (.aload_n 0, 1) := by decide +kernel
theorem dX12_spoilt_275 : decode cX12_spoilt 275 = .ok (.bipush 25, 2) := by decide +kernel
theorem dX12_spoilt_277 : decode cX12_spoilt 277 = .ok (.iload_n 3, 1) := by decide +kernel
theorem dX12_spoilt_278 : decode cX12_spoilt 278 = .ok (.iconst 1, 1) := by decide +kernel
theorem dX12_spoilt_279 : decode cX12_spoilt 279 = .ok (.if_icmp .le 10, 3) := by decide +kernel
theorem dX12_spoilt_282 : decode cX12_spoilt 282 = .ok (.aload_n 0, 1) := by decide +kernel
theorem dX12_spoilt_283 : decode cX12_spoilt 283 = .ok (.getfield 259, 3) := by decide +kernel
theorem dX12_spoilt_286 : decode cX12_spoilt 286 = .ok (.goto 4, 3) := by decide +kernel
theorem dX12_spoilt_289 : decode cX12_spoilt 289 = .ok (.iconst 0, 1) := by decide +kernel
theorem dX12_spoilt_290 : decode cX12_spoilt 290 = .ok (.imul, 1) := by decide +kernel
theorem dX12_spoilt_291 : decode cX12_spoilt 291 = .ok (.iload_n 3, 1) := by decide +kernel
theorem dX12_spoilt_292 : decode cX12_spoilt 292 = .ok (.iconst 2, 1) := by decide +kernel
theorem dX12_spoilt_293 : decode cX12_spoilt 293 = .ok (.if_icmp .le 10, 3) := by decide +kernel
theorem dX12_spoilt_296 : decode cX12_spoilt 296 = .ok (.aload_n 0, 1) := by decide +kernel
theorem dX12_spoilt_297 : decode cX12_spoilt 297 = .ok (.getfield 262, 3) := by decide +kernel
theorem dX12_spoilt_300 : decode cX12_spoilt 300 = .ok (.goto 4, 3) := by decide +kernel
theorem dX12_spoilt_303 : decode cX12_spoilt 303 = .ok (.iconst 0, 1) := by decide +kernel
theorem dX12_spoilt_304 : decode cX12_spoilt 304 = .ok (.iadd, 1) := by decide +kernel
theorem dX12_spoilt_305 : decode cX12_spoilt 305 = .ok (.aload_n 0, 1) := by decide +kernel
theorem dX12_spoilt_306 : decode cX12_spoilt 306 = .ok (.getfield 54, 3) := by decide +kernel
theorem dX12_spoilt_309 : decode cX12_spoilt 309 = .ok (.iload 12, 2) := by decide +kernel
theorem dX12_spoilt_311 : decode cX12_spoilt 311 = .ok (.laload, 1) := by decide +kernel
theorem dX12_spoilt_312 : decode cX12_spoilt 312 = .ok (.iload 14, 2) := by decide +kernel
theorem dX12_spoilt_314 : decode cX12_spoilt 314 = .ok (.i2l, 1) := by decide +kernel
theorem dX12_spoilt_315 : decode cX12_spoilt 315 = .ok (.lmul, 1) := by decide +kernel
theorem dX12_spoilt_316 : decode cX12_spoilt 316 = .ok (.invokevirtual 217, 3) := by decide +kernel
theorem dX12_spoilt_319 : decode cX12_spoilt 319 = .ok (.iinc 13 1, 3) := by decide +kernel
theorem dX12_spoilt_322 : decode cX12_spoilt 322 = .ok (.goto (-175), 3) := by decide +kernel
theorem dX12_spoilt_325 : decode cX12_spoilt 325 = .ok (.iinc 12 1, 3) := by decide +kernel
theorem dX12_spoilt_328 : decode cX12_spoilt 328 = .ok (.goto (-193), 3) := by decide +kernel
theorem dX12_spoilt_331 : decode cX12_spoilt 331 = .ok (.aload_n 0, 1) := by decide +kernel
theorem dX12_spoilt_332 : decode cX12_spoilt 332 = .ok (.aload_n 0, 1) := by decide +kernel
theorem dX12_spoilt_333 : decode cX12_spoilt 333 = .ok (.getfield 181, 3) := by decide +kernel
theorem dX12_spoilt_336 : decode cX12_spoilt 336 = .ok (.putfield 203, 3) := by decide +kernel
theorem dX12_spoilt_339 : decode cX12_spoilt 339 = .ok (.iconst 0, 1) := by decide +kernel
theorem dX12_spoilt_340 : decode cX12_spoilt 340 = .ok (.istore 12, 2) := by decide +kernel
theorem dX12_spoilt_342 : decode cX12_spoilt 342 = .ok (.iload 12, 2) := by decide +kernel
theorem dX12_spoilt_344 : decode cX12_spoilt 344 = .ok (.aload_n 0, 1) := by decide +kernel
theorem dX12_spoilt_345 : decode cX12_spoilt 345 = .ok (.getfield 203, 3) := by decide +kernel
theorem dX12_spoilt_348 : decode cX12_spoilt 348 = .ok (.if_icmp .ge 37, 3) := by decide +kernel
theorem dX12_spoilt_351 : decode cX12_spoilt 351 = .ok (.aload_n 0, 1) := by decide +kernel
theorem dX12_spoilt_352 : decode cX12_spoilt 352 = .ok (.getfield 51, 3) := by decide +kernel
theorem dX12_spoilt_355 : decode cX12_spoilt 355 = .ok (.iload 12, 2) := by decide +kernel
theorem dX12_spoilt_357 : decode cX12_spoilt 357 = .ok (.aload_n 0, 1) := by decide +kernel
theorem dX12_spoilt_358 : decode cX12_spoilt 358 = .ok (.getfield 58, 3) := by decide +kernel
theorem dX12_spoilt_361 : decode cX12_spoilt 361 = .ok (.iload 12, 2) := by decide +kernel
theorem dX12_spoilt_363 : decode cX12_spoilt 363 = .ok (.iaload, 1) := by decide +kernel
theorem dX12_spoilt_364 : decode cX12_spoilt 364 = .ok (.iastore, 1) := by decide +kernel
theorem dX12_spoilt_365 : decode cX12_spoilt 365 = .ok (.aload_n 0, 1) := by decide +kernel
theorem dX12_spoilt_366 : decode cX12_spoilt 366 = .ok (.getfield 54, 3) := by decide +kernel
theorem dX12_spoilt_369 : decode cX12_spoilt 369 = .ok (.iload 12, 2) := by decide +kernel
theorem dX12_spoilt_371 : decode cX12_spoilt 371 = .ok (.aload_n 0, 1) := by decide +kernel
theorem dX12_spoilt_372 : decode cX12_spoilt 372 = .ok (.getfield 61, 3) := by decide +kernel
theorem dX12_spoilt_375 : decode cX12_spoilt 375 = .ok (.iload 12, 2) := by decide +kernel
theorem dX12_spoilt_377 : decode cX12_spoilt 377 = .ok (.laload, 1) := by decide +kernel
theorem dX12_spoilt_378 : decode cX12_spoilt 378 = .ok (.lastore, 1) := by decide +kernel
theorem dX12_spoilt_379 : decode cX12_spoilt 379 = .ok (.iinc 12 1, 3) := by decide +kernel
theorem dX12_spoilt_382 : decode cX12_spoilt 382 = .ok (.goto (-40), 3) := by decide +kernel
theorem dX12_spoilt_385 : decode cX12_spoilt 385 = .ok (.iinc 11 1, 3) := by decide +kernel
theorem dX12_spoilt_388 : decode cX12_spoilt 388 = .ok (.goto (-296), 3) := by decide +kernel
theorem dX12_spoilt_391 : decode cX12_spoilt 391 = .ok (.aload_n 0, 1) := by decide +kernel
theorem dX12_spoilt_392 : decode cX12_spoilt 392 = .ok (.lload 9, 2) := by decide +kernel
theorem dX12_spoilt_394 : decode cX12_spoilt 394 = .ok (.aload_n 0, 1) := by decide +kernel
theorem dX12_spoilt_395 : decode cX12_spoilt 395 = .ok (.getfield 196, 3) := by decide +kernel
theorem dX12_spoilt_398 : decode cX12_spoilt 398 = .ok (.iconst 1, 1) := by decide +kernel
theorem dX12_spoilt_399 : decode cX12_spoilt 399 = .ok (.invokevirtual 236, 3) := by decide +kernel
theorem dX12_spoilt_402 : decode cX12_spoilt 402 = .ok (.ireturn, 1) := by decide +kernel
theorem dX12_see_0 : decode cX12_see 0 = .ok (.iload_n 1, 1) := by decide +kernel
theorem dX12_see_1 : decode cX12_see 1 = .ok (.iconst 0, 1) := by decide +kernel
theorem dX12_see_2 : decode cX12_see 2 = .ok (.bipush 6, 2) := by decide +kernel
theorem dX12_see_4 : decode cX12_see 4 = .ok (.invokestatic 108, 3) := by decide +kernel
theorem dX12_see_7 : decode cX12_see 7 = .ok (.ifCond .ne 5, 3) := by decide +kernel
theorem dX12_see_10 : decode cX12_see 10 = .ok (.iconst (-1), 1) := by decide +kernel
theorem dX12_see_11 : decode cX12_see 11 = .ok (.ireturn, 1) := by decide +kernel
theorem dX12_see_12 : decode cX12_see 12 = .ok (.aload_n 0, 1) := by decide +kernel
theorem dX12_see_13 : decode cX12_see 13 = .ok (.getfield 272, 3) := by decide +kernel
theorem dX12_see_16 : decode cX12_see 16 = .ok (.bipush 6, 2) := by decide +kernel
theorem dX12_see_18 : decode cX12_see 18 = .ok (.if_icmp .ne 6, 3) := by decide +kernel
theorem dX12_see_21 : decode cX12_see 21 = .ok (.bipush (-2), 2) := by decide +kernel
theorem dX12_see_23 : decode cX12_see 23 = .ok (.ireturn, 1) := by decide +kernel
theorem dX12_see_24 : decode cX12_see 24 = .ok (.aload_n 0, 1) := by decide +kernel
theorem dX12_see_25 : decode cX12_see 25 = .ok (.getfield 76, 3) := by decide +kernel
theorem dX12_see_28 : decode cX12_see 28 = .ok (.aload_n 0, 1) := by decide +kernel
theorem dX12_see_29 : decode cX12_see 29 = .ok (.getfield 272, 3) := by decide +kernel
theorem dX12_see_32 : decode cX12_see 32 = .ok (.iload_n 1, 1) := by decide +kernel
theorem dX12_see_33 : decode cX12_see 33 = .ok (.iastore, 1) := by decide +kernel
theorem dX12_see_34 : decode cX12_see 34 = .ok (.aload_n 0, 1) := by decide +kernel
theorem dX12_see_35 : decode cX12_see 35 = .ok (.dup, 1) := by decide +kernel
theorem dX12_see_36 : decode cX12_see 36 = .ok (.getfield 272, 3) := by decide +kernel
theorem dX12_see_39 : decode cX12_see 39 = .ok (.iconst 1, 1) := by decide +kernel
theorem dX12_see_40 : decode cX12_see 40 = .ok (.iadd, 1) := by decide +kernel
theorem dX12_see_41 : decode cX12_see 41 = .ok (.putfield 272, 3) := by decide +kernel
theorem dX12_see_44 : decode cX12_see 44 = .ok (.aload_n 0, 1) := by decide +kernel
theorem dX12_see_45 : decode cX12_see 45 = .ok (.getfield 272, 3) := by decide +kernel
theorem dX12_see_48 : decode cX12_see 48 = .ok (.ireturn, 1) := by decide +kernel
theorem dX12_forget_0 : decode cX12_forget 0 = .ok (.aload_n 0, 1) := by decide +kernel
theorem dX12_forget_1 : decode cX12_forget 1 = .ok (.getfield 272, 3) := by decide +kernel
theorem dX12_forget_4 : decode cX12_forget 4 = .ok (.istore_n 1, 1) := by decide +kernel
theorem dX12_forget_5 : decode cX12_forget 5 = .ok (.aload_n 0, 1) := by decide +kernel
theorem dX12_forget_6 : decode cX12_forget 6 = .ok (.iconst 0, 1) := by decide +kernel
theorem dX12_forget_7 : decode cX12_forget 7 = .ok (.putfield 272, 3) := by decide +kernel
theorem dX12_forget_10 : decode cX12_forget 10 = .ok (.iload_n 1, 1) := by decide +kernel
theorem dX12_forget_11 : decode cX12_forget 11 = .ok (.ireturn, 1) := by decide +kernel
theorem dX12_doubt_0 : decode cX12_doubt 0 = .ok (.iload_n 1, 1) := by decide +kernel
theorem dX12_doubt_1 : decode cX12_doubt 1 = .ok (.invokestatic 119, 3) := by decide +kernel
theorem dX12_doubt_4 : decode cX12_doubt 4 = .ok (.ifCond .eq 36, 3) := by decide +kernel
theorem dX12_doubt_7 : decode cX12_doubt 7 = .ok (.iload_n 2, 1) := by decide +kernel
theorem dX12_doubt_8 : decode cX12_doubt 8 = .ok (.invokestatic 119, 3) := by decide +kernel
theorem dX12_doubt_11 : decode cX12_doubt 11 = .ok (.ifCond .eq 29, 3) := by decide +kernel
theorem dX12_doubt_14 : decode cX12_doubt 14 = .ok (.iload_n 1, 1) := by decide +kernel
theorem dX12_doubt_15 : decode cX12_doubt 15 = .ok (.iload_n 2, 1) := by decide +kernel
theorem dX12_doubt_16 : decode cX12_doubt 16 = .ok (.if_icmp .eq 24, 3) := by decide +kernel
theorem dX12_doubt_19 : decode cX12_doubt 19 = .ok (.iload_n 3, 1) := by decide +kernel
theorem dX12_doubt_20 : decode cX12_doubt 20 = .ok (.iconst 1, 1) := by decide +kernel
theorem dX12_doubt_21 : decode cX12_doubt 21 = .ok (.bipush 9, 2) := by decide +kernel
theorem dX12_doubt_23 : decode cX12_doubt 23 = .ok (.invokestatic 108, 3) := by decide +kernel
theorem dX12_doubt_26 : decode cX12_doubt 26 = .ok (.ifCond .eq 14, 3) := by decide +kernel
theorem dX12_doubt_29 : decode cX12_doubt 29 = .ok (.iload 4, 2) := by decide +kernel
theorem dX12_doubt_31 : decode cX12_doubt 31 = .ok (.iconst 1, 1) := by decide +kernel
theorem dX12_doubt_32 : decode cX12_doubt 32 = .ok (.bipush 9, 2) := by decide +kernel
theorem dX12_doubt_34 : decode cX12_doubt 34 = .ok (.invokestatic 108, 3) := by decide +kernel
theorem dX12_doubt_37 : decode cX12_doubt 37 = .ok (.ifCond .ne 5, 3) := by decide +kernel
theorem dX12_doubt_40 : decode cX12_doubt 40 = .ok (.iconst (-1), 1) := by decide +kernel
theorem dX12_doubt_41 : decode cX12_doubt 41 = .ok (.ireturn, 1) := by decide +kernel
theorem dX12_doubt_42 : decode cX12_doubt 42 = .ok (.aload_n 0, 1) := by decide +kernel
theorem dX12_doubt_43 : decode cX12_doubt 43 = .ok (.getfield 13, 3) := by decide +kernel
theorem dX12_doubt_46 : decode cX12_doubt 46 = .ok (.iload_n 1, 1) := by decide +kernel
theorem dX12_doubt_47 : decode cX12_doubt 47 = .ok (.baload, 1) := by decide +kernel
theorem dX12_doubt_48 : decode cX12_doubt 48 = .ok (.ifCond .eq 12, 3) := by decide +kernel
theorem dX12_doubt_51 : decode cX12_doubt 51 = .ok (.aload_n 0, 1) := by decide +kernel
theorem dX12_doubt_52 : decode cX12_doubt 52 = .ok (.getfield 13, 3) := by decide +kernel
theorem dX12_doubt_55 : decode cX12_doubt 55 = .ok (.iload_n 2, 1) := by decide +kernel
theorem dX12_doubt_56 : decode cX12_doubt 56 = .ok (.baload, 1) := by decide +kernel
theorem dX12_doubt_57 : decode cX12_doubt 57 = .ok (.ifCond .ne 9, 3) := by decide +kernel
theorem dX12_doubt_60 : decode cX12_doubt 60 = .ok (.aload_n 0, 1) := by decide +kernel
theorem dX12_doubt_61 : decode cX12_doubt 61 = .ok (.iconst 1, 1) := by decide +kernel
theorem dX12_doubt_62 : decode cX12_doubt 62 = .ok (.invokevirtual 123, 3) := by decide +kernel
theorem dX12_doubt_65 : decode cX12_doubt 65 = .ok (.ireturn, 1) := by decide +kernel
theorem dX12_doubt_66 : decode cX12_doubt 66 = .ok (.iload_n 3, 1) := by decide +kernel
theorem dX12_doubt_67 : decode cX12_doubt 67 = .ok (.i2l, 1) := by decide +kernel
theorem dX12_doubt_68 : decode cX12_doubt 68 = .ok (.lstore 5, 2) := by decide +kernel
theorem dX12_doubt_70 : decode cX12_doubt 70 = .ok (.iload 4, 2) := by decide +kernel
theorem dX12_doubt_72 : decode cX12_doubt 72 = .ok (.i2l, 1) := by decide +kernel
theorem dX12_doubt_73 : decode cX12_doubt 73 = .ok (.lstore 7, 2) := by decide +kernel
theorem dX12_doubt_75 : decode cX12_doubt 75 = .ok (.iconst 0, 1) := by decide +kernel
theorem dX12_doubt_76 : decode cX12_doubt 76 = .ok (.istore 9, 2) := by decide +kernel
theorem dX12_doubt_78 : decode cX12_doubt 78 = .ok (.iload 9, 2) := by decide +kernel
theorem dX12_doubt_80 : decode cX12_doubt 80 = .ok (.aload_n 0, 1) := by decide +kernel
theorem dX12_doubt_81 : decode cX12_doubt 81 = .ok (.getfield 272, 3) := by decide +kernel
theorem dX12_doubt_84 : decode cX12_doubt 84 = .ok (.if_icmp .ge 69, 3) := by decide +kernel
theorem dX12_doubt_87 : decode cX12_doubt 87 = .ok (.lload 5, 2) := by decide +kernel
theorem dX12_doubt_89 : decode cX12_doubt 89 = .ok (.aload_n 0, 1) := by decide +kernel
theorem dX12_doubt_90 : decode cX12_doubt 90 = .ok (.getfield 17, 3) := by decide +kernel
theorem dX12_doubt_93 : decode cX12_doubt 93 = .ok (.bipush 7, 2) := by decide +kernel
theorem dX12_doubt_95 : decode cX12_doubt 95 = .ok (.iload_n 1, 1) := by decide +kernel
theorem dX12_doubt_96 : decode cX12_doubt 96 = .ok (.imul, 1) := by decide +kernel
theorem dX12_doubt_97 : decode cX12_doubt 97 = .ok (.aload_n 0, 1) := by decide +kernel
theorem dX12_doubt_98 : decode cX12_doubt 98 = .ok (.getfield 76, 3) := by decide +kernel
theorem dX12_doubt_101 : decode cX12_doubt 101 = .ok (.iload 9, 2) := by decide +kernel
theorem dX12_doubt_103 : decode cX12_doubt 103 = .ok (.iaload, 1) := by decide +kernel
theorem dX12_doubt_104 : decode cX12_doubt 104 = .ok (.iadd, 1) := by decide +kernel
theorem dX12_doubt_105 : decode cX12_doubt 105 = .ok (.iaload, 1) := by decide +kernel
theorem dX12_doubt_106 : decode cX12_doubt 106 = .ok (.i2l, 1) := by decide +kernel
theorem dX12_doubt_107 : decode cX12_doubt 107 = .ok (.aload_n 0, 1) := by decide +kernel
theorem dX12_doubt_108 : decode cX12_doubt 108 = .ok (.iload_n 2, 1) := by decide +kernel
theorem dX12_doubt_109 : decode cX12_doubt 109 = .ok (.invokevirtual 129, 3) := by decide +kernel
theorem dX12_doubt_112 : decode cX12_doubt 112 = .ok (.i2l, 1) := by decide +kernel
theorem dX12_doubt_113 : decode cX12_doubt 113 = .ok (.lmul, 1) := by decide +kernel
theorem dX12_doubt_114 : decode cX12_doubt 114 = .ok (.lmul, 1) := by decide +kernel
theorem dX12_doubt_115 : decode cX12_doubt 115 = .ok (.lstore 5, 2) := by decide +kernel
theorem dX12_doubt_117 : decode cX12_doubt 117 = .ok (.lload 7, 2) := by decide +kernel
theorem dX12_doubt_119 : decode cX12_doubt 119 = .ok (.aload_n 0, 1) := by decide +kernel
theorem dX12_doubt_120 : decode cX12_doubt 120 = .ok (.getfield 17, 3) := by decide +kernel
theorem dX12_doubt_123 : decode cX12_doubt 123 = .ok (.bipush 7, 2) := by decide +kernel
theorem dX12_doubt_125 : decode cX12_doubt 125 = .ok (.iload_n 2, 1) := by decide +kernel
theorem dX12_doubt_126 : decode cX12_doubt 126 = .ok (.imul, 1) := by decide +kernel
theorem dX12_doubt_127 : decode cX12_doubt 127 = .ok (.aload_n 0, 1) := by decide +kernel
theorem dX12_doubt_128 : decode cX12_doubt 128 = .ok (.getfield 76, 3) := by decide +kernel
theorem dX12_doubt_131 : decode cX12_doubt 131 = .ok (.iload 9, 2) := by decide +kernel
theorem dX12_doubt_133 : decode cX12_doubt 133 = .ok (.iaload, 1) := by decide +kernel
theorem dX12_doubt_134 : decode cX12_doubt 134 = .ok (.iadd, 1) := by decide +kernel
theorem dX12_doubt_135 : decode cX12_doubt 135 = .ok (.iaload, 1) := by decide +kernel
theorem dX12_doubt_136 : decode cX12_doubt 136 = .ok (.i2l, 1) := by decide +kernel
theorem dX12_doubt_137 : decode cX12_doubt 137 = .ok (.aload_n 0, 1) := by decide +kernel
theorem dX12_doubt_138 : decode cX12_doubt 138 = .ok (.iload_n 1, 1) := by decide +kernel
theorem dX12_doubt_139 : decode cX12_doubt 139 = .ok (.invokevirtual 129, 3) := by decide +kernel
theorem dX12_doubt_142 : decode cX12_doubt 142 = .ok (.i2l, 1) := by decide +kernel
theorem dX12_doubt_143 : decode cX12_doubt 143 = .ok (.lmul, 1) := by decide +kernel
theorem dX12_doubt_144 : decode cX12_doubt 144 = .ok (.lmul, 1) := by decide +kernel
theorem dX12_doubt_145 : decode cX12_doubt 145 = .ok (.lstore 7, 2) := by decide +kernel
theorem dX12_doubt_147 : decode cX12_doubt 147 = .ok (.iinc 9 1, 3) := by decide +kernel
theorem dX12_doubt_150 : decode cX12_doubt 150 = .ok (.goto (-72), 3) := by decide +kernel
theorem dX12_doubt_153 : decode cX12_doubt 153 = .ok (.aload_n 0, 1) := by decide +kernel
theorem dX12_doubt_154 : decode cX12_doubt 154 = .ok (.iload_n 1, 1) := by decide +kernel
theorem dX12_doubt_155 : decode cX12_doubt 155 = .ok (.invokevirtual 129, 3) := by decide +kernel
theorem dX12_doubt_158 : decode cX12_doubt 158 = .ok (.ifCond .eq 21, 3) := by decide +kernel
theorem dX12_doubt_161 : decode cX12_doubt 161 = .ok (.aload_n 0, 1) := by decide +kernel
theorem dX12_doubt_162 : decode cX12_doubt 162 = .ok (.iload_n 2, 1) := by decide +kernel
theorem dX12_doubt_163 : decode cX12_doubt 163 = .ok (.invokevirtual 129, 3) := by decide +kernel
theorem dX12_doubt_166 : decode cX12_doubt 166 = .ok (.ifCond .eq 13, 3) := by decide +kernel
theorem dX12_doubt_169 : decode cX12_doubt 169 = .ok (.lload 5, 2) := by decide +kernel
theorem dX12_doubt_171 : decode cX12_doubt 171 = .ok (.lload 7, 2) := by decide +kernel
theorem dX12_doubt_173 : decode cX12_doubt 173 = .ok (.ladd, 1) := by decide +kernel
theorem dX12_doubt_174 : decode cX12_doubt 174 = .ok (.lconst 0, 1) := by decide +kernel
theorem dX12_doubt_175 : decode cX12_doubt 175 = .ok (.lcmp, 1) := by decide +kernel
theorem dX12_doubt_176 : decode cX12_doubt 176 = .ok (.ifCond .ne 9, 3) := by decide +kernel
theorem dX12_doubt_179 : decode cX12_doubt 179 = .ok (.aload_n 0, 1) := by decide +kernel
theorem dX12_doubt_180 : decode cX12_doubt 180 = .ok (.iconst 4, 1) := by decide +kernel
theorem dX12_doubt_181 : decode cX12_doubt 181 = .ok (.invokevirtual 123, 3) := by decide +kernel
theorem dX12_doubt_184 : decode cX12_doubt 184 = .ok (.ireturn, 1) := by decide +kernel
theorem dX12_doubt_185 : decode cX12_doubt 185 = .ok (.aload_n 0, 1) := by decide +kernel
theorem dX12_doubt_186 : decode cX12_doubt 186 = .ok (.lload 5, 2) := by decide +kernel
theorem dX12_doubt_188 : decode cX12_doubt 188 = .ok (.lload 5, 2) := by decide +kernel
theorem dX12_doubt_190 : decode cX12_doubt 190 = .ok (.lload 7, 2) := by decide +kernel
theorem dX12_doubt_192 : decode cX12_doubt 192 = .ok (.ladd, 1) := by decide +kernel
theorem dX12_doubt_193 : decode cX12_doubt 193 = .ok (.iconst 1, 1) := by decide +kernel
theorem dX12_doubt_194 : decode cX12_doubt 194 = .ok (.invokevirtual 236, 3) := by decide +kernel
theorem dX12_doubt_197 : decode cX12_doubt 197 = .ok (.ireturn, 1) := by decide +kernel
theorem dX12_count_0 : decode cX12_count 0 = .ok (.iconst 0, 1) := by decide +kernel
theorem dX12_count_1 : decode cX12_count 1 = .ok (.istore_n 2, 1) := by decide +kernel
theorem dX12_count_2 : decode cX12_count 2 = .ok (.iconst 0, 1) := by decide +kernel
theorem dX12_count_3 : decode cX12_count 3 = .ok (.istore_n 3, 1) := by decide +kernel
theorem dX12_count_4 : decode cX12_count 4 = .ok (.iload_n 3, 1) := by decide +kernel
theorem dX12_count_5 : decode cX12_count 5 = .ok (.aload_n 0, 1) := by decide +kernel
theorem dX12_count_6 : decode cX12_count 6 = .ok (.getfield 132, 3) := by decide +kernel
theorem dX12_count_9 : decode cX12_count 9 = .ok (.if_icmp .ge 26, 3) := by decide +kernel
theorem dX12_count_12 : decode cX12_count 12 = .ok (.iload_n 2, 1) := by decide +kernel
theorem dX12_count_13 : decode cX12_count 13 = .ok (.aload_n 0, 1) := by decide +kernel
theorem dX12_count_14 : decode cX12_count 14 = .ok (.getfield 48, 3) := by decide +kernel
theorem dX12_count_17 : decode cX12_count 17 = .ok (.iload_n 3, 1) := by decide +kernel
theorem dX12_count_18 : decode cX12_count 18 = .ok (.baload, 1) := by decide +kernel
theorem dX12_count_19 : decode cX12_count 19 = .ok (.ifCond .eq 7, 3) := by decide +kernel
theorem dX12_count_22 : decode cX12_count 22 = .ok (.iconst 0, 1) := by decide +kernel
theorem dX12_count_23 : decode cX12_count 23 = .ok (.goto 4, 3) := by decide +kernel
theorem dX12_count_26 : decode cX12_count 26 = .ok (.iconst 1, 1) := by decide +kernel
theorem dX12_count_27 : decode cX12_count 27 = .ok (.iadd, 1) := by decide +kernel
theorem dX12_count_28 : decode cX12_count 28 = .ok (.istore_n 2, 1) := by decide +kernel
theorem dX12_count_29 : decode cX12_count 29 = .ok (.iinc 3 1, 3) := by decide +kernel
theorem dX12_count_32 : decode cX12_count 32 = .ok (.goto (-28), 3) := by decide +kernel
theorem dX12_count_35 : decode cX12_count 35 = .ok (.iload_n 1, 1) := by decide +kernel
theorem dX12_count_36 : decode cX12_count 36 = .ok (.tableswitch 75 0 5 #[40, 45, 47, 52, 57, 62], 40) := by decide +kernel
theorem dX12_count_76 : decode cX12_count 76 = .ok (.aload_n 0, 1) := by decide +kernel
theorem dX12_count_77 : decode cX12_count 77 = .ok (.getfield 132, 3) := by decide +kernel
theorem dX12_count_80 : decode cX12_count 80 = .ok (.ireturn, 1) := by decide +kernel
theorem dX12_count_81 : decode cX12_count 81 = .ok (.iload_n 2, 1) := by decide +kernel
theorem dX12_count_82 : decode cX12_count 82 = .ok (.ireturn, 1) := by decide +kernel
theorem dX12_count_83 : decode cX12_count 83 = .ok (.aload_n 0, 1) := by decide +kernel
theorem dX12_count_84 : decode cX12_count 84 = .ok (.getfield 272, 3) := by decide +kernel
theorem dX12_count_87 : decode cX12_count 87 = .ok (.ireturn, 1) := by decide +kernel
theorem dX12_count_88 : decode cX12_count 88 = .ok (.aload_n 0, 1) := by decide +kernel
theorem dX12_count_89 : decode cX12_count 89 = .ok (.getfield 83, 3) := by decide +kernel
theorem dX12_count_92 : decode cX12_count 92 = .ok (.ireturn, 1) := by decide +kernel
theorem dX12_count_93 : decode cX12_count 93 = .ok (.aload_n 0, 1) := by decide +kernel
theorem dX12_count_94 : decode cX12_count 94 = .ok (.getfield 153, 3) := by decide +kernel
theorem dX12_count_97 : decode cX12_count 97 = .ok (.ireturn, 1) := by decide +kernel
theorem dX12_count_98 : decode cX12_count 98 = .ok (.aload_n 0, 1) := by decide +kernel
theorem dX12_count_99 : decode cX12_count 99 = .ok (.getfield 156, 3) := by decide +kernel
theorem dX12_count_102 : decode cX12_count 102 = .ok (.ifCond .eq 7, 3) := by decide +kernel
theorem dX12_count_105 : decode cX12_count 105 = .ok (.iconst 1, 1) := by decide +kernel
theorem dX12_count_106 : decode cX12_count 106 = .ok (.goto 4, 3) := by decide +kernel
theorem dX12_count_109 : decode cX12_count 109 = .ok (.iconst 0, 1) := by decide +kernel
theorem dX12_count_110 : decode cX12_count 110 = .ok (.ireturn, 1) := by decide +kernel
theorem dX12_count_111 : decode cX12_count 111 = .ok (.iconst (-1), 1) := by decide +kernel
theorem dX12_count_112 : decode cX12_count 112 = .ok (.ireturn, 1) := by decide +kernel
theorem dX12_digest_0 : decode cX12_digest 0 = .ok (.ldc2_w 275, 3) := by decide +kernel
theorem dX12_digest_3 : decode cX12_digest 3 = .ok (.lstore_n 1, 1) := by decide +kernel
theorem dX12_digest_4 : decode cX12_digest 4 = .ok (.iconst 0, 1) := by decide +kernel
theorem dX12_digest_5 : decode cX12_digest 5 = .ok (.istore_n 3, 1) := by decide +kernel
theorem dX12_digest_6 : decode cX12_digest 6 = .ok (.iload_n 3, 1) := by decide +kernel
theorem dX12_digest_7 : decode cX12_digest 7 = .ok (.bipush 6, 2) := by decide +kernel
theorem dX12_digest_9 : decode cX12_digest 9 = .ok (.if_icmp .ge 22, 3) := by decide +kernel
theorem dX12_digest_12 : decode cX12_digest 12 = .ok (.ldc2_w 277, 3) := by decide +kernel
theorem dX12_digest_15 : decode cX12_digest 15 = .ok (.lload_n 1, 1) := by decide +kernel
theorem dX12_digest_16 : decode cX12_digest 16 = .ok (.lmul, 1) := by decide +kernel
theorem dX12_digest_17 : decode cX12_digest 17 = .ok (.aload_n 0, 1) := by decide +kernel
theorem dX12_digest_18 : decode cX12_digest 18 = .ok (.iload_n 3, 1) := by decide +kernel
theorem dX12_digest_19 : decode cX12_digest 19 = .ok (.invokevirtual 279, 3) := by decide +kernel
theorem dX12_digest_22 : decode cX12_digest 22 = .ok (.i2l, 1) := by decide +kernel
theorem dX12_digest_23 : decode cX12_digest 23 = .ok (.ladd, 1) := by decide +kernel
theorem dX12_digest_24 : decode cX12_digest 24 = .ok (.lstore_n 1, 1) := by decide +kernel
theorem dX12_digest_25 : decode cX12_digest 25 = .ok (.iinc 3 1, 3) := by decide +kernel
theorem dX12_digest_28 : decode cX12_digest 28 = .ok (.goto (-22), 3) := by decide +kernel
theorem dX12_digest_31 : decode cX12_digest 31 = .ok (.ldc2_w 277, 3) := by decide +kernel
theorem dX12_digest_34 : decode cX12_digest 34 = .ok (.ldc2_w 277, 3) := by decide +kernel
theorem dX12_digest_37 : decode cX12_digest 37 = .ok (.ldc2_w 277, 3) := by decide +kernel
theorem dX12_digest_40 : decode cX12_digest 40 = .ok (.ldc2_w 277, 3) := by decide +kernel
theorem dX12_digest_43 : decode cX12_digest 43 = .ok (.lload_n 1, 1) := by decide +kernel
theorem dX12_digest_44 : decode cX12_digest 44 = .ok (.lmul, 1) := by decide +kernel
theorem dX12_digest_45 : decode cX12_digest 45 = .ok (.aload_n 0, 1) := by decide +kernel
theorem dX12_digest_46 : decode cX12_digest 46 = .ok (.getfield 87, 3) := by decide +kernel
theorem dX12_digest_49 : decode cX12_digest 49 = .ok (.i2l, 1) := by decide +kernel
theorem dX12_digest_50 : decode cX12_digest 50 = .ok (.ladd, 1) := by decide +kernel
theorem dX12_digest_51 : decode cX12_digest 51 = .ok (.lmul, 1) := by decide +kernel
theorem dX12_digest_52 : decode cX12_digest 52 = .ok (.aload_n 0, 1) := by decide +kernel
theorem dX12_digest_53 : decode cX12_digest 53 = .ok (.getfield 90, 3) := by decide +kernel
theorem dX12_digest_56 : decode cX12_digest 56 = .ok (.i2l, 1) := by decide +kernel
theorem dX12_digest_57 : decode cX12_digest 57 = .ok (.ladd, 1) := by decide +kernel
theorem dX12_digest_58 : decode cX12_digest 58 = .ok (.lmul, 1) := by decide +kernel
theorem dX12_digest_59 : decode cX12_digest 59 = .ok (.aload_n 0, 1) := by decide +kernel
theorem dX12_digest_60 : decode cX12_digest 60 = .ok (.getfield 93, 3) := by decide +kernel
theorem dX12_digest_63 : decode cX12_digest 63 = .ok (.i2l, 1) := by decide +kernel
theorem dX12_digest_64 : decode cX12_digest 64 = .ok (.ladd, 1) := by decide +kernel
theorem dX12_digest_65 : decode cX12_digest 65 = .ok (.lmul, 1) := by decide +kernel
theorem dX12_digest_66 : decode cX12_digest 66 = .ok (.aload_n 0, 1) := by decide +kernel
theorem dX12_digest_67 : decode cX12_digest 67 = .ok (.getfield 96, 3) := by decide +kernel
theorem dX12_digest_70 : decode cX12_digest 70 = .ok (.i2l, 1) := by decide +kernel
theorem dX12_digest_71 : decode cX12_digest 71 = .ok (.ladd, 1) := by decide +kernel
theorem dX12_digest_72 : decode cX12_digest 72 = .ok (.lstore_n 1, 1) := by decide +kernel
theorem dX12_digest_73 : decode cX12_digest 73 = .ok (.iconst 0, 1) := by decide +kernel
theorem dX12_digest_74 : decode cX12_digest 74 = .ok (.istore_n 3, 1) := by decide +kernel
theorem dX12_digest_75 : decode cX12_digest 75 = .ok (.iload_n 3, 1) := by decide +kernel
theorem dX12_digest_76 : decode cX12_digest 76 = .ok (.iconst 4, 1) := by decide +kernel
theorem dX12_digest_77 : decode cX12_digest 77 = .ok (.if_icmp .ge 75, 3) := by decide +kernel
theorem dX12_digest_80 : decode cX12_digest 80 = .ok (.aload_n 0, 1) := by decide +kernel
theorem dX12_digest_81 : decode cX12_digest 81 = .ok (.getfield 13, 3) := by decide +kernel
theorem dX12_digest_84 : decode cX12_digest 84 = .ok (.iload_n 3, 1) := by decide +kernel
theorem dX12_digest_85 : decode cX12_digest 85 = .ok (.baload, 1) := by decide +kernel
theorem dX12_digest_86 : decode cX12_digest 86 = .ok (.ifCond .eq 7, 3) := by decide +kernel
theorem dX12_digest_89 : decode cX12_digest 89 = .ok (.lload_n 1, 1) := by decide +kernel
theorem dX12_digest_90 : decode cX12_digest 90 = .ok (.goto 10, 3) := by decide +kernel
theorem dX12_digest_93 : decode cX12_digest 93 = .ok (.ldc2_w 277, 3) := by decide +kernel
theorem dX12_digest_96 : decode cX12_digest 96 = .ok (.lload_n 1, 1) := by decide +kernel
theorem dX12_digest_97 : decode cX12_digest 97 = .ok (.lmul, 1) := by decide +kernel
theorem dX12_digest_98 : decode cX12_digest 98 = .ok (.lconst 1, 1) := by decide +kernel
theorem dX12_digest_99 : decode cX12_digest 99 = .ok (.lsub, 1) := by decide +kernel
theorem dX12_digest_100 : decode cX12_digest 100 = .ok (.lstore_n 1, 1) := by decide +kernel
theorem dX12_digest_101 : decode cX12_digest 101 = .ok (.iconst 0, 1) := by decide +kernel
theorem dX12_digest_102 : decode cX12_digest 102 = .ok (.istore 4, 2) := by decide +kernel
theorem dX12_digest_104 : decode cX12_digest 104 = .ok (.iload 4, 2) := by decide +kernel
theorem dX12_digest_106 : decode cX12_digest 106 = .ok (.bipush 7, 2) := by decide +kernel
theorem dX12_digest_108 : decode cX12_digest 108 = .ok (.if_icmp .ge 38, 3) := by decide +kernel
theorem dX12_digest_111 : decode cX12_digest 111 = .ok (.aload_n 0, 1) := by decide +kernel
theorem dX12_digest_112 : decode cX12_digest 112 = .ok (.getfield 13, 3) := by decide +kernel
theorem dX12_digest_115 : decode cX12_digest 115 = .ok (.iload_n 3, 1) := by decide +kernel
theorem dX12_digest_116 : decode cX12_digest 116 = .ok (.baload, 1) := by decide +kernel
theorem dX12_digest_117 : decode cX12_digest 117 = .ok (.ifCond .eq 29, 3) := by decide +kernel
theorem dX12_digest_120 : decode cX12_digest 120 = .ok (.ldc2_w 277, 3) := by decide +kernel
theorem dX12_digest_123 : decode cX12_digest 123 = .ok (.lload_n 1, 1) := by decide +kernel
theorem dX12_digest_124 : decode cX12_digest 124 = .ok (.lmul, 1) := by decide +kernel
theorem dX12_digest_125 : decode cX12_digest 125 = .ok (.aload_n 0, 1) := by decide +kernel
theorem dX12_digest_126 : decode cX12_digest 126 = .ok (.getfield 17, 3) := by decide +kernel
theorem dX12_digest_129 : decode cX12_digest 129 = .ok (.bipush 7, 2) := by decide +kernel
theorem dX12_digest_131 : decode cX12_digest 131 = .ok (.iload_n 3, 1) := by decide +kernel
theorem dX12_digest_132 : decode cX12_digest 132 = .ok (.imul, 1) := by decide +kernel
theorem dX12_digest_133 : decode cX12_digest 133 = .ok (.iload 4, 2) := by decide +kernel
theorem dX12_digest_135 : decode cX12_digest 135 = .ok (.iadd, 1) := by decide +kernel
theorem dX12_digest_136 : decode cX12_digest 136 = .ok (.iaload, 1) := by decide +kernel
theorem dX12_digest_137 : decode cX12_digest 137 = .ok (.i2l, 1) := by decide +kernel
theorem dX12_digest_138 : decode cX12_digest 138 = .ok (.ladd, 1) := by decide +kernel
theorem dX12_digest_139 : decode cX12_digest 139 = .ok (.lstore_n 1, 1) := by decide +kernel
theorem dX12_digest_140 : decode cX12_digest 140 = .ok (.iinc 4 1, 3) := by decide +kernel
theorem dX12_digest_143 : decode cX12_digest 143 = .ok (.goto (-39), 3) := by decide +kernel
theorem dX12_digest_146 : decode cX12_digest 146 = .ok (.iinc 3 1, 3) := by decide +kernel
theorem dX12_digest_149 : decode cX12_digest 149 = .ok (.goto (-74), 3) := by decide +kernel
theorem dX12_digest_152 : decode cX12_digest 152 = .ok (.iconst 0, 1) := by decide +kernel
theorem dX12_digest_153 : decode cX12_digest 153 = .ok (.istore_n 3, 1) := by decide +kernel
theorem dX12_digest_154 : decode cX12_digest 154 = .ok (.iload_n 3, 1) := by decide +kernel
theorem dX12_digest_155 : decode cX12_digest 155 = .ok (.aload_n 0, 1) := by decide +kernel
theorem dX12_digest_156 : decode cX12_digest 156 = .ok (.getfield 132, 3) := by decide +kernel
theorem dX12_digest_159 : decode cX12_digest 159 = .ok (.if_icmp .ge 69, 3) := by decide +kernel
theorem dX12_digest_162 : decode cX12_digest 162 = .ok (.aload_n 0, 1) := by decide +kernel
theorem dX12_digest_163 : decode cX12_digest 163 = .ok (.getfield 48, 3) := by decide +kernel
theorem dX12_digest_166 : decode cX12_digest 166 = .ok (.iload_n 3, 1) := by decide +kernel
theorem dX12_digest_167 : decode cX12_digest 167 = .ok (.baload, 1) := by decide +kernel
theorem dX12_digest_168 : decode cX12_digest 168 = .ok (.ifCond .eq 13, 3) := by decide +kernel
theorem dX12_digest_171 : decode cX12_digest 171 = .ok (.ldc2_w 277, 3) := by decide +kernel
theorem dX12_digest_174 : decode cX12_digest 174 = .ok (.lload_n 1, 1) := by decide +kernel
theorem dX12_digest_175 : decode cX12_digest 175 = .ok (.lmul, 1) := by decide +kernel
theorem dX12_digest_176 : decode cX12_digest 176 = .ok (.lconst 1, 1) := by decide +kernel
theorem dX12_digest_177 : decode cX12_digest 177 = .ok (.lsub, 1) := by decide +kernel
theorem dX12_digest_178 : decode cX12_digest 178 = .ok (.goto 4, 3) := by decide +kernel
theorem dX12_digest_181 : decode cX12_digest 181 = .ok (.lload_n 1, 1) := by decide +kernel
theorem dX12_digest_182 : decode cX12_digest 182 = .ok (.lstore_n 1, 1) := by decide +kernel
theorem dX12_digest_183 : decode cX12_digest 183 = .ok (.iconst 0, 1) := by decide +kernel
theorem dX12_digest_184 : decode cX12_digest 184 = .ok (.istore 4, 2) := by decide +kernel
theorem dX12_digest_186 : decode cX12_digest 186 = .ok (.iload 4, 2) := by decide +kernel
theorem dX12_digest_188 : decode cX12_digest 188 = .ok (.iconst 5, 1) := by decide +kernel
theorem dX12_digest_189 : decode cX12_digest 189 = .ok (.if_icmp .ge 33, 3) := by decide +kernel
theorem dX12_digest_192 : decode cX12_digest 192 = .ok (.aload_n 0, 1) := by decide +kernel
theorem dX12_digest_193 : decode cX12_digest 193 = .ok (.getfield 48, 3) := by decide +kernel
theorem dX12_digest_196 : decode cX12_digest 196 = .ok (.iload_n 3, 1) := by decide +kernel
theorem dX12_digest_197 : decode cX12_digest 197 = .ok (.baload, 1) := by decide +kernel
theorem dX12_digest_198 : decode cX12_digest 198 = .ok (.ifCond .ne 24, 3) := by decide +kernel
theorem dX12_digest_201 : decode cX12_digest 201 = .ok (.ldc2_w 277, 3) := by decide +kernel
theorem dX12_digest_204 : decode cX12_digest 204 = .ok (.lload_n 1, 1) := by decide +kernel
theorem dX12_digest_205 : decode cX12_digest 205 = .ok (.lmul, 1) := by decide +kernel
theorem dX12_digest_206 : decode cX12_digest 206 = .ok (.aload_n 0, 1) := by decide +kernel
theorem dX12_digest_207 : decode cX12_digest 207 = .ok (.iload_n 3, 1) := by decide +kernel
theorem dX12_digest_208 : decode cX12_digest 208 = .ok (.iload 4, 2) := by decide +kernel
theorem dX12_digest_210 : decode cX12_digest 210 = .ok (.invokevirtual 146, 3) := by decide +kernel
theorem dX12_digest_213 : decode cX12_digest 213 = .ok (.i2l, 1) := by decide +kernel
theorem dX12_digest_214 : decode cX12_digest 214 = .ok (.ladd, 1) := by decide +kernel
theorem dX12_digest_215 : decode cX12_digest 215 = .ok (.lstore_n 1, 1) := by decide +kernel
theorem dX12_digest_216 : decode cX12_digest 216 = .ok (.iinc 4 1, 3) := by decide +kernel
theorem dX12_digest_219 : decode cX12_digest 219 = .ok (.goto (-33), 3) := by decide +kernel
theorem dX12_digest_222 : decode cX12_digest 222 = .ok (.iinc 3 1, 3) := by decide +kernel
theorem dX12_digest_225 : decode cX12_digest 225 = .ok (.goto (-71), 3) := by decide +kernel
theorem dX12_digest_228 : decode cX12_digest 228 = .ok (.iconst 0, 1) := by decide +kernel
theorem dX12_digest_229 : decode cX12_digest 229 = .ok (.istore_n 3, 1) := by decide +kernel
theorem dX12_digest_230 : decode cX12_digest 230 = .ok (.iload_n 3, 1) := by decide +kernel
theorem dX12_digest_231 : decode cX12_digest 231 = .ok (.iconst 4, 1) := by decide +kernel
theorem dX12_digest_232 : decode cX12_digest 232 = .ok (.if_icmp .ge 63, 3) := by decide +kernel
theorem dX12_digest_235 : decode cX12_digest 235 = .ok (.ldc2_w 277, 3) := by decide +kernel
theorem dX12_digest_238 : decode cX12_digest 238 = .ok (.lload_n 1, 1) := by decide +kernel
theorem dX12_digest_239 : decode cX12_digest 239 = .ok (.lmul, 1) := by decide +kernel
theorem dX12_digest_240 : decode cX12_digest 240 = .ok (.aload_n 0, 1) := by decide +kernel
theorem dX12_digest_241 : decode cX12_digest 241 = .ok (.getfield 23, 3) := by decide +kernel
theorem dX12_digest_244 : decode cX12_digest 244 = .ok (.iload_n 3, 1) := by decide +kernel
theorem dX12_digest_245 : decode cX12_digest 245 = .ok (.iaload, 1) := by decide +kernel
theorem dX12_digest_246 : decode cX12_digest 246 = .ok (.i2l, 1) := by decide +kernel
theorem dX12_digest_247 : decode cX12_digest 247 = .ok (.ladd, 1) := by decide +kernel
theorem dX12_digest_248 : decode cX12_digest 248 = .ok (.lstore_n 1, 1) := by decide +kernel
theorem dX12_digest_249 : decode cX12_digest 249 = .ok (.iconst 0, 1) := by decide +kernel
theorem dX12_digest_250 : decode cX12_digest 250 = .ok (.istore 4, 2) := by decide +kernel
theorem dX12_digest_252 : decode cX12_digest 252 = .ok (.iload 4, 2) := by decide +kernel
theorem dX12_digest_254 : decode cX12_digest 254 = .ok (.aload_n 0, 1) := by decide +kernel
theorem dX12_digest_255 : decode cX12_digest 255 = .ok (.getfield 23, 3) := by decide +kernel
theorem dX12_digest_258 : decode cX12_digest 258 = .ok (.iload_n 3, 1) := by decide +kernel
theorem dX12_digest_259 : decode cX12_digest 259 = .ok (.iaload, 1) := by decide +kernel
theorem dX12_digest_260 : decode cX12_digest 260 = .ok (.if_icmp .ge 29, 3) := by decide +kernel
theorem dX12_digest_263 : decode cX12_digest 263 = .ok (.ldc2_w 277, 3) := by decide +kernel
theorem dX12_digest_266 : decode cX12_digest 266 = .ok (.lload_n 1, 1) := by decide +kernel
theorem dX12_digest_267 : decode cX12_digest 267 = .ok (.lmul, 1) := by decide +kernel
theorem dX12_digest_268 : decode cX12_digest 268 = .ok (.aload_n 0, 1) := by decide +kernel
theorem dX12_digest_269 : decode cX12_digest 269 = .ok (.getfield 26, 3) := by decide +kernel
theorem dX12_digest_272 : decode cX12_digest 272 = .ok (.bipush 25, 2) := by decide +kernel
theorem dX12_digest_274 : decode cX12_digest 274 = .ok (.iload_n 3, 1) := by decide +kernel
theorem dX12_digest_275 : decode cX12_digest 275 = .ok (.imul, 1) := by decide +kernel
theorem dX12_digest_276 : decode cX12_digest 276 = .ok (.iload 4, 2) := by decide +kernel
theorem dX12_digest_278 : decode cX12_digest 278 = .ok (.iadd, 1) := by decide +kernel
theorem dX12_digest_279 : decode cX12_digest 279 = .ok (.baload, 1) := by decide +kernel
theorem dX12_digest_280 : decode cX12_digest 280 = .ok (.i2l, 1) := by decide +kernel
theorem dX12_digest_281 : decode cX12_digest 281 = .ok (.ladd, 1) := by decide +kernel
theorem dX12_digest_282 : decode cX12_digest 282 = .ok (.lstore_n 1, 1) := by decide +kernel
theorem dX12_digest_283 : decode cX12_digest 283 = .ok (.iinc 4 1, 3) := by decide +kernel
theorem dX12_digest_286 : decode cX12_digest 286 = .ok (.goto (-34), 3) := by decide +kernel
theorem dX12_digest_289 : decode cX12_digest 289 = .ok (.iinc 3 1, 3) := by decide +kernel
theorem dX12_digest_292 : decode cX12_digest 292 = .ok (.goto (-62), 3) := by decide +kernel
theorem dX12_digest_295 : decode cX12_digest 295 = .ok (.lload_n 1, 1) := by decide +kernel
theorem dX12_digest_296 : decode cX12_digest 296 = .ok (.lreturn, 1) := by decide +kernel
end
section
theorem k_0 : Cond.selects RX11 yX11_refuse yX11_refuse ∈ gTab := gTab_in 0 (by decide +kernel) rfl
theorem k_1 : Cond.selects RX11 yX11_keep yX11_keep ∈ gTab := gTab_in 1 (by decide +kernel) rfl
theorem k_2 : Cond.selects RX11 yX11_isRule yX11_isRule ∈ gTab := gTab_in 2 (by decide +kernel) rfl
theorem k_3 : Cond.selects RX11 yX11_isStart yX11_isStart ∈ gTab := gTab_in 3 (by decide +kernel) rfl
theorem k_4 : Cond.selects RX6 yX6_reckonDemand yX6_reckonDemand ∈ gTab := gTab_in 4 (by decide +kernel) rfl
theorem k_5 : Cond.selects RX10 yX10_begin yX10_begin ∈ gTab := gTab_in 5 (by decide +kernel) rfl
theorem k_6 : Cond.selects RX10 yX10_passDay yX10_passDay ∈ gTab := gTab_in 6 (by decide +kernel) rfl
theorem k_7 : Cond.selects RX10 yX10_passFrom yX10_passFrom ∈ gTab := gTab_in 7 (by decide +kernel) rfl
theorem k_8 : Cond.selects RX10 yX10_orderAt yX10_orderAt ∈ gTab := gTab_in 8 (by decide +kernel) rfl
theorem k_9 : Cond.selects RX11 yX11_tell yX11_tell ∈ gTab := gTab_in 9 (by decide +kernel) rfl
theorem k_10 : Cond.selects RX4 yX4_turnTo yX4_turnTo ∈ gTab := gTab_in 10 (by decide +kernel) rfl
theorem k_11 : Cond.selects RX4 yX4_usefulOrder yX4_usefulOrder ∈ gTab := gTab_in 11 (by decide +kernel) rfl
theorem k_12 : Cond.selects RX4 yX4_planDay yX4_planDay ∈ gTab := gTab_in 12 (by decide +kernel) rfl
theorem k_13 : Cond.selects RX4 yX4_choose yX4_choose ∈ gTab := gTab_in 13 (by decide +kernel) rfl
theorem k_14 : Cond.selects RX4 yX4_priceOf yX4_priceOf ∈ gTab := gTab_in 14 (by decide +kernel) rfl
theorem k_15 : Cond.selects RX4 yX4_laterAt yX4_laterAt ∈ gTab := gTab_in 15 (by decide +kernel) rfl
theorem k_16 : Cond.selects RX11 yX11_seekPair yX11_seekPair ∈ gTab := gTab_in 16 (by decide +kernel) rfl
theorem k_17 : Cond.selects RX7 yX7_passFrom yX7_passFrom ∈ gTab := gTab_in 17 (by decide +kernel) rfl
theorem k_18 : Cond.selects RX7 yX7_give yX7_give ∈ gTab := gTab_in 18 (by decide +kernel) rfl
theorem k_19 : Cond.selects RX11 yX11_weightOfSeen yX11_weightOfSeen ∈ gTab := gTab_in 19 (by decide +kernel) rfl
theorem k_20 : Cond.selects RX11 yX11_rulesThere yX11_rulesThere ∈ gTab := gTab_in 20 (by decide +kernel) rfl
theorem k_21 : Cond.selects RX11 yX11_digestBooks yX11_digestBooks ∈ gTab := gTab_in 21 (by decide +kernel) rfl
theorem k_22 : Cond.selects RX11 yX11_digestRules yX11_digestRules ∈ gTab := gTab_in 22 (by decide +kernel) rfl
theorem k_23 : Cond.selects RX11 yX11_digestSheets yX11_digestSheets ∈ gTab := gTab_in 23 (by decide +kernel) rfl
theorem k_24 : Cond.selects RX12 yX12_meets yX12_meets ∈ gTab := gTab_in 24 (by decide +kernel) rfl
theorem k_25 : Cond.selects RX12 yX12_allOf yX12_allOf ∈ gTab := gTab_in 25 (by decide +kernel) rfl
theorem k_26 : Cond.selects RX12 yX12_add yX12_add ∈ gTab := gTab_in 26 (by decide +kernel) rfl
theorem k_27 : Cond.selects RX12 yX12_need yX12_need ∈ gTab := gTab_in 27 (by decide +kernel) rfl
theorem k_28 : Cond.selects RX12 yX12_isRule yX12_isRule ∈ gTab := gTab_in 28 (by decide +kernel) rfl
theorem k_29 : Cond.selects RX12 yX12_toldOf yX12_toldOf ∈ gTab := gTab_in 29 (by decide +kernel) rfl
theorem k_30 : Cond.selects RX12 yX12_orders yX12_orders ∈ gTab := gTab_in 30 (by decide +kernel) rfl
theorem k_31 : Cond.selects RX12 yX12_needBoth yX12_needBoth ∈ gTab := gTab_in 31 (by decide +kernel) rfl
theorem k_32 : Cond.selects RX12 yX12_isStart yX12_isStart ∈ gTab := gTab_in 32 (by decide +kernel) rfl
theorem k_33 : Cond.selects RX12 yX12_needBook yX12_needBook ∈ gTab := gTab_in 33 (by decide +kernel) rfl
theorem k_34 : Cond.selects RX12 yX12_goThrough yX12_goThrough ∈ gTab := gTab_in 34 (by decide +kernel) rfl
theorem k_35 : Cond.selects RX12 yX12_goOn yX12_goOn ∈ gTab := gTab_in 35 (by decide +kernel) rfl
theorem k_36 : Cond.selects RX12 yX12_day yX12_day ∈ gTab := gTab_in 36 (by decide +kernel) rfl
theorem k_37 : Cond.selects RX12 yX12_put yX12_put ∈ gTab := gTab_in 37 (by decide +kernel) rfl
theorem k_38 : Cond.selects RX12 yX12_tells yX12_tells ∈ gTab := gTab_in 38 (by decide +kernel) rfl
theorem k_39 : Cond.selects RX12 yX12_leastFrom yX12_leastFrom ∈ gTab := gTab_in 39 (by decide +kernel) rfl
theorem k_40 : Cond.selects RX12 yX12_goThroughPair yX12_goThroughPair ∈ gTab := gTab_in 40 (by decide +kernel) rfl
theorem k_41 : Cond.selects RX12 yX12_give yX12_give ∈ gTab := gTab_in 41 (by decide +kernel) rfl
theorem k_43 : Cond.initialized RX11 ∈ gTab := gTab_in 43 (by decide +kernel) rfl
theorem k_44 : Cond.initialized RX6 ∈ gTab := gTab_in 44 (by decide +kernel) rfl
theorem k_45 : Cond.initialized RX1 ∈ gTab := gTab_in 45 (by decide +kernel) rfl
theorem k_46 : Cond.initialized RX8 ∈ gTab := gTab_in 46 (by decide +kernel) rfl
theorem k_47 : Cond.initialized RX10 ∈ gTab := gTab_in 47 (by decide +kernel) rfl
theorem k_48 : Cond.initialized RX4 ∈ gTab := gTab_in 48 (by decide +kernel) rfl
theorem k_49 : Cond.initialized RX7 ∈ gTab := gTab_in 49 (by decide +kernel) rfl
theorem k_50 : Cond.initialized RX12 ∈ gTab := gTab_in 50 (by decide +kernel) rfl
theorem k_52 : Cond.initialized RX5 ∈ gTab := gTab_in 52 (by decide +kernel) rfl
theorem k_53 : Cond.initialized RX9 ∈ gTab := gTab_in 53 (by decide +kernel) rfl
theorem k_55 : Cond.initialized RX0 ∈ gTab := gTab_in 55 (by decide +kernel) rfl
theorem k_56 : Cond.initialized RX3 ∈ gTab := gTab_in 56 (by decide +kernel) rfl
theorem k_57 : Cond.initialized RX2 ∈ gTab := gTab_in 57 (by decide +kernel) rfl
theorem k_63 : Cond.methodLink RX11 3 Lib.objectInit ∈ gTab := gTab_in 63 (by decide +kernel) rfl
theorem k_76 : Cond.code yX6_init prog_8_method_1_code 1 none ∈ gTab := gTab_in 76 (by decide +kernel) rfl
theorem k_77 : Cond.methodLink RX6 3 Lib.objectInit ∈ gTab := gTab_in 77 (by decide +kernel) rfl
theorem k_78 : Cond.fieldLink RX6 9 "SendForMore$Shop" "most" "I" ∈ gTab := gTab_in 78 (by decide +kernel) rfl
theorem k_79 : Cond.fieldLink RX4 58 "SendForMore$Shop" "most" "I" ∈ gTab := gTab_in 79 (by decide +kernel) rfl
theorem k_80 : Cond.fieldLink RX11 185 "SendForMore$Shop" "most" "I" ∈ gTab := gTab_in 80 (by decide +kernel) rfl
theorem k_81 : Cond.fieldLink RX4 50 "SendForMore$Shop" "lead" "I" ∈ gTab := gTab_in 81 (by decide +kernel) rfl
theorem k_82 : Cond.fieldLink RX10 106 "SendForMore$Shop" "lead" "I" ∈ gTab := gTab_in 82 (by decide +kernel) rfl
theorem k_83 : Cond.fieldLink RX11 188 "SendForMore$Shop" "lead" "I" ∈ gTab := gTab_in 83 (by decide +kernel) rfl
theorem k_84 : Cond.fieldLink RX6 37 "SendForMore$Shop" "owed" "Z" ∈ gTab := gTab_in 84 (by decide +kernel) rfl
theorem k_85 : Cond.fieldLink RX11 191 "SendForMore$Shop" "owed" "Z" ∈ gTab := gTab_in 85 (by decide +kernel) rfl
theorem k_86 : Cond.fieldLink RX6 15 "SendForMore$Shop" "perOrder" "I" ∈ gTab := gTab_in 86 (by decide +kernel) rfl
theorem k_87 : Cond.fieldLink RX11 197 "SendForMore$Shop" "perOrder" "I" ∈ gTab := gTab_in 87 (by decide +kernel) rfl
theorem k_88 : Cond.fieldLink RX6 18 "SendForMore$Shop" "perPiece" "I" ∈ gTab := gTab_in 88 (by decide +kernel) rfl
theorem k_89 : Cond.fieldLink RX11 200 "SendForMore$Shop" "perPiece" "I" ∈ gTab := gTab_in 89 (by decide +kernel) rfl
theorem k_90 : Cond.fieldLink RX6 21 "SendForMore$Shop" "perLeft" "I" ∈ gTab := gTab_in 90 (by decide +kernel) rfl
theorem k_91 : Cond.fieldLink RX11 203 "SendForMore$Shop" "perLeft" "I" ∈ gTab := gTab_in 91 (by decide +kernel) rfl
theorem k_92 : Cond.fieldLink RX6 24 "SendForMore$Shop" "perLacking" "I" ∈ gTab := gTab_in 92 (by decide +kernel) rfl
theorem k_93 : Cond.fieldLink RX11 206 "SendForMore$Shop" "perLacking" "I" ∈ gTab := gTab_in 93 (by decide +kernel) rfl
theorem k_94 : Cond.fieldLink RX6 27 "SendForMore$Shop" "prices" "[I" ∈ gTab := gTab_in 94 (by decide +kernel) rfl
theorem k_95 : Cond.fieldLink RX6 31 "SendForMore$Shop" "met" "[I" ∈ gTab := gTab_in 95 (by decide +kernel) rfl
theorem k_96 : Cond.fieldLink RX6 34 "SendForMore$Shop" "inHand" "[I" ∈ gTab := gTab_in 96 (by decide +kernel) rfl
theorem k_118 : Cond.arrayClass .byte ∈ gTab := gTab_in 118 (by decide +kernel) rfl
theorem k_119 : Cond.arrayClass .int ∈ gTab := gTab_in 119 (by decide +kernel) rfl
theorem k_123 : Cond.code yX1_init prog_3_method_1_code 1 none ∈ gTab := gTab_in 123 (by decide +kernel) rfl
theorem k_124 : Cond.methodLink RX1 3 Lib.objectInit ∈ gTab := gTab_in 124 (by decide +kernel) rfl
theorem k_125 : Cond.fieldLink RX1 15 "SendForMore$Book" "there" "Z" ∈ gTab := gTab_in 125 (by decide +kernel) rfl
theorem k_126 : Cond.fieldLink RX11 85 "SendForMore$Book" "there" "Z" ∈ gTab := gTab_in 126 (by decide +kernel) rfl
theorem k_127 : Cond.fieldLink RX1 9 "SendForMore$Book" "weights" "[I" ∈ gTab := gTab_in 127 (by decide +kernel) rfl
theorem k_128 : Cond.fieldLink RX11 103 "SendForMore$Book" "weights" "[I" ∈ gTab := gTab_in 128 (by decide +kernel) rfl
theorem k_138 : Cond.code yX8_init prog_10_method_1_code 1 none ∈ gTab := gTab_in 138 (by decide +kernel) rfl
theorem k_139 : Cond.methodLink RX8 5 Lib.objectInit ∈ gTab := gTab_in 139 (by decide +kernel) rfl
theorem k_140 : Cond.fieldLink RX8 13 "SendForMore$Spread" "weights" "[J" ∈ gTab := gTab_in 140 (by decide +kernel) rfl
theorem k_141 : Cond.fieldLink RX8 17 "SendForMore$Spread" "nextWeights" "[J" ∈ gTab := gTab_in 141 (by decide +kernel) rfl
theorem k_142 : Cond.fieldLink RX8 20 "SendForMore$Spread" "places" "[I" ∈ gTab := gTab_in 142 (by decide +kernel) rfl
theorem k_143 : Cond.fieldLink RX8 24 "SendForMore$Spread" "nextPlaces" "[I" ∈ gTab := gTab_in 143 (by decide +kernel) rfl
theorem k_144 : Cond.fieldLink RX8 38 "SendForMore$Spread" "size" "I" ∈ gTab := gTab_in 144 (by decide +kernel) rfl
theorem k_145 : Cond.fieldLink RX8 34 "SendForMore$Spread" "nextSize" "I" ∈ gTab := gTab_in 145 (by decide +kernel) rfl
theorem k_159 : Cond.arrayClass .long ∈ gTab := gTab_in 159 (by decide +kernel) rfl
theorem k_164 : Cond.code yX10_init prog_12_method_1_code 3 none ∈ gTab := gTab_in 164 (by decide +kernel) rfl
theorem k_165 : Cond.methodLink RX10 3 Lib.objectInit ∈ gTab := gTab_in 165 (by decide +kernel) rfl
theorem k_166 : Cond.fieldLink RX10 19 "SendForMore$Walk" "shop" "LSendForMore$Shop;" ∈ gTab := gTab_in 166 (by decide +kernel) rfl
theorem k_167 : Cond.fieldLink RX10 23 "SendForMore$Walk" "spread" "LSendForMore$Spread;" ∈ gTab := gTab_in 167 (by decide +kernel) rfl
theorem k_168 : Cond.fieldLink RX10 9 "SendForMore$Walk" "orders" "[I" ∈ gTab := gTab_in 168 (by decide +kernel) rfl
theorem k_169 : Cond.fieldLink RX10 15 "SendForMore$Walk" "reached" "[Z" ∈ gTab := gTab_in 169 (by decide +kernel) rfl
theorem k_170 : Cond.fieldLink RX10 46 "SendForMore$Walk" "unbroken" "Z" ∈ gTab := gTab_in 170 (by decide +kernel) rfl
theorem k_171 : Cond.fieldLink RX10 58 "SendForMore$Walk" "spent" "J" ∈ gTab := gTab_in 171 (by decide +kernel) rfl
theorem k_172 : Cond.fieldLink RX10 72 "SendForMore$Walk" "met" "J" ∈ gTab := gTab_in 172 (by decide +kernel) rfl
theorem k_173 : Cond.fieldLink RX11 241 "SendForMore$Walk" "met" "J" ∈ gTab := gTab_in 173 (by decide +kernel) rfl
theorem k_174 : Cond.fieldLink RX10 75 "SendForMore$Walk" "eveningsInHand" "J" ∈ gTab := gTab_in 174 (by decide +kernel) rfl
theorem k_175 : Cond.fieldLink RX11 244 "SendForMore$Walk" "eveningsInHand" "J" ∈ gTab := gTab_in 175 (by decide +kernel) rfl
theorem k_193 : Cond.arrayClass .boolean ∈ gTab := gTab_in 193 (by decide +kernel) rfl
theorem k_198 : Cond.code yX4_init prog_6_method_1_code 2 none ∈ gTab := gTab_in 198 (by decide +kernel) rfl
theorem k_199 : Cond.methodLink RX4 5 Lib.objectInit ∈ gTab := gTab_in 199 (by decide +kernel) rfl
theorem k_200 : Cond.fieldLink RX4 20 "SendForMore$Planner" "shop" "LSendForMore$Shop;" ∈ gTab := gTab_in 200 (by decide +kernel) rfl
theorem k_201 : Cond.fieldLink RX4 13 "SendForMore$Planner" "now" "[J" ∈ gTab := gTab_in 201 (by decide +kernel) rfl
theorem k_202 : Cond.fieldLink RX4 17 "SendForMore$Planner" "later" "[J" ∈ gTab := gTab_in 202 (by decide +kernel) rfl
theorem k_203 : Cond.fieldLink RX4 47 "SendForMore$Planner" "rows" "J" ∈ gTab := gTab_in 203 (by decide +kernel) rfl
theorem k_204 : Cond.fieldLink RX4 43 "SendForMore$Planner" "laterRows" "J" ∈ gTab := gTab_in 204 (by decide +kernel) rfl
theorem k_205 : Cond.fieldLink RX4 64 "SendForMore$Planner" "least" "J" ∈ gTab := gTab_in 205 (by decide +kernel) rfl
theorem k_206 : Cond.fieldLink RX11 251 "SendForMore$Planner" "least" "J" ∈ gTab := gTab_in 206 (by decide +kernel) rfl
theorem k_207 : Cond.fieldLink RX4 71 "SendForMore$Planner" "chosen" "I" ∈ gTab := gTab_in 207 (by decide +kernel) rfl
theorem k_208 : Cond.fieldLink RX11 254 "SendForMore$Planner" "chosen" "I" ∈ gTab := gTab_in 208 (by decide +kernel) rfl
theorem k_228 : Cond.code yX7_init prog_9_method_1_code 2 none ∈ gTab := gTab_in 228 (by decide +kernel) rfl
theorem k_229 : Cond.methodLink RX7 3 Lib.objectInit ∈ gTab := gTab_in 229 (by decide +kernel) rfl
theorem k_230 : Cond.fieldLink RX7 15 "SendForMore$Spoiling" "spread" "LSendForMore$Spread;" ∈ gTab := gTab_in 230 (by decide +kernel) rfl
theorem k_231 : Cond.fieldLink RX7 9 "SendForMore$Spoiling" "pieces" "[I" ∈ gTab := gTab_in 231 (by decide +kernel) rfl
theorem k_232 : Cond.fieldLink RX7 19 "SendForMore$Spoiling" "upTo" "I" ∈ gTab := gTab_in 232 (by decide +kernel) rfl
theorem k_233 : Cond.fieldLink RX7 32 "SendForMore$Spoiling" "age" "I" ∈ gTab := gTab_in 233 (by decide +kernel) rfl
theorem k_234 : Cond.fieldLink RX7 35 "SendForMore$Spoiling" "newestFirst" "Z" ∈ gTab := gTab_in 234 (by decide +kernel) rfl
theorem k_235 : Cond.fieldLink RX7 39 "SendForMore$Spoiling" "spoiled" "J" ∈ gTab := gTab_in 235 (by decide +kernel) rfl
theorem k_249 : Cond.fieldLink RX11 11 "SendForMore" "books" "[LSendForMore$Book;" ∈ gTab := gTab_in 249 (by decide +kernel) rfl
theorem k_250 : Cond.fieldLink RX11 17 "SendForMore" "sheetBytes" "[[B" ∈ gTab := gTab_in 250 (by decide +kernel) rfl
theorem k_251 : Cond.fieldLink RX11 20 "SendForMore" "sheetSizes" "[I" ∈ gTab := gTab_in 251 (by decide +kernel) rfl
theorem k_252 : Cond.fieldLink RX11 26 "SendForMore" "rules" "[LSendForMore$Rule;" ∈ gTab := gTab_in 252 (by decide +kernel) rfl
theorem k_253 : Cond.fieldLink RX11 130 "SendForMore" "rulesEver" "I" ∈ gTab := gTab_in 253 (by decide +kernel) rfl
theorem k_254 : Cond.fieldLink RX11 33 "SendForMore" "shop" "LSendForMore$Shop;" ∈ gTab := gTab_in 254 (by decide +kernel) rfl
theorem k_255 : Cond.fieldLink RX11 59 "SendForMore" "walk" "LSendForMore$Walk;" ∈ gTab := gTab_in 255 (by decide +kernel) rfl
theorem k_256 : Cond.fieldLink RX11 68 "SendForMore" "planner" "LSendForMore$Planner;" ∈ gTab := gTab_in 256 (by decide +kernel) rfl
theorem k_257 : Cond.fieldLink RX11 77 "SendForMore" "spoiling" "LSendForMore$Spoiling;" ∈ gTab := gTab_in 257 (by decide +kernel) rfl
theorem k_258 : Cond.fieldLink RX11 260 "SendForMore" "pairKnown" "Z" ∈ gTab := gTab_in 258 (by decide +kernel) rfl
theorem k_259 : Cond.fieldLink RX11 263 "SendForMore" "pairLow" "I" ∈ gTab := gTab_in 259 (by decide +kernel) rfl
theorem k_260 : Cond.fieldLink RX11 266 "SendForMore" "pairTop" "I" ∈ gTab := gTab_in 260 (by decide +kernel) rfl
theorem k_261 : Cond.fieldLink RX11 37 "SendForMore" "seen" "[I" ∈ gTab := gTab_in 261 (by decide +kernel) rfl
theorem k_262 : Cond.fieldLink RX11 278 "SendForMore" "seenCount" "I" ∈ gTab := gTab_in 262 (by decide +kernel) rfl
theorem k_263 : Cond.fieldLink RX11 40 "SendForMore" "upperNumber" "J" ∈ gTab := gTab_in 263 (by decide +kernel) rfl
theorem k_264 : Cond.fieldLink RX11 44 "SendForMore" "lowerNumber" "J" ∈ gTab := gTab_in 264 (by decide +kernel) rfl
theorem k_265 : Cond.fieldLink RX11 288 "SendForMore" "latestFinding" "I" ∈ gTab := gTab_in 265 (by decide +kernel) rfl
theorem k_266 : Cond.fieldLink RX11 47 "SendForMore" "findingCounts" "[I" ∈ gTab := gTab_in 266 (by decide +kernel) rfl
theorem k_307 : Cond.code yX11_book prog_1_method_2_code 3 (some .int) ∈ gTab := gTab_in 307 (by decide +kernel) rfl
theorem k_308 : Cond.methodLink RX11 81 yX11_isBook ∈ gTab := gTab_in 308 (by decide +kernel) rfl
theorem k_309 : Cond.static yX11_isBook ∈ gTab := gTab_in 309 (by decide +kernel) rfl
theorem k_310 : Cond.code yX11_isBook prog_1_method_34_code 1 (some .boolean) ∈ gTab := gTab_in 310 (by decide +kernel) rfl
theorem k_311 : Cond.methodLink RX11 92 yX11_isWithin ∈ gTab := gTab_in 311 (by decide +kernel) rfl
theorem k_312 : Cond.static yX11_isWithin ∈ gTab := gTab_in 312 (by decide +kernel) rfl
theorem k_313 : Cond.code yX11_isWithin prog_1_method_33_code 3 (some .boolean) ∈ gTab := gTab_in 313 (by decide +kernel) rfl
theorem k_314 : Cond.methodLink RX11 89 yX1_open ∈ gTab := gTab_in 314 (by decide +kernel) rfl
theorem k_315 : Cond.instanceMethod yX1_open ∈ gTab := gTab_in 315 (by decide +kernel) rfl
theorem k_316 : Cond.selects RX1 yX1_open yX1_open ∈ gTab := gTab_in 316 (by decide +kernel) rfl
theorem k_317 : Cond.code yX1_open prog_3_method_2_code 2 none ∈ gTab := gTab_in 317 (by decide +kernel) rfl
theorem k_321 : Cond.code yX11_weigh prog_1_method_3_code 5 (some .int) ∈ gTab := gTab_in 321 (by decide +kernel) rfl
theorem k_322 : Cond.methodLink RX11 96 yX11_refuse ∈ gTab := gTab_in 322 (by decide +kernel) rfl
theorem k_324 : Cond.instanceMethod yX11_refuse ∈ gTab := gTab_in 324 (by decide +kernel) rfl
theorem k_325 : Cond.code yX11_refuse prog_1_method_44_code 2 (some .int) ∈ gTab := gTab_in 325 (by decide +kernel) rfl
theorem k_326 : Cond.methodLink RX11 100 yX11_isDemand ∈ gTab := gTab_in 326 (by decide +kernel) rfl
theorem k_327 : Cond.static yX11_isDemand ∈ gTab := gTab_in 327 (by decide +kernel) rfl
theorem k_328 : Cond.code yX11_isDemand prog_1_method_35_code 1 (some .boolean) ∈ gTab := gTab_in 328 (by decide +kernel) rfl
theorem k_332 : Cond.code yX11_close prog_1_method_4_code 2 (some .int) ∈ gTab := gTab_in 332 (by decide +kernel) rfl
theorem k_337 : Cond.methodLink RX11 106 yX11_isStretch ∈ gTab := gTab_in 337 (by decide +kernel) rfl
theorem k_338 : Cond.static yX11_isStretch ∈ gTab := gTab_in 338 (by decide +kernel) rfl
theorem k_339 : Cond.code yX11_isStretch prog_1_method_43_code 2 (some .boolean) ∈ gTab := gTab_in 339 (by decide +kernel) rfl
theorem k_346 : Cond.code yX11_mean prog_1_method_6_code 4 (some .int) ∈ gTab := gTab_in 346 (by decide +kernel) rfl
theorem k_347 : Cond.methodLink RX11 116 yX11_lackOf ∈ gTab := gTab_in 347 (by decide +kernel) rfl
theorem k_348 : Cond.static yX11_lackOf ∈ gTab := gTab_in 348 (by decide +kernel) rfl
theorem k_349 : Cond.code yX11_lackOf prog_1_method_45_code 1 (some .int) ∈ gTab := gTab_in 349 (by decide +kernel) rfl
theorem k_350 : Cond.methodLink RX11 120 yX1_weightOfAll ∈ gTab := gTab_in 350 (by decide +kernel) rfl
theorem k_351 : Cond.instanceMethod yX1_weightOfAll ∈ gTab := gTab_in 351 (by decide +kernel) rfl
theorem k_352 : Cond.selects RX1 yX1_weightOfAll yX1_weightOfAll ∈ gTab := gTab_in 352 (by decide +kernel) rfl
theorem k_353 : Cond.code yX1_weightOfAll prog_3_method_4_code 3 (some .int) ∈ gTab := gTab_in 353 (by decide +kernel) rfl
theorem k_354 : Cond.methodLink RX11 124 yX1_weightedDemands ∈ gTab := gTab_in 354 (by decide +kernel) rfl
theorem k_355 : Cond.instanceMethod yX1_weightedDemands ∈ gTab := gTab_in 355 (by decide +kernel) rfl
theorem k_356 : Cond.selects RX1 yX1_weightedDemands yX1_weightedDemands ∈ gTab := gTab_in 356 (by decide +kernel) rfl
theorem k_357 : Cond.code yX1_weightedDemands prog_3_method_5_code 3 (some .int) ∈ gTab := gTab_in 357 (by decide +kernel) rfl
theorem k_361 : Cond.code yX11_sheet prog_1_method_7_code 4 (some .int) ∈ gTab := gTab_in 361 (by decide +kernel) rfl
theorem k_362 : Cond.methodLink RX11 127 yX11_isSheet ∈ gTab := gTab_in 362 (by decide +kernel) rfl
theorem k_363 : Cond.static yX11_isSheet ∈ gTab := gTab_in 363 (by decide +kernel) rfl
theorem k_364 : Cond.code yX11_isSheet prog_1_method_36_code 1 (some .boolean) ∈ gTab := gTab_in 364 (by decide +kernel) rfl
theorem k_368 : Cond.code yX11_lay prog_1_method_8_code 5 (some .int) ∈ gTab := gTab_in 368 (by decide +kernel) rfl
theorem k_372 : Cond.code yX11_tear prog_1_method_9_code 2 (some .int) ∈ gTab := gTab_in 372 (by decide +kernel) rfl
theorem k_377 : Cond.classLink RX11 134 RX9 ∈ gTab := gTab_in 377 (by decide +kernel) rfl
theorem k_378 : Cond.instantiable RX9 1 ∈ gTab := gTab_in 378 (by decide +kernel) rfl
theorem k_383 : Cond.instanceMethod yX5_init ∈ gTab := gTab_in 383 (by decide +kernel) rfl
theorem k_384 : Cond.code yX5_init prog_7_method_1_code 1 none ∈ gTab := gTab_in 384 (by decide +kernel) rfl
theorem k_385 : Cond.methodLink RX5 3 Lib.objectInit ∈ gTab := gTab_in 385 (by decide +kernel) rfl
theorem k_386 : Cond.methodLink RX9 9 Lib.Math.min.name ∈ gTab := gTab_in 386 (by decide +kernel) rfl
theorem k_389 : Cond.methodLink RX9 15 Lib.Math.max.name ∈ gTab := gTab_in 389 (by decide +kernel) rfl
theorem k_393 : Cond.fieldLink RX9 18 "SendForMore$Table" "bytes" "[B" ∈ gTab := gTab_in 393 (by decide +kernel) rfl
theorem k_397 : Cond.methodLink RX11 139 yX11_keep ∈ gTab := gTab_in 397 (by decide +kernel) rfl
theorem k_399 : Cond.instanceMethod yX11_keep ∈ gTab := gTab_in 399 (by decide +kernel) rfl
theorem k_400 : Cond.code yX11_keep prog_1_method_47_code 3 (some .int) ∈ gTab := gTab_in 400 (by decide +kernel) rfl
theorem k_404 : Cond.code yX11_rule prog_1_method_11_code 4 (some .int) ∈ gTab := gTab_in 404 (by decide +kernel) rfl
theorem k_405 : Cond.methodLink RX11 143 yX11_isRuleOf ∈ gTab := gTab_in 405 (by decide +kernel) rfl
theorem k_406 : Cond.static yX11_isRuleOf ∈ gTab := gTab_in 406 (by decide +kernel) rfl
theorem k_407 : Cond.code yX11_isRuleOf prog_1_method_41_code 3 (some .boolean) ∈ gTab := gTab_in 407 (by decide +kernel) rfl
theorem k_408 : Cond.classLink RX11 146 RX0 ∈ gTab := gTab_in 408 (by decide +kernel) rfl
theorem k_409 : Cond.instantiable RX0 1 ∈ gTab := gTab_in 409 (by decide +kernel) rfl
theorem k_410 : Cond.methodLink RX11 148 yX0_init ∈ gTab := gTab_in 410 (by decide +kernel) rfl
theorem k_411 : Cond.instanceMethod yX0_init ∈ gTab := gTab_in 411 (by decide +kernel) rfl
theorem k_412 : Cond.code yX0_init prog_2_method_1_code 2 none ∈ gTab := gTab_in 412 (by decide +kernel) rfl
theorem k_414 : Cond.fieldLink RX0 9 "SendForMore$Base" "top" "I" ∈ gTab := gTab_in 414 (by decide +kernel) rfl
theorem k_415 : Cond.fieldLink RX3 15 "SendForMore$Pair" "top" "I" ∈ gTab := gTab_in 415 (by decide +kernel) rfl
theorem k_416 : Cond.sameField "SendForMore$Pair" "SendForMore$Base" "top" "I" ∈ gTab := gTab_in 416 (by decide +kernel) rfl
theorem k_422 : Cond.classLink RX11 151 RX3 ∈ gTab := gTab_in 422 (by decide +kernel) rfl
theorem k_423 : Cond.instantiable RX3 2 ∈ gTab := gTab_in 423 (by decide +kernel) rfl
theorem k_424 : Cond.methodLink RX11 153 yX3_init ∈ gTab := gTab_in 424 (by decide +kernel) rfl
theorem k_425 : Cond.instanceMethod yX3_init ∈ gTab := gTab_in 425 (by decide +kernel) rfl
theorem k_426 : Cond.code yX3_init prog_5_method_1_code 3 none ∈ gTab := gTab_in 426 (by decide +kernel) rfl
theorem k_427 : Cond.methodLink RX3 3 yX0_init ∈ gTab := gTab_in 427 (by decide +kernel) rfl
theorem k_428 : Cond.fieldLink RX3 9 "SendForMore$Pair" "low" "I" ∈ gTab := gTab_in 428 (by decide +kernel) rfl
theorem k_434 : Cond.classLink RX11 156 RX2 ∈ gTab := gTab_in 434 (by decide +kernel) rfl
theorem k_435 : Cond.instantiable RX2 2 ∈ gTab := gTab_in 435 (by decide +kernel) rfl
theorem k_436 : Cond.methodLink RX11 158 yX2_init ∈ gTab := gTab_in 436 (by decide +kernel) rfl
theorem k_437 : Cond.instanceMethod yX2_init ∈ gTab := gTab_in 437 (by decide +kernel) rfl
theorem k_438 : Cond.code yX2_init prog_4_method_1_code 3 none ∈ gTab := gTab_in 438 (by decide +kernel) rfl
theorem k_440 : Cond.fieldLink RX2 9 "SendForMore$Lot" "low" "I" ∈ gTab := gTab_in 440 (by decide +kernel) rfl
theorem k_441 : Cond.fieldLink RX2 15 "SendForMore$Lot" "pieces" "I" ∈ gTab := gTab_in 441 (by decide +kernel) rfl
theorem k_451 : Cond.code yX11_drop prog_1_method_12_code 2 (some .int) ∈ gTab := gTab_in 451 (by decide +kernel) rfl
theorem k_452 : Cond.methodLink RX11 159 yX11_isRule ∈ gTab := gTab_in 452 (by decide +kernel) rfl
theorem k_454 : Cond.instanceMethod yX11_isRule ∈ gTab := gTab_in 454 (by decide +kernel) rfl
theorem k_455 : Cond.code yX11_isRule prog_1_method_40_code 2 (some .boolean) ∈ gTab := gTab_in 455 (by decide +kernel) rfl
theorem k_456 : Cond.methodLink RX11 308 Lib.Math.min.name ∈ gTab := gTab_in 456 (by decide +kernel) rfl
theorem k_460 : Cond.code yX11_told prog_1_method_13_code 3 (some .int) ∈ gTab := gTab_in 460 (by decide +kernel) rfl
theorem k_461 : Cond.methodLink RX11 162 yX11_tellOf ∈ gTab := gTab_in 461 (by decide +kernel) rfl
theorem k_462 : Cond.static yX11_tellOf ∈ gTab := gTab_in 462 (by decide +kernel) rfl
theorem k_463 : Cond.code yX11_tellOf prog_1_method_48_code 2 (some .int) ∈ gTab := gTab_in 463 (by decide +kernel) rfl
theorem k_464 : Cond.methodLink RX11 317 ⟨"SendForMore$Rule", "kindNumber", "()I"⟩ ∈ gTab := gTab_in 464 (by decide +kernel) rfl
theorem k_469 : Cond.code yX0_kindNumber prog_2_method_2_code 1 (some .int) ∈ gTab := gTab_in 469 (by decide +kernel) rfl
theorem k_472 : Cond.code yX2_kindNumber prog_4_method_2_code 1 (some .int) ∈ gTab := gTab_in 472 (by decide +kernel) rfl
theorem k_475 : Cond.code yX3_kindNumber prog_5_method_2_code 1 (some .int) ∈ gTab := gTab_in 475 (by decide +kernel) rfl
theorem k_478 : Cond.code yX9_kindNumber prog_11_method_2_code 1 (some .int) ∈ gTab := gTab_in 478 (by decide +kernel) rfl
theorem k_479 : Cond.methodLink RX11 320 yX5_topMark ∈ gTab := gTab_in 479 (by decide +kernel) rfl
theorem k_484 : Cond.code yX0_topMark prog_2_method_4_code 1 (some .int) ∈ gTab := gTab_in 484 (by decide +kernel) rfl
theorem k_488 : Cond.code yX5_topMark prog_7_method_4_code 1 (some .int) ∈ gTab := gTab_in 488 (by decide +kernel) rfl
theorem k_489 : Cond.methodLink RX11 323 yX5_lowMark ∈ gTab := gTab_in 489 (by decide +kernel) rfl
theorem k_495 : Cond.code yX2_lowMark prog_4_method_4_code 1 (some .int) ∈ gTab := gTab_in 495 (by decide +kernel) rfl
theorem k_498 : Cond.code yX3_lowMark prog_5_method_4_code 1 (some .int) ∈ gTab := gTab_in 498 (by decide +kernel) rfl
theorem k_500 : Cond.code yX5_lowMark prog_7_method_5_code 1 (some .int) ∈ gTab := gTab_in 500 (by decide +kernel) rfl
theorem k_501 : Cond.methodLink RX11 326 yX5_lotSize ∈ gTab := gTab_in 501 (by decide +kernel) rfl
theorem k_507 : Cond.code yX2_lotSize prog_4_method_5_code 1 (some .int) ∈ gTab := gTab_in 507 (by decide +kernel) rfl
theorem k_510 : Cond.code yX5_lotSize prog_7_method_6_code 1 (some .int) ∈ gTab := gTab_in 510 (by decide +kernel) rfl
theorem k_511 : Cond.methodLink RX11 329 yX5_tableSize ∈ gTab := gTab_in 511 (by decide +kernel) rfl
theorem k_519 : Cond.code yX9_tableSize prog_11_method_4_code 1 (some .int) ∈ gTab := gTab_in 519 (by decide +kernel) rfl
theorem k_520 : Cond.code yX5_tableSize prog_7_method_7_code 1 (some .int) ∈ gTab := gTab_in 520 (by decide +kernel) rfl
theorem k_528 : Cond.code yX11_order prog_1_method_15_code 3 (some .int) ∈ gTab := gTab_in 528 (by decide +kernel) rfl
theorem k_529 : Cond.methodLink RX11 176 yX11_isPosition ∈ gTab := gTab_in 529 (by decide +kernel) rfl
theorem k_530 : Cond.static yX11_isPosition ∈ gTab := gTab_in 530 (by decide +kernel) rfl
theorem k_531 : Cond.code yX11_isPosition prog_1_method_37_code 1 (some .boolean) ∈ gTab := gTab_in 531 (by decide +kernel) rfl
theorem k_532 : Cond.methodLink RX11 179 ⟨"SendForMore$Rule", "wants", "(I)I"⟩ ∈ gTab := gTab_in 532 (by decide +kernel) rfl
theorem k_537 : Cond.code yX0_wants prog_2_method_3_code 2 (some .int) ∈ gTab := gTab_in 537 (by decide +kernel) rfl
theorem k_540 : Cond.code yX2_wants prog_4_method_3_code 2 (some .int) ∈ gTab := gTab_in 540 (by decide +kernel) rfl
theorem k_543 : Cond.code yX3_wants prog_5_method_3_code 2 (some .int) ∈ gTab := gTab_in 543 (by decide +kernel) rfl
theorem k_544 : Cond.methodLink RX3 18 yX3_pairWants ∈ gTab := gTab_in 544 (by decide +kernel) rfl
theorem k_545 : Cond.static yX3_pairWants ∈ gTab := gTab_in 545 (by decide +kernel) rfl
theorem k_546 : Cond.code yX3_pairWants prog_5_method_5_code 3 (some .int) ∈ gTab := gTab_in 546 (by decide +kernel) rfl
theorem k_549 : Cond.code yX9_wants prog_11_method_3_code 3 (some .int) ∈ gTab := gTab_in 549 (by decide +kernel) rfl
theorem k_551 : Cond.methodLink RX11 182 yX11_cutOrder ∈ gTab := gTab_in 551 (by decide +kernel) rfl
theorem k_552 : Cond.static yX11_cutOrder ∈ gTab := gTab_in 552 (by decide +kernel) rfl
theorem k_553 : Cond.code yX11_cutOrder prog_1_method_49_code 1 (some .int) ∈ gTab := gTab_in 553 (by decide +kernel) rfl
theorem k_554 : Cond.methodLink RX11 332 Lib.Math.max.name ∈ gTab := gTab_in 554 (by decide +kernel) rfl
theorem k_558 : Cond.code yX11_shop prog_1_method_16_code 4 (some .int) ∈ gTab := gTab_in 558 (by decide +kernel) rfl
theorem k_562 : Cond.code yX11_costs prog_1_method_17_code 5 (some .int) ∈ gTab := gTab_in 562 (by decide +kernel) rfl
theorem k_563 : Cond.methodLink RX11 194 yX11_isPrice ∈ gTab := gTab_in 563 (by decide +kernel) rfl
theorem k_564 : Cond.static yX11_isPrice ∈ gTab := gTab_in 564 (by decide +kernel) rfl
theorem k_565 : Cond.code yX11_isPrice prog_1_method_38_code 1 (some .boolean) ∈ gTab := gTab_in 565 (by decide +kernel) rfl
theorem k_569 : Cond.code yX11_cost prog_1_method_18_code 8 (some .int) ∈ gTab := gTab_in 569 (by decide +kernel) rfl
theorem k_570 : Cond.methodLink RX11 209 yX11_isStart ∈ gTab := gTab_in 570 (by decide +kernel) rfl
theorem k_572 : Cond.instanceMethod yX11_isStart ∈ gTab := gTab_in 572 (by decide +kernel) rfl
theorem k_573 : Cond.code yX11_isStart prog_1_method_42_code 4 (some .boolean) ∈ gTab := gTab_in 573 (by decide +kernel) rfl
theorem k_574 : Cond.methodLink RX11 269 yX11_areDays ∈ gTab := gTab_in 574 (by decide +kernel) rfl
theorem k_575 : Cond.static yX11_areDays ∈ gTab := gTab_in 575 (by decide +kernel) rfl
theorem k_576 : Cond.code yX11_areDays prog_1_method_39_code 1 (some .boolean) ∈ gTab := gTab_in 576 (by decide +kernel) rfl
theorem k_577 : Cond.methodLink RX11 314 yX6_floor ∈ gTab := gTab_in 577 (by decide +kernel) rfl
theorem k_578 : Cond.instanceMethod yX6_floor ∈ gTab := gTab_in 578 (by decide +kernel) rfl
theorem k_579 : Cond.selects RX6 yX6_floor yX6_floor ∈ gTab := gTab_in 579 (by decide +kernel) rfl
theorem k_580 : Cond.code yX6_floor prog_8_method_2_code 1 (some .int) ∈ gTab := gTab_in 580 (by decide +kernel) rfl
theorem k_581 : Cond.methodLink RX11 212 yX11_lackOf_ ∈ gTab := gTab_in 581 (by decide +kernel) rfl
theorem k_582 : Cond.static yX11_lackOf_ ∈ gTab := gTab_in 582 (by decide +kernel) rfl
theorem k_583 : Cond.code yX11_lackOf_ prog_1_method_46_code 2 (some .int) ∈ gTab := gTab_in 583 (by decide +kernel) rfl
theorem k_584 : Cond.methodLink RX11 215 yX6_reckon ∈ gTab := gTab_in 584 (by decide +kernel) rfl
theorem k_585 : Cond.instanceMethod yX6_reckon ∈ gTab := gTab_in 585 (by decide +kernel) rfl
theorem k_586 : Cond.selects RX6 yX6_reckon yX6_reckon ∈ gTab := gTab_in 586 (by decide +kernel) rfl
theorem k_587 : Cond.code yX6_reckon prog_8_method_6_code 4 none ∈ gTab := gTab_in 587 (by decide +kernel) rfl
theorem k_588 : Cond.methodLink RX6 50 yX1_weightOf ∈ gTab := gTab_in 588 (by decide +kernel) rfl
theorem k_589 : Cond.instanceMethod yX1_weightOf ∈ gTab := gTab_in 589 (by decide +kernel) rfl
theorem k_590 : Cond.selects RX1 yX1_weightOf yX1_weightOf ∈ gTab := gTab_in 590 (by decide +kernel) rfl
theorem k_591 : Cond.code yX1_weightOf prog_3_method_3_code 2 (some .int) ∈ gTab := gTab_in 591 (by decide +kernel) rfl
theorem k_592 : Cond.methodLink RX6 56 yX6_reckonDemand ∈ gTab := gTab_in 592 (by decide +kernel) rfl
theorem k_594 : Cond.instanceMethod yX6_reckonDemand ∈ gTab := gTab_in 594 (by decide +kernel) rfl
theorem k_595 : Cond.code yX6_reckonDemand prog_8_method_7_code 7 none ∈ gTab := gTab_in 595 (by decide +kernel) rfl
theorem k_596 : Cond.methodLink RX6 47 Lib.Math.max.name ∈ gTab := gTab_in 596 (by decide +kernel) rfl
theorem k_597 : Cond.methodLink RX6 41 Lib.Math.min.name ∈ gTab := gTab_in 597 (by decide +kernel) rfl
theorem k_598 : Cond.methodLink RX6 60 yX6_leftOf ∈ gTab := gTab_in 598 (by decide +kernel) rfl
theorem k_599 : Cond.instanceMethod yX6_leftOf ∈ gTab := gTab_in 599 (by decide +kernel) rfl
theorem k_600 : Cond.selects RX6 yX6_leftOf yX6_leftOf ∈ gTab := gTab_in 600 (by decide +kernel) rfl
theorem k_601 : Cond.code yX6_leftOf prog_8_method_4_code 3 (some .int) ∈ gTab := gTab_in 601 (by decide +kernel) rfl
theorem k_602 : Cond.methodLink RX11 219 yX10_useRule ∈ gTab := gTab_in 602 (by decide +kernel) rfl
theorem k_603 : Cond.instanceMethod yX10_useRule ∈ gTab := gTab_in 603 (by decide +kernel) rfl
theorem k_604 : Cond.selects RX10 yX10_useRule yX10_useRule ∈ gTab := gTab_in 604 (by decide +kernel) rfl
theorem k_605 : Cond.code yX10_useRule prog_12_method_2_code 3 none ∈ gTab := gTab_in 605 (by decide +kernel) rfl
theorem k_606 : Cond.methodLink RX10 27 ⟨"SendForMore$Rule", "wants", "(I)I"⟩ ∈ gTab := gTab_in 606 (by decide +kernel) rfl
theorem k_608 : Cond.constantLong RX11 223 4611686018427387904 ∈ gTab := gTab_in 608 (by decide +kernel) rfl
theorem k_609 : Cond.methodLink RX11 225 yX10_follow ∈ gTab := gTab_in 609 (by decide +kernel) rfl
theorem k_610 : Cond.instanceMethod yX10_follow ∈ gTab := gTab_in 610 (by decide +kernel) rfl
theorem k_611 : Cond.selects RX10 yX10_follow yX10_follow ∈ gTab := gTab_in 611 (by decide +kernel) rfl
theorem k_612 : Cond.code yX10_follow prog_12_method_5_code 9 (some .long) ∈ gTab := gTab_in 612 (by decide +kernel) rfl
theorem k_613 : Cond.methodLink RX10 50 yX10_begin ∈ gTab := gTab_in 613 (by decide +kernel) rfl
theorem k_615 : Cond.instanceMethod yX10_begin ∈ gTab := gTab_in 615 (by decide +kernel) rfl
theorem k_616 : Cond.code yX10_begin prog_12_method_7_code 3 none ∈ gTab := gTab_in 616 (by decide +kernel) rfl
theorem k_617 : Cond.methodLink RX10 78 yX10_placeOf ∈ gTab := gTab_in 617 (by decide +kernel) rfl
theorem k_618 : Cond.static yX10_placeOf ∈ gTab := gTab_in 618 (by decide +kernel) rfl
theorem k_619 : Cond.code yX10_placeOf prog_12_method_11_code 2 (some .int) ∈ gTab := gTab_in 619 (by decide +kernel) rfl
theorem k_620 : Cond.methodLink RX10 82 yX8_startAt ∈ gTab := gTab_in 620 (by decide +kernel) rfl
theorem k_621 : Cond.instanceMethod yX8_startAt ∈ gTab := gTab_in 621 (by decide +kernel) rfl
theorem k_622 : Cond.selects RX8 yX8_startAt yX8_startAt ∈ gTab := gTab_in 622 (by decide +kernel) rfl
theorem k_623 : Cond.code yX8_startAt prog_10_method_2_code 2 none ∈ gTab := gTab_in 623 (by decide +kernel) rfl
theorem k_624 : Cond.methodLink RX8 27 yX8_add ∈ gTab := gTab_in 624 (by decide +kernel) rfl
theorem k_625 : Cond.instanceMethod yX8_add ∈ gTab := gTab_in 625 (by decide +kernel) rfl
theorem k_626 : Cond.selects RX8 yX8_add yX8_add ∈ gTab := gTab_in 626 (by decide +kernel) rfl
theorem k_627 : Cond.code yX8_add prog_10_method_3_code 4 none ∈ gTab := gTab_in 627 (by decide +kernel) rfl
theorem k_628 : Cond.methodLink RX8 31 yX8_turnToTomorrow ∈ gTab := gTab_in 628 (by decide +kernel) rfl
theorem k_629 : Cond.instanceMethod yX8_turnToTomorrow ∈ gTab := gTab_in 629 (by decide +kernel) rfl
theorem k_630 : Cond.selects RX8 yX8_turnToTomorrow yX8_turnToTomorrow ∈ gTab := gTab_in 630 (by decide +kernel) rfl
theorem k_631 : Cond.code yX8_turnToTomorrow prog_10_method_4_code 3 none ∈ gTab := gTab_in 631 (by decide +kernel) rfl
theorem k_632 : Cond.methodLink RX8 41 yX8_placeAt ∈ gTab := gTab_in 632 (by decide +kernel) rfl
theorem k_633 : Cond.instanceMethod yX8_placeAt ∈ gTab := gTab_in 633 (by decide +kernel) rfl
theorem k_634 : Cond.selects RX8 yX8_placeAt yX8_placeAt ∈ gTab := gTab_in 634 (by decide +kernel) rfl
theorem k_635 : Cond.code yX8_placeAt prog_10_method_6_code 2 (some .int) ∈ gTab := gTab_in 635 (by decide +kernel) rfl
theorem k_636 : Cond.methodLink RX8 45 yX8_isPlace ∈ gTab := gTab_in 636 (by decide +kernel) rfl
theorem k_637 : Cond.static yX8_isPlace ∈ gTab := gTab_in 637 (by decide +kernel) rfl
theorem k_638 : Cond.code yX8_isPlace prog_10_method_9_code 1 (some .boolean) ∈ gTab := gTab_in 638 (by decide +kernel) rfl
theorem k_639 : Cond.methodLink RX10 54 yX10_passDay ∈ gTab := gTab_in 639 (by decide +kernel) rfl
theorem k_641 : Cond.instanceMethod yX10_passDay ∈ gTab := gTab_in 641 (by decide +kernel) rfl
theorem k_642 : Cond.code yX10_passDay prog_12_method_8_code 4 none ∈ gTab := gTab_in 642 (by decide +kernel) rfl
theorem k_643 : Cond.methodLink RX10 85 yX1_weightOfAll ∈ gTab := gTab_in 643 (by decide +kernel) rfl
theorem k_644 : Cond.methodLink RX10 90 yX8_places ∈ gTab := gTab_in 644 (by decide +kernel) rfl
theorem k_645 : Cond.instanceMethod yX8_places ∈ gTab := gTab_in 645 (by decide +kernel) rfl
theorem k_646 : Cond.selects RX8 yX8_places yX8_places ∈ gTab := gTab_in 646 (by decide +kernel) rfl
theorem k_647 : Cond.code yX8_places prog_10_method_5_code 1 (some .int) ∈ gTab := gTab_in 647 (by decide +kernel) rfl
theorem k_648 : Cond.methodLink RX10 93 yX8_placeAt ∈ gTab := gTab_in 648 (by decide +kernel) rfl
theorem k_649 : Cond.methodLink RX10 96 yX10_passFrom ∈ gTab := gTab_in 649 (by decide +kernel) rfl
theorem k_651 : Cond.instanceMethod yX10_passFrom ∈ gTab := gTab_in 651 (by decide +kernel) rfl
theorem k_652 : Cond.code yX10_passFrom prog_12_method_9_code 15 none ∈ gTab := gTab_in 652 (by decide +kernel) rfl
theorem k_653 : Cond.methodLink RX10 103 yX10_orderAt ∈ gTab := gTab_in 653 (by decide +kernel) rfl
theorem k_655 : Cond.instanceMethod yX10_orderAt ∈ gTab := gTab_in 655 (by decide +kernel) rfl
theorem k_656 : Cond.code yX10_orderAt prog_12_method_10_code 2 (some .int) ∈ gTab := gTab_in 656 (by decide +kernel) rfl
theorem k_658 : Cond.methodLink RX10 112 yX6_filled ∈ gTab := gTab_in 658 (by decide +kernel) rfl
theorem k_659 : Cond.instanceMethod yX6_filled ∈ gTab := gTab_in 659 (by decide +kernel) rfl
theorem k_660 : Cond.selects RX6 yX6_filled yX6_filled ∈ gTab := gTab_in 660 (by decide +kernel) rfl
theorem k_661 : Cond.code yX6_filled prog_8_method_3_code 3 (some .int) ∈ gTab := gTab_in 661 (by decide +kernel) rfl
theorem k_662 : Cond.methodLink RX10 115 yX8_weightAt ∈ gTab := gTab_in 662 (by decide +kernel) rfl
theorem k_663 : Cond.instanceMethod yX8_weightAt ∈ gTab := gTab_in 663 (by decide +kernel) rfl
theorem k_664 : Cond.selects RX8 yX8_weightAt yX8_weightAt ∈ gTab := gTab_in 664 (by decide +kernel) rfl
theorem k_665 : Cond.code yX8_weightAt prog_10_method_7_code 2 (some .long) ∈ gTab := gTab_in 665 (by decide +kernel) rfl
theorem k_666 : Cond.methodLink RX10 119 yX6_orderPrice ∈ gTab := gTab_in 666 (by decide +kernel) rfl
theorem k_667 : Cond.instanceMethod yX6_orderPrice ∈ gTab := gTab_in 667 (by decide +kernel) rfl
theorem k_668 : Cond.selects RX6 yX6_orderPrice yX6_orderPrice ∈ gTab := gTab_in 668 (by decide +kernel) rfl
theorem k_669 : Cond.code yX6_orderPrice prog_8_method_5_code 2 (some .int) ∈ gTab := gTab_in 669 (by decide +kernel) rfl
theorem k_670 : Cond.methodLink RX10 122 yX6_priceFrom ∈ gTab := gTab_in 670 (by decide +kernel) rfl
theorem k_671 : Cond.instanceMethod yX6_priceFrom ∈ gTab := gTab_in 671 (by decide +kernel) rfl
theorem k_672 : Cond.selects RX6 yX6_priceFrom yX6_priceFrom ∈ gTab := gTab_in 672 (by decide +kernel) rfl
theorem k_673 : Cond.code yX6_priceFrom prog_8_method_8_code 2 (some .int) ∈ gTab := gTab_in 673 (by decide +kernel) rfl
theorem k_674 : Cond.methodLink RX6 63 yX6_isHand ∈ gTab := gTab_in 674 (by decide +kernel) rfl
theorem k_675 : Cond.static yX6_isHand ∈ gTab := gTab_in 675 (by decide +kernel) rfl
theorem k_676 : Cond.code yX6_isHand prog_8_method_11_code 1 (some .boolean) ∈ gTab := gTab_in 676 (by decide +kernel) rfl
theorem k_677 : Cond.methodLink RX10 125 yX6_metFrom ∈ gTab := gTab_in 677 (by decide +kernel) rfl
theorem k_678 : Cond.instanceMethod yX6_metFrom ∈ gTab := gTab_in 678 (by decide +kernel) rfl
theorem k_679 : Cond.selects RX6 yX6_metFrom yX6_metFrom ∈ gTab := gTab_in 679 (by decide +kernel) rfl
theorem k_680 : Cond.code yX6_metFrom prog_8_method_9_code 2 (some .int) ∈ gTab := gTab_in 680 (by decide +kernel) rfl
theorem k_681 : Cond.methodLink RX10 128 yX6_inHandFrom ∈ gTab := gTab_in 681 (by decide +kernel) rfl
theorem k_682 : Cond.instanceMethod yX6_inHandFrom ∈ gTab := gTab_in 682 (by decide +kernel) rfl
theorem k_683 : Cond.selects RX6 yX6_inHandFrom yX6_inHandFrom ∈ gTab := gTab_in 683 (by decide +kernel) rfl
theorem k_684 : Cond.code yX6_inHandFrom prog_8_method_10_code 2 (some .int) ∈ gTab := gTab_in 684 (by decide +kernel) rfl
theorem k_685 : Cond.methodLink RX10 131 Lib.Math.max.name ∈ gTab := gTab_in 685 (by decide +kernel) rfl
theorem k_686 : Cond.methodLink RX10 136 Lib.Math.min.name ∈ gTab := gTab_in 686 (by decide +kernel) rfl
theorem k_687 : Cond.methodLink RX10 139 yX6_leftOf ∈ gTab := gTab_in 687 (by decide +kernel) rfl
theorem k_688 : Cond.methodLink RX10 142 yX1_weightOf ∈ gTab := gTab_in 688 (by decide +kernel) rfl
theorem k_689 : Cond.methodLink RX10 145 yX8_add ∈ gTab := gTab_in 689 (by decide +kernel) rfl
theorem k_690 : Cond.methodLink RX10 100 yX8_turnToTomorrow ∈ gTab := gTab_in 690 (by decide +kernel) rfl
theorem k_692 : Cond.static yX11_rowsOf ∈ gTab := gTab_in 692 (by decide +kernel) rfl
theorem k_693 : Cond.code yX11_rowsOf prog_1_method_53_code 7 (some .long) ∈ gTab := gTab_in 693 (by decide +kernel) rfl
theorem k_694 : Cond.methodLink RX11 229 yX11_rowsOf ∈ gTab := gTab_in 694 (by decide +kernel) rfl
theorem k_695 : Cond.methodLink RX11 233 yX11_tell ∈ gTab := gTab_in 695 (by decide +kernel) rfl
theorem k_697 : Cond.instanceMethod yX11_tell ∈ gTab := gTab_in 697 (by decide +kernel) rfl
theorem k_698 : Cond.code yX11_tell prog_1_method_54_code 7 (some .int) ∈ gTab := gTab_in 698 (by decide +kernel) rfl
theorem k_699 : Cond.methodLink RX11 344 yX11_commonDivisor ∈ gTab := gTab_in 699 (by decide +kernel) rfl
theorem k_700 : Cond.static yX11_commonDivisor ∈ gTab := gTab_in 700 (by decide +kernel) rfl
theorem k_701 : Cond.code yX11_commonDivisor prog_1_method_55_code 11 (some .long) ∈ gTab := gTab_in 701 (by decide +kernel) rfl
theorem k_705 : Cond.code yX11_service prog_1_method_19_code 8 (some .int) ∈ gTab := gTab_in 705 (by decide +kernel) rfl
theorem k_706 : Cond.methodLink RX11 237 yX10_followUnbroken ∈ gTab := gTab_in 706 (by decide +kernel) rfl
theorem k_707 : Cond.instanceMethod yX10_followUnbroken ∈ gTab := gTab_in 707 (by decide +kernel) rfl
theorem k_708 : Cond.selects RX10 yX10_followUnbroken yX10_followUnbroken ∈ gTab := gTab_in 708 (by decide +kernel) rfl
theorem k_709 : Cond.code yX10_followUnbroken prog_12_method_6_code 5 (some .long) ∈ gTab := gTab_in 709 (by decide +kernel) rfl
theorem k_710 : Cond.methodLink RX10 66 yX8_weightOfAll ∈ gTab := gTab_in 710 (by decide +kernel) rfl
theorem k_711 : Cond.instanceMethod yX8_weightOfAll ∈ gTab := gTab_in 711 (by decide +kernel) rfl
theorem k_712 : Cond.selects RX8 yX8_weightOfAll yX8_weightOfAll ∈ gTab := gTab_in 712 (by decide +kernel) rfl
theorem k_713 : Cond.code yX8_weightOfAll prog_10_method_8_code 4 (some .long) ∈ gTab := gTab_in 713 (by decide +kernel) rfl
theorem k_714 : Cond.methodLink RX8 49 yX8_weightAt ∈ gTab := gTab_in 714 (by decide +kernel) rfl
theorem k_718 : Cond.code yX11_best prog_1_method_20_code 5 (some .int) ∈ gTab := gTab_in 718 (by decide +kernel) rfl
theorem k_719 : Cond.methodLink RX11 247 yX4_plan ∈ gTab := gTab_in 719 (by decide +kernel) rfl
theorem k_720 : Cond.instanceMethod yX4_plan ∈ gTab := gTab_in 720 (by decide +kernel) rfl
theorem k_721 : Cond.selects RX4 yX4_plan yX4_plan ∈ gTab := gTab_in 721 (by decide +kernel) rfl
theorem k_722 : Cond.code yX4_plan prog_6_method_2_code 5 none ∈ gTab := gTab_in 722 (by decide +kernel) rfl
theorem k_723 : Cond.methodLink RX4 24 yX4_turnTo ∈ gTab := gTab_in 723 (by decide +kernel) rfl
theorem k_725 : Cond.instanceMethod yX4_turnTo ∈ gTab := gTab_in 725 (by decide +kernel) rfl
theorem k_726 : Cond.code yX4_turnTo prog_6_method_3_code 3 none ∈ gTab := gTab_in 726 (by decide +kernel) rfl
theorem k_728 : Cond.methodLink RX4 28 yX4_usefulOrder ∈ gTab := gTab_in 728 (by decide +kernel) rfl
theorem k_730 : Cond.instanceMethod yX4_usefulOrder ∈ gTab := gTab_in 730 (by decide +kernel) rfl
theorem k_731 : Cond.code yX4_usefulOrder prog_6_method_4_code 3 (some .int) ∈ gTab := gTab_in 731 (by decide +kernel) rfl
theorem k_732 : Cond.methodLink RX4 32 yX4_planDay ∈ gTab := gTab_in 732 (by decide +kernel) rfl
theorem k_734 : Cond.instanceMethod yX4_planDay ∈ gTab := gTab_in 734 (by decide +kernel) rfl
theorem k_735 : Cond.code yX4_planDay prog_6_method_5_code 7 none ∈ gTab := gTab_in 735 (by decide +kernel) rfl
theorem k_736 : Cond.methodLink RX4 54 yX6_floor ∈ gTab := gTab_in 736 (by decide +kernel) rfl
theorem k_737 : Cond.methodLink RX4 35 yX4_choose ∈ gTab := gTab_in 737 (by decide +kernel) rfl
theorem k_739 : Cond.instanceMethod yX4_choose ∈ gTab := gTab_in 739 (by decide +kernel) rfl
theorem k_740 : Cond.code yX4_choose prog_6_method_6_code 8 none ∈ gTab := gTab_in 740 (by decide +kernel) rfl
theorem k_741 : Cond.methodLink RX4 67 yX4_priceOf ∈ gTab := gTab_in 741 (by decide +kernel) rfl
theorem k_743 : Cond.instanceMethod yX4_priceOf ∈ gTab := gTab_in 743 (by decide +kernel) rfl
theorem k_744 : Cond.code yX4_priceOf prog_6_method_7_code 13 (some .long) ∈ gTab := gTab_in 744 (by decide +kernel) rfl
theorem k_745 : Cond.methodLink RX4 74 yX6_filled ∈ gTab := gTab_in 745 (by decide +kernel) rfl
theorem k_746 : Cond.methodLink RX4 77 yX6_orderPrice ∈ gTab := gTab_in 746 (by decide +kernel) rfl
theorem k_747 : Cond.methodLink RX4 81 yX6_priceFrom ∈ gTab := gTab_in 747 (by decide +kernel) rfl
theorem k_748 : Cond.methodLink RX4 84 yX1_weightOf ∈ gTab := gTab_in 748 (by decide +kernel) rfl
theorem k_749 : Cond.methodLink RX4 89 yX6_leftOf ∈ gTab := gTab_in 749 (by decide +kernel) rfl
theorem k_750 : Cond.methodLink RX4 61 yX4_placeOf ∈ gTab := gTab_in 750 (by decide +kernel) rfl
theorem k_751 : Cond.static yX4_placeOf ∈ gTab := gTab_in 751 (by decide +kernel) rfl
theorem k_752 : Cond.code yX4_placeOf prog_6_method_9_code 2 (some .int) ∈ gTab := gTab_in 752 (by decide +kernel) rfl
theorem k_753 : Cond.methodLink RX4 92 yX4_laterAt ∈ gTab := gTab_in 753 (by decide +kernel) rfl
theorem k_755 : Cond.instanceMethod yX4_laterAt ∈ gTab := gTab_in 755 (by decide +kernel) rfl
theorem k_756 : Cond.code yX4_laterAt prog_6_method_8_code 2 (some .long) ∈ gTab := gTab_in 756 (by decide +kernel) rfl
theorem k_760 : Cond.code yX11_bestPair prog_1_method_21_code 7 (some .int) ∈ gTab := gTab_in 760 (by decide +kernel) rfl
theorem k_761 : Cond.methodLink RX11 257 yX11_seekPair ∈ gTab := gTab_in 761 (by decide +kernel) rfl
theorem k_763 : Cond.instanceMethod yX11_seekPair ∈ gTab := gTab_in 763 (by decide +kernel) rfl
theorem k_764 : Cond.code yX11_seekPair prog_1_method_51_code 10 (some .long) ∈ gTab := gTab_in 764 (by decide +kernel) rfl
theorem k_765 : Cond.methodLink RX11 335 yX10_hasReached ∈ gTab := gTab_in 765 (by decide +kernel) rfl
theorem k_766 : Cond.instanceMethod yX10_hasReached ∈ gTab := gTab_in 766 (by decide +kernel) rfl
theorem k_767 : Cond.selects RX10 yX10_hasReached yX10_hasReached ∈ gTab := gTab_in 767 (by decide +kernel) rfl
theorem k_768 : Cond.code yX10_hasReached prog_12_method_4_code 2 (some .boolean) ∈ gTab := gTab_in 768 (by decide +kernel) rfl
theorem k_769 : Cond.methodLink RX11 338 yX10_usePair ∈ gTab := gTab_in 769 (by decide +kernel) rfl
theorem k_770 : Cond.instanceMethod yX10_usePair ∈ gTab := gTab_in 770 (by decide +kernel) rfl
theorem k_771 : Cond.selects RX10 yX10_usePair yX10_usePair ∈ gTab := gTab_in 771 (by decide +kernel) rfl
theorem k_772 : Cond.code yX10_usePair prog_12_method_3_code 4 none ∈ gTab := gTab_in 772 (by decide +kernel) rfl
theorem k_773 : Cond.methodLink RX10 36 yX3_pairWants ∈ gTab := gTab_in 773 (by decide +kernel) rfl
theorem k_777 : Cond.code yX11_pairTold prog_1_method_22_code 2 (some .int) ∈ gTab := gTab_in 777 (by decide +kernel) rfl
theorem k_781 : Cond.code yX11_spoilt prog_1_method_23_code 9 (some .int) ∈ gTab := gTab_in 781 (by decide +kernel) rfl
theorem k_782 : Cond.methodLink RX11 272 yX7_begin ∈ gTab := gTab_in 782 (by decide +kernel) rfl
theorem k_783 : Cond.instanceMethod yX7_begin ∈ gTab := gTab_in 783 (by decide +kernel) rfl
theorem k_784 : Cond.selects RX7 yX7_begin yX7_begin ∈ gTab := gTab_in 784 (by decide +kernel) rfl
theorem k_785 : Cond.code yX7_begin prog_9_method_2_code 4 none ∈ gTab := gTab_in 785 (by decide +kernel) rfl
theorem k_786 : Cond.methodLink RX7 23 Lib.Math.min.name ∈ gTab := gTab_in 786 (by decide +kernel) rfl
theorem k_787 : Cond.methodLink RX7 29 Lib.Math.max.name ∈ gTab := gTab_in 787 (by decide +kernel) rfl
theorem k_788 : Cond.methodLink RX7 43 yX8_startAt ∈ gTab := gTab_in 788 (by decide +kernel) rfl
theorem k_789 : Cond.methodLink RX11 276 yX7_follow ∈ gTab := gTab_in 789 (by decide +kernel) rfl
theorem k_790 : Cond.instanceMethod yX7_follow ∈ gTab := gTab_in 790 (by decide +kernel) rfl
theorem k_791 : Cond.selects RX7 yX7_follow yX7_follow ∈ gTab := gTab_in 791 (by decide +kernel) rfl
theorem k_792 : Cond.code yX7_follow prog_9_method_3_code 5 (some .long) ∈ gTab := gTab_in 792 (by decide +kernel) rfl
theorem k_793 : Cond.methodLink RX7 49 yX1_weightOfAll ∈ gTab := gTab_in 793 (by decide +kernel) rfl
theorem k_794 : Cond.methodLink RX7 55 yX8_places ∈ gTab := gTab_in 794 (by decide +kernel) rfl
theorem k_795 : Cond.methodLink RX7 58 yX8_placeAt ∈ gTab := gTab_in 795 (by decide +kernel) rfl
theorem k_796 : Cond.methodLink RX7 62 yX7_passFrom ∈ gTab := gTab_in 796 (by decide +kernel) rfl
theorem k_798 : Cond.instanceMethod yX7_passFrom ∈ gTab := gTab_in 798 (by decide +kernel) rfl
theorem k_799 : Cond.code yX7_passFrom prog_9_method_4_code 8 none ∈ gTab := gTab_in 799 (by decide +kernel) rfl
theorem k_800 : Cond.methodLink RX7 69 yX8_weightAt ∈ gTab := gTab_in 800 (by decide +kernel) rfl
theorem k_801 : Cond.methodLink RX7 73 yX1_weightOf ∈ gTab := gTab_in 801 (by decide +kernel) rfl
theorem k_802 : Cond.methodLink RX7 76 yX7_give ∈ gTab := gTab_in 802 (by decide +kernel) rfl
theorem k_804 : Cond.instanceMethod yX7_give ∈ gTab := gTab_in 804 (by decide +kernel) rfl
theorem k_805 : Cond.code yX7_give prog_9_method_5_code 6 none ∈ gTab := gTab_in 805 (by decide +kernel) rfl
theorem k_806 : Cond.methodLink RX7 79 yX8_add ∈ gTab := gTab_in 806 (by decide +kernel) rfl
theorem k_807 : Cond.methodLink RX7 66 yX8_turnToTomorrow ∈ gTab := gTab_in 807 (by decide +kernel) rfl
theorem k_811 : Cond.code yX11_see prog_1_method_24_code 2 (some .int) ∈ gTab := gTab_in 811 (by decide +kernel) rfl
theorem k_815 : Cond.code yX11_forget prog_1_method_25_code 2 (some .int) ∈ gTab := gTab_in 815 (by decide +kernel) rfl
theorem k_819 : Cond.code yX11_doubt prog_1_method_26_code 9 (some .int) ∈ gTab := gTab_in 819 (by decide +kernel) rfl
theorem k_820 : Cond.methodLink RX11 281 yX11_weightOfSeen ∈ gTab := gTab_in 820 (by decide +kernel) rfl
theorem k_822 : Cond.instanceMethod yX11_weightOfSeen ∈ gTab := gTab_in 822 (by decide +kernel) rfl
theorem k_823 : Cond.code yX11_weightOfSeen prog_1_method_52_code 5 (some .long) ∈ gTab := gTab_in 823 (by decide +kernel) rfl
theorem k_824 : Cond.methodLink RX11 341 yX1_weightOf ∈ gTab := gTab_in 824 (by decide +kernel) rfl
theorem k_828 : Cond.code yX11_upper prog_1_method_27_code 1 (some .long) ∈ gTab := gTab_in 828 (by decide +kernel) rfl
theorem k_832 : Cond.code yX11_lower prog_1_method_28_code 1 (some .long) ∈ gTab := gTab_in 832 (by decide +kernel) rfl
theorem k_834 : Cond.instanceMethod yX11_count ∈ gTab := gTab_in 834 (by decide +kernel) rfl
theorem k_835 : Cond.selects RX11 yX11_count yX11_count ∈ gTab := gTab_in 835 (by decide +kernel) rfl
theorem k_836 : Cond.code yX11_count prog_1_method_29_code 2 (some .int) ∈ gTab := gTab_in 836 (by decide +kernel) rfl
theorem k_837 : Cond.methodLink RX11 285 yX11_rulesThere ∈ gTab := gTab_in 837 (by decide +kernel) rfl
theorem k_839 : Cond.instanceMethod yX11_rulesThere ∈ gTab := gTab_in 839 (by decide +kernel) rfl
theorem k_840 : Cond.code yX11_rulesThere prog_1_method_50_code 3 (some .int) ∈ gTab := gTab_in 840 (by decide +kernel) rfl
theorem k_844 : Cond.code yX11_finding prog_1_method_30_code 1 (some .int) ∈ gTab := gTab_in 844 (by decide +kernel) rfl
theorem k_848 : Cond.code yX11_findings prog_1_method_31_code 2 (some .int) ∈ gTab := gTab_in 848 (by decide +kernel) rfl
theorem k_852 : Cond.code yX11_digest prog_1_method_32_code 4 (some .long) ∈ gTab := gTab_in 852 (by decide +kernel) rfl
theorem k_853 : Cond.constantLong RX11 291 17 ∈ gTab := gTab_in 853 (by decide +kernel) rfl
theorem k_854 : Cond.constantLong RX11 293 31 ∈ gTab := gTab_in 854 (by decide +kernel) rfl
theorem k_855 : Cond.methodLink RX11 295 yX11_count ∈ gTab := gTab_in 855 (by decide +kernel) rfl
theorem k_856 : Cond.methodLink RX11 298 yX11_digestBooks ∈ gTab := gTab_in 856 (by decide +kernel) rfl
theorem k_858 : Cond.instanceMethod yX11_digestBooks ∈ gTab := gTab_in 858 (by decide +kernel) rfl
theorem k_859 : Cond.code yX11_digestBooks prog_1_method_56_code 7 (some .long) ∈ gTab := gTab_in 859 (by decide +kernel) rfl
theorem k_860 : Cond.methodLink RX11 302 yX11_digestRules ∈ gTab := gTab_in 860 (by decide +kernel) rfl
theorem k_862 : Cond.instanceMethod yX11_digestRules ∈ gTab := gTab_in 862 (by decide +kernel) rfl
theorem k_863 : Cond.code yX11_digestRules prog_1_method_57_code 7 (some .long) ∈ gTab := gTab_in 863 (by decide +kernel) rfl
theorem k_864 : Cond.methodLink RX11 305 yX11_digestSheets ∈ gTab := gTab_in 864 (by decide +kernel) rfl
theorem k_866 : Cond.instanceMethod yX11_digestSheets ∈ gTab := gTab_in 866 (by decide +kernel) rfl
theorem k_867 : Cond.code yX11_digestSheets prog_1_method_58_code 7 (some .long) ∈ gTab := gTab_in 867 (by decide +kernel) rfl
theorem k_872 : Cond.code yX12_init prog_14_method_1_code 2 none ∈ gTab := gTab_in 872 (by decide +kernel) rfl
theorem k_873 : Cond.methodLink RX12 1 Lib.objectInit ∈ gTab := gTab_in 873 (by decide +kernel) rfl
theorem k_874 : Cond.fieldLink RX12 105 "SendForMoreModel" "latest" "I" ∈ gTab := gTab_in 874 (by decide +kernel) rfl
theorem k_875 : Cond.fieldLink RX12 7 "SendForMoreModel" "came" "[I" ∈ gTab := gTab_in 875 (by decide +kernel) rfl
theorem k_876 : Cond.fieldLink RX12 116 "SendForMoreModel" "upper" "J" ∈ gTab := gTab_in 876 (by decide +kernel) rfl
theorem k_877 : Cond.fieldLink RX12 79 "SendForMoreModel" "lower" "J" ∈ gTab := gTab_in 877 (by decide +kernel) rfl
theorem k_878 : Cond.fieldLink RX12 13 "SendForMoreModel" "isBook" "[Z" ∈ gTab := gTab_in 878 (by decide +kernel) rfl
theorem k_879 : Cond.fieldLink RX12 17 "SendForMoreModel" "weights" "[I" ∈ gTab := gTab_in 879 (by decide +kernel) rfl
theorem k_880 : Cond.fieldLink RX12 20 "SendForMoreModel" "copied" "[I" ∈ gTab := gTab_in 880 (by decide +kernel) rfl
theorem k_881 : Cond.fieldLink RX12 23 "SendForMoreModel" "sheetSize" "[I" ∈ gTab := gTab_in 881 (by decide +kernel) rfl
theorem k_882 : Cond.fieldLink RX12 26 "SendForMoreModel" "sheets" "[B" ∈ gTab := gTab_in 882 (by decide +kernel) rfl
theorem k_883 : Cond.fieldLink RX12 132 "SendForMoreModel" "rules" "I" ∈ gTab := gTab_in 883 (by decide +kernel) rfl
theorem k_884 : Cond.fieldLink RX12 30 "SendForMoreModel" "kindOf" "[I" ∈ gTab := gTab_in 884 (by decide +kernel) rfl
theorem k_885 : Cond.fieldLink RX12 33 "SendForMoreModel" "low" "[I" ∈ gTab := gTab_in 885 (by decide +kernel) rfl
theorem k_886 : Cond.fieldLink RX12 36 "SendForMoreModel" "high" "[I" ∈ gTab := gTab_in 886 (by decide +kernel) rfl
theorem k_887 : Cond.fieldLink RX12 39 "SendForMoreModel" "lots" "[I" ∈ gTab := gTab_in 887 (by decide +kernel) rfl
theorem k_888 : Cond.fieldLink RX12 42 "SendForMoreModel" "tableSize" "[I" ∈ gTab := gTab_in 888 (by decide +kernel) rfl
theorem k_889 : Cond.fieldLink RX12 45 "SendForMoreModel" "tables" "[B" ∈ gTab := gTab_in 889 (by decide +kernel) rfl
theorem k_890 : Cond.fieldLink RX12 48 "SendForMoreModel" "isGone" "[Z" ∈ gTab := gTab_in 890 (by decide +kernel) rfl
theorem k_891 : Cond.fieldLink RX12 83 "SendForMoreModel" "most" "I" ∈ gTab := gTab_in 891 (by decide +kernel) rfl
theorem k_892 : Cond.fieldLink RX12 153 "SendForMoreModel" "lead" "I" ∈ gTab := gTab_in 892 (by decide +kernel) rfl
theorem k_893 : Cond.fieldLink RX12 156 "SendForMoreModel" "isOwed" "Z" ∈ gTab := gTab_in 893 (by decide +kernel) rfl
theorem k_894 : Cond.fieldLink RX12 87 "SendForMoreModel" "costK" "I" ∈ gTab := gTab_in 894 (by decide +kernel) rfl
theorem k_895 : Cond.fieldLink RX12 90 "SendForMoreModel" "costC" "I" ∈ gTab := gTab_in 895 (by decide +kernel) rfl
theorem k_896 : Cond.fieldLink RX12 93 "SendForMoreModel" "costH" "I" ∈ gTab := gTab_in 896 (by decide +kernel) rfl
theorem k_897 : Cond.fieldLink RX12 96 "SendForMoreModel" "costB" "I" ∈ gTab := gTab_in 897 (by decide +kernel) rfl
theorem k_898 : Cond.fieldLink RX12 172 "SendForMoreModel" "nextX" "I" ∈ gTab := gTab_in 898 (by decide +kernel) rfl
theorem k_899 : Cond.fieldLink RX12 160 "SendForMoreModel" "nextOne" "I" ∈ gTab := gTab_in 899 (by decide +kernel) rfl
theorem k_900 : Cond.fieldLink RX12 163 "SendForMoreModel" "nextTwo" "I" ∈ gTab := gTab_in 900 (by decide +kernel) rfl
theorem k_901 : Cond.fieldLink RX12 175 "SendForMoreModel" "dayCost" "I" ∈ gTab := gTab_in 901 (by decide +kernel) rfl
theorem k_902 : Cond.fieldLink RX12 166 "SendForMoreModel" "met" "I" ∈ gTab := gTab_in 902 (by decide +kernel) rfl
theorem k_903 : Cond.fieldLink RX12 169 "SendForMoreModel" "lacks" "I" ∈ gTab := gTab_in 903 (by decide +kernel) rfl
theorem k_904 : Cond.fieldLink RX12 51 "SendForMoreModel" "states" "[I" ∈ gTab := gTab_in 904 (by decide +kernel) rfl
theorem k_905 : Cond.fieldLink RX12 54 "SendForMoreModel" "ways" "[J" ∈ gTab := gTab_in 905 (by decide +kernel) rfl
theorem k_906 : Cond.fieldLink RX12 203 "SendForMoreModel" "many" "I" ∈ gTab := gTab_in 906 (by decide +kernel) rfl
theorem k_907 : Cond.fieldLink RX12 58 "SendForMoreModel" "newStates" "[I" ∈ gTab := gTab_in 907 (by decide +kernel) rfl
theorem k_908 : Cond.fieldLink RX12 61 "SendForMoreModel" "newWays" "[J" ∈ gTab := gTab_in 908 (by decide +kernel) rfl
theorem k_909 : Cond.fieldLink RX12 181 "SendForMoreModel" "newMany" "I" ∈ gTab := gTab_in 909 (by decide +kernel) rfl
theorem k_910 : Cond.fieldLink RX12 64 "SendForMoreModel" "placeOf" "[I" ∈ gTab := gTab_in 910 (by decide +kernel) rfl
theorem k_911 : Cond.fieldLink RX12 67 "SendForMoreModel" "stampOf" "[I" ∈ gTab := gTab_in 911 (by decide +kernel) rfl
theorem k_912 : Cond.fieldLink RX12 178 "SendForMoreModel" "stamp" "I" ∈ gTab := gTab_in 912 (by decide +kernel) rfl
theorem k_913 : Cond.fieldLink RX12 184 "SendForMoreModel" "sumCost" "J" ∈ gTab := gTab_in 913 (by decide +kernel) rfl
theorem k_914 : Cond.fieldLink RX12 187 "SendForMoreModel" "sumMet" "J" ∈ gTab := gTab_in 914 (by decide +kernel) rfl
theorem k_915 : Cond.fieldLink RX12 190 "SendForMoreModel" "sumDemand" "J" ∈ gTab := gTab_in 915 (by decide +kernel) rfl
theorem k_916 : Cond.fieldLink RX12 193 "SendForMoreModel" "sumIn" "J" ∈ gTab := gTab_in 916 (by decide +kernel) rfl
theorem k_917 : Cond.fieldLink RX12 210 "SendForMoreModel" "sumWays" "J" ∈ gTab := gTab_in 917 (by decide +kernel) rfl
theorem k_918 : Cond.fieldLink RX12 196 "SendForMoreModel" "all" "J" ∈ gTab := gTab_in 918 (by decide +kernel) rfl
theorem k_919 : Cond.fieldLink RX12 70 "SendForMoreModel" "best" "[J" ∈ gTab := gTab_in 919 (by decide +kernel) rfl
theorem k_920 : Cond.fieldLink RX12 73 "SendForMoreModel" "bestNew" "[J" ∈ gTab := gTab_in 920 (by decide +kernel) rfl
theorem k_921 : Cond.fieldLink RX12 242 "SendForMoreModel" "bestOrder" "I" ∈ gTab := gTab_in 921 (by decide +kernel) rfl
theorem k_922 : Cond.fieldLink RX12 99 "SendForMoreModel" "pairLow" "I" ∈ gTab := gTab_in 922 (by decide +kernel) rfl
theorem k_923 : Cond.fieldLink RX12 102 "SendForMoreModel" "pairHigh" "I" ∈ gTab := gTab_in 923 (by decide +kernel) rfl
theorem k_924 : Cond.fieldLink RX12 249 "SendForMoreModel" "triedLow" "I" ∈ gTab := gTab_in 924 (by decide +kernel) rfl
theorem k_925 : Cond.fieldLink RX12 252 "SendForMoreModel" "triedHigh" "I" ∈ gTab := gTab_in 925 (by decide +kernel) rfl
theorem k_926 : Cond.fieldLink RX12 259 "SendForMoreModel" "first" "I" ∈ gTab := gTab_in 926 (by decide +kernel) rfl
theorem k_927 : Cond.fieldLink RX12 262 "SendForMoreModel" "second" "I" ∈ gTab := gTab_in 927 (by decide +kernel) rfl
theorem k_928 : Cond.fieldLink RX12 265 "SendForMoreModel" "third" "I" ∈ gTab := gTab_in 928 (by decide +kernel) rfl
theorem k_929 : Cond.fieldLink RX12 272 "SendForMoreModel" "seen" "I" ∈ gTab := gTab_in 929 (by decide +kernel) rfl
theorem k_930 : Cond.fieldLink RX12 76 "SendForMoreModel" "demandsSeen" "[I" ∈ gTab := gTab_in 930 (by decide +kernel) rfl
theorem k_1049 : Cond.code yX12_finding prog_14_method_4_code 1 (some .int) ∈ gTab := gTab_in 1049 (by decide +kernel) rfl
theorem k_1053 : Cond.code yX12_findings prog_14_method_5_code 2 (some .int) ∈ gTab := gTab_in 1053 (by decide +kernel) rfl
theorem k_1054 : Cond.methodLink RX12 108 yX12_in ∈ gTab := gTab_in 1054 (by decide +kernel) rfl
theorem k_1055 : Cond.static yX12_in ∈ gTab := gTab_in 1055 (by decide +kernel) rfl
theorem k_1056 : Cond.code yX12_in prog_14_method_2_code 3 (some .boolean) ∈ gTab := gTab_in 1056 (by decide +kernel) rfl
theorem k_1060 : Cond.code yX12_upper prog_14_method_8_code 1 (some .long) ∈ gTab := gTab_in 1060 (by decide +kernel) rfl
theorem k_1064 : Cond.code yX12_lower prog_14_method_9_code 1 (some .long) ∈ gTab := gTab_in 1064 (by decide +kernel) rfl
theorem k_1068 : Cond.code yX12_book prog_14_method_11_code 4 (some .int) ∈ gTab := gTab_in 1068 (by decide +kernel) rfl
theorem k_1069 : Cond.methodLink RX12 119 yX12_isPlace ∈ gTab := gTab_in 1069 (by decide +kernel) rfl
theorem k_1070 : Cond.static yX12_isPlace ∈ gTab := gTab_in 1070 (by decide +kernel) rfl
theorem k_1071 : Cond.code yX12_isPlace prog_14_method_10_code 1 (some .boolean) ∈ gTab := gTab_in 1071 (by decide +kernel) rfl
theorem k_1075 : Cond.code yX12_weigh prog_14_method_12_code 5 (some .int) ∈ gTab := gTab_in 1075 (by decide +kernel) rfl
theorem k_1076 : Cond.methodLink RX12 123 yX12_meets ∈ gTab := gTab_in 1076 (by decide +kernel) rfl
theorem k_1078 : Cond.instanceMethod yX12_meets ∈ gTab := gTab_in 1078 (by decide +kernel) rfl
theorem k_1079 : Cond.code yX12_meets prog_14_method_3_code 2 (some .int) ∈ gTab := gTab_in 1079 (by decide +kernel) rfl
theorem k_1083 : Cond.code yX12_close prog_14_method_13_code 2 (some .int) ∈ gTab := gTab_in 1083 (by decide +kernel) rfl
theorem k_1087 : Cond.code yX12_copy prog_14_method_14_code 7 (some .int) ∈ gTab := gTab_in 1087 (by decide +kernel) rfl
theorem k_1088 : Cond.constantLong RX12 127 7 ∈ gTab := gTab_in 1088 (by decide +kernel) rfl
theorem k_1092 : Cond.code yX12_mean prog_14_method_16_code 4 (some .int) ∈ gTab := gTab_in 1092 (by decide +kernel) rfl
theorem k_1093 : Cond.methodLink RX12 129 yX12_allOf ∈ gTab := gTab_in 1093 (by decide +kernel) rfl
theorem k_1095 : Cond.instanceMethod yX12_allOf ∈ gTab := gTab_in 1095 (by decide +kernel) rfl
theorem k_1096 : Cond.code yX12_allOf prog_14_method_15_code 4 (some .int) ∈ gTab := gTab_in 1096 (by decide +kernel) rfl
theorem k_1100 : Cond.code yX12_sheet prog_14_method_17_code 4 (some .int) ∈ gTab := gTab_in 1100 (by decide +kernel) rfl
theorem k_1104 : Cond.code yX12_lay prog_14_method_18_code 5 (some .int) ∈ gTab := gTab_in 1104 (by decide +kernel) rfl
theorem k_1108 : Cond.code yX12_tear prog_14_method_19_code 2 (some .int) ∈ gTab := gTab_in 1108 (by decide +kernel) rfl
theorem k_1112 : Cond.code yX12_table prog_14_method_21_code 3 (some .int) ∈ gTab := gTab_in 1112 (by decide +kernel) rfl
theorem k_1113 : Cond.methodLink RX12 135 yX12_add ∈ gTab := gTab_in 1113 (by decide +kernel) rfl
theorem k_1115 : Cond.instanceMethod yX12_add ∈ gTab := gTab_in 1115 (by decide +kernel) rfl
theorem k_1116 : Cond.code yX12_add prog_14_method_20_code 6 (some .int) ∈ gTab := gTab_in 1116 (by decide +kernel) rfl
theorem k_1120 : Cond.code yX12_rule prog_14_method_22_code 5 (some .int) ∈ gTab := gTab_in 1120 (by decide +kernel) rfl
theorem k_1124 : Cond.code yX12_drop prog_14_method_25_code 3 (some .int) ∈ gTab := gTab_in 1124 (by decide +kernel) rfl
theorem k_1125 : Cond.methodLink RX12 142 yX12_need ∈ gTab := gTab_in 1125 (by decide +kernel) rfl
theorem k_1127 : Cond.instanceMethod yX12_need ∈ gTab := gTab_in 1127 (by decide +kernel) rfl
theorem k_1128 : Cond.code yX12_need prog_14_method_24_code 3 (some .int) ∈ gTab := gTab_in 1128 (by decide +kernel) rfl
theorem k_1129 : Cond.methodLink RX12 139 yX12_isRule ∈ gTab := gTab_in 1129 (by decide +kernel) rfl
theorem k_1131 : Cond.instanceMethod yX12_isRule ∈ gTab := gTab_in 1131 (by decide +kernel) rfl
theorem k_1132 : Cond.code yX12_isRule prog_14_method_23_code 2 (some .boolean) ∈ gTab := gTab_in 1132 (by decide +kernel) rfl
theorem k_1136 : Cond.code yX12_told prog_14_method_27_code 4 (some .int) ∈ gTab := gTab_in 1136 (by decide +kernel) rfl
theorem k_1137 : Cond.methodLink RX12 146 yX12_toldOf ∈ gTab := gTab_in 1137 (by decide +kernel) rfl
theorem k_1139 : Cond.instanceMethod yX12_toldOf ∈ gTab := gTab_in 1139 (by decide +kernel) rfl
theorem k_1140 : Cond.code yX12_toldOf prog_14_method_26_code 3 (some .int) ∈ gTab := gTab_in 1140 (by decide +kernel) rfl
theorem k_1144 : Cond.code yX12_mark prog_14_method_28_code 4 (some .int) ∈ gTab := gTab_in 1144 (by decide +kernel) rfl
theorem k_1148 : Cond.code yX12_order prog_14_method_30_code 4 (some .int) ∈ gTab := gTab_in 1148 (by decide +kernel) rfl
theorem k_1149 : Cond.methodLink RX12 150 yX12_orders ∈ gTab := gTab_in 1149 (by decide +kernel) rfl
theorem k_1151 : Cond.instanceMethod yX12_orders ∈ gTab := gTab_in 1151 (by decide +kernel) rfl
theorem k_1152 : Cond.code yX12_orders prog_14_method_29_code 4 (some .int) ∈ gTab := gTab_in 1152 (by decide +kernel) rfl
theorem k_1156 : Cond.code yX12_shop prog_14_method_31_code 4 (some .int) ∈ gTab := gTab_in 1156 (by decide +kernel) rfl
theorem k_1160 : Cond.code yX12_costs prog_14_method_32_code 5 (some .int) ∈ gTab := gTab_in 1160 (by decide +kernel) rfl
theorem k_1164 : Cond.code yX12_cost prog_14_method_41_code 6 (some .int) ∈ gTab := gTab_in 1164 (by decide +kernel) rfl
theorem k_1165 : Cond.methodLink RX12 228 yX12_needBoth ∈ gTab := gTab_in 1165 (by decide +kernel) rfl
theorem k_1167 : Cond.instanceMethod yX12_needBoth ∈ gTab := gTab_in 1167 (by decide +kernel) rfl
theorem k_1168 : Cond.code yX12_needBoth prog_14_method_40_code 6 (some .int) ∈ gTab := gTab_in 1168 (by decide +kernel) rfl
theorem k_1169 : Cond.methodLink RX12 221 yX12_isStart ∈ gTab := gTab_in 1169 (by decide +kernel) rfl
theorem k_1171 : Cond.instanceMethod yX12_isStart ∈ gTab := gTab_in 1171 (by decide +kernel) rfl
theorem k_1172 : Cond.code yX12_isStart prog_14_method_38_code 3 (some .boolean) ∈ gTab := gTab_in 1172 (by decide +kernel) rfl
theorem k_1173 : Cond.methodLink RX12 225 yX12_needBook ∈ gTab := gTab_in 1173 (by decide +kernel) rfl
theorem k_1175 : Cond.instanceMethod yX12_needBook ∈ gTab := gTab_in 1175 (by decide +kernel) rfl
theorem k_1176 : Cond.code yX12_needBook prog_14_method_39_code 2 (some .int) ∈ gTab := gTab_in 1176 (by decide +kernel) rfl
theorem k_1177 : Cond.methodLink RX12 232 yX12_goThrough ∈ gTab := gTab_in 1177 (by decide +kernel) rfl
theorem k_1179 : Cond.instanceMethod yX12_goThrough ∈ gTab := gTab_in 1179 (by decide +kernel) rfl
theorem k_1180 : Cond.code yX12_goThrough prog_14_method_36_code 10 none ∈ gTab := gTab_in 1180 (by decide +kernel) rfl
theorem k_1181 : Cond.methodLink RX12 199 yX12_stateOf ∈ gTab := gTab_in 1181 (by decide +kernel) rfl
theorem k_1182 : Cond.static yX12_stateOf ∈ gTab := gTab_in 1182 (by decide +kernel) rfl
theorem k_1183 : Cond.code yX12_stateOf prog_14_method_35_code 3 (some .int) ∈ gTab := gTab_in 1183 (by decide +kernel) rfl
theorem k_1184 : Cond.methodLink RX12 206 yX12_goOn ∈ gTab := gTab_in 1184 (by decide +kernel) rfl
theorem k_1186 : Cond.instanceMethod yX12_goOn ∈ gTab := gTab_in 1186 (by decide +kernel) rfl
theorem k_1187 : Cond.code yX12_goOn prog_14_method_37_code 13 none ∈ gTab := gTab_in 1187 (by decide +kernel) rfl
theorem k_1188 : Cond.methodLink RX12 213 yX12_day ∈ gTab := gTab_in 1188 (by decide +kernel) rfl
theorem k_1190 : Cond.instanceMethod yX12_day ∈ gTab := gTab_in 1190 (by decide +kernel) rfl
theorem k_1191 : Cond.code yX12_day prog_14_method_33_code 10 none ∈ gTab := gTab_in 1191 (by decide +kernel) rfl
theorem k_1192 : Cond.methodLink RX12 217 yX12_put ∈ gTab := gTab_in 1192 (by decide +kernel) rfl
theorem k_1194 : Cond.instanceMethod yX12_put ∈ gTab := gTab_in 1194 (by decide +kernel) rfl
theorem k_1195 : Cond.code yX12_put prog_14_method_34_code 4 none ∈ gTab := gTab_in 1195 (by decide +kernel) rfl
theorem k_1196 : Cond.methodLink RX12 236 yX12_tells ∈ gTab := gTab_in 1196 (by decide +kernel) rfl
theorem k_1198 : Cond.instanceMethod yX12_tells ∈ gTab := gTab_in 1198 (by decide +kernel) rfl
theorem k_1199 : Cond.code yX12_tells prog_14_method_7_code 8 (some .int) ∈ gTab := gTab_in 1199 (by decide +kernel) rfl
theorem k_1200 : Cond.methodLink RX12 112 yX12_gcd ∈ gTab := gTab_in 1200 (by decide +kernel) rfl
theorem k_1201 : Cond.static yX12_gcd ∈ gTab := gTab_in 1201 (by decide +kernel) rfl
theorem k_1202 : Cond.code yX12_gcd prog_14_method_6_code 10 (some .long) ∈ gTab := gTab_in 1202 (by decide +kernel) rfl
theorem k_1206 : Cond.code yX12_service prog_14_method_42_code 7 (some .int) ∈ gTab := gTab_in 1206 (by decide +kernel) rfl
theorem k_1210 : Cond.code yX12_best prog_14_method_44_code 13 (some .int) ∈ gTab := gTab_in 1210 (by decide +kernel) rfl
theorem k_1211 : Cond.methodLink RX12 245 yX12_leastFrom ∈ gTab := gTab_in 1211 (by decide +kernel) rfl
theorem k_1213 : Cond.instanceMethod yX12_leastFrom ∈ gTab := gTab_in 1213 (by decide +kernel) rfl
theorem k_1214 : Cond.code yX12_leastFrom prog_14_method_43_code 14 (some .long) ∈ gTab := gTab_in 1214 (by decide +kernel) rfl
theorem k_1215 : Cond.constantLong RX12 240 (-1) ∈ gTab := gTab_in 1215 (by decide +kernel) rfl
theorem k_1219 : Cond.code yX12_bestPair prog_14_method_45_code 11 (some .int) ∈ gTab := gTab_in 1219 (by decide +kernel) rfl
theorem k_1220 : Cond.methodLink RX12 255 yX12_goThroughPair ∈ gTab := gTab_in 1220 (by decide +kernel) rfl
theorem k_1222 : Cond.instanceMethod yX12_goThroughPair ∈ gTab := gTab_in 1222 (by decide +kernel) rfl
theorem k_1223 : Cond.code yX12_goThroughPair prog_14_method_46_code 15 none ∈ gTab := gTab_in 1223 (by decide +kernel) rfl
theorem k_1227 : Cond.code yX12_pairTold prog_14_method_47_code 2 (some .int) ∈ gTab := gTab_in 1227 (by decide +kernel) rfl
theorem k_1231 : Cond.code yX12_spoilt prog_14_method_49_code 16 (some .int) ∈ gTab := gTab_in 1231 (by decide +kernel) rfl
theorem k_1232 : Cond.methodLink RX12 268 yX12_give ∈ gTab := gTab_in 1232 (by decide +kernel) rfl
theorem k_1234 : Cond.instanceMethod yX12_give ∈ gTab := gTab_in 1234 (by decide +kernel) rfl
theorem k_1235 : Cond.code yX12_give prog_14_method_48_code 8 none ∈ gTab := gTab_in 1235 (by decide +kernel) rfl
theorem k_1239 : Cond.code yX12_see prog_14_method_50_code 2 (some .int) ∈ gTab := gTab_in 1239 (by decide +kernel) rfl
theorem k_1243 : Cond.code yX12_forget prog_14_method_51_code 2 (some .int) ∈ gTab := gTab_in 1243 (by decide +kernel) rfl
theorem k_1247 : Cond.code yX12_doubt prog_14_method_52_code 10 (some .int) ∈ gTab := gTab_in 1247 (by decide +kernel) rfl
theorem k_1249 : Cond.instanceMethod yX12_count ∈ gTab := gTab_in 1249 (by decide +kernel) rfl
theorem k_1250 : Cond.selects RX12 yX12_count yX12_count ∈ gTab := gTab_in 1250 (by decide +kernel) rfl
theorem k_1251 : Cond.code yX12_count prog_14_method_53_code 4 (some .int) ∈ gTab := gTab_in 1251 (by decide +kernel) rfl
theorem k_1255 : Cond.code yX12_digest prog_14_method_54_code 5 (some .long) ∈ gTab := gTab_in 1255 (by decide +kernel) rfl
theorem k_1256 : Cond.constantLong RX12 275 17 ∈ gTab := gTab_in 1256 (by decide +kernel) rfl
theorem k_1257 : Cond.constantLong RX12 277 31 ∈ gTab := gTab_in 1257 (by decide +kernel) rfl
theorem k_1258 : Cond.methodLink RX12 279 yX12_count ∈ gTab := gTab_in 1258 (by decide +kernel) rfl
end
section
theorem met_of {l : Launch} {y : MethodName} {bytes : ByteArray} {maxL : Nat} {ret : Option FieldType} {rm : Room} {D : va_G} {cA : Nat → ClassId} {z0 : Nat} {σ : Me} {av : List Value} {Qc : Array Value → State → Outcome → State → Prop} {mc ms : Nat} (hy : plainName y.cls = true) (hlen : (lg_sl av).length ≤ maxL)
    (hW : ∀ {p : Program} {e : Env} {s : State} {m : MethodId} {args : Array Value} {below : List Frame} {meth : Method} {c : Code} {ls : Array Slot}, Cx p m c bytes maxL s args y.cls D cA → meth.locks = false → meth.sig.returnType = ret → meth.name = y.name → wS D cA z0 s σ s.heap [] → lv_has ls maxL (lv_args 0 av) → W p l e rm s m args below meth c s.heap [] 0 0 (MQ below Qc args s mc ms (AM z0)) (F0 m 0 ls [])) :
    Met l y (Cond.code y bytes maxL ret :: gTab) rm (PcM D cA z0 σ av) Qc mc ms (AM z0) := by
  refine Met.ofW (cc := bytes) (maxL := maxL) (ret := ret) hy rfl ?_
  intro p e s m args below meth c s₁ B hml hv
  obtain ⟨rfl, hw0, hK⟩ := hv
  have hts := atoms_spec (ws := Cond.code y bytes maxL ret :: gTab) B.pre
  have hX : Cx p m c bytes maxL s av.toArray y.cls D cA := ⟨⟨B.exec, B.bytes, hml, findClass_of_methodNamed B.named, fun w hw => hts w (List.mem_cons_of_mem _ hw)⟩, hK⟩
  have hl := lv_entry av (n := maxL) hlen
  rw [lg_entry_eq]
  generalize (lg_sl av ++ List.replicate (maxL - (lg_sl av).length) Slot.unset).toArray = ls at hl ⊢
  exact hW hX B.notSynchronized B.returns (name_of_methodNamed B.named B.method).1 ⟨hw0, va_S.rf⟩ hl
end
section
abbrev rX11_isWithin : Room := { frames := 0, cells := 0, slots := 0, locals := 0 }
def pX11_isWithin (σ : Me) (x0 : Int32) (x1 : Int32) (x2 : Int32) (Q : Int32 → Me → Prop) : Prop := ∀ v_1 : Int32, v_1 = (if x0 < x1 then ((0 : Int32)) else (if x2 < x0 then ((0 : Int32)) else ((1 : Int32)))) → (v_1 = 0 ∨ v_1 = 1) ∧ Q v_1 σ
set_option maxHeartbeats 4000000 in
set_option maxRecDepth 100000 in
theorem wX11_isWithin {p : Program} {l : Launch} {e : Env} {s : State} {m : MethodId} {args : Array Value} {below : List Frame} {meth : Method} {c : Code} {D : va_G} {cA : Nat → ClassId} {z0 : Nat} (hX : Cx p m c cX11_isWithin 3 s args RX11 D cA) (hlk : meth.locks = false) (hr : meth.sig.returnType = (some .boolean)) {σ : Me} {x0 : Int32} {x1 : Int32} {x2 : Int32} {Q : Int32 → Me → Prop} (h : pX11_isWithin σ x0 x1 x2 Q) {H : Heap} {locs : List Loc} {ls : Array Slot} (hw : wS D cA z0 s σ H locs) (hl : lv_has ls 3 [(0, .int x0), (1, .int x1), (2, .int x2)]) : W p l e rX11_isWithin s m args below meth c H locs 0 0 (MQ below (va_Qi Q (BM D cA z0) (AM z0)) args s 0 0 (AM z0)) (F0 m 0 ls []) := by
  have hx := hX.1.1
  have hb := hX.1.2.1
  have hown := hX.1.2.2.2.1
  have hts := hX.1.2.2.2.2
  unfold pX11_isWithin at h
  refine lv_iload_n hx hb dX11_isWithin_0 rfl (lv_at hl 0 rfl) ?_
  refine lv_iload_n hx hb dX11_isWithin_1 rfl (lv_at hl 1 rfl) ?_
  have kM2 : ∀ (v_1 : Int32) (ls : Array Slot), v_1 = (if x0 < x1 then ((0 : Int32)) else (if x2 < x0 then ((0 : Int32)) else ((1 : Int32)))) → lv_has ls 3 [] → W p l e rX11_isWithin s m args below meth c H locs 0 0 (MQ below (va_Qi Q (BM D cA z0) (AM z0)) args s 0 0 (AM z0)) (F0 m 15 ls [.int v_1]) := by
    intro v_1 ls e_v_1 hl
    have h := h v_1 e_v_1
    exact m_zret hX hlk hr hw h.1 h.2 dX11_isWithin_15
  refine lv_icmp_lt (tgt := 14) hx hb dX11_isWithin_2 (by decide) (fun hc3 => ?_) (fun hc3 => ?_)
  · refine lv_iconst (v := 0) hx hb dX11_isWithin_14 (by decide) ?_
    exact kM2 _ _ (by first | rfl | rw [if_pos hc3] | simp only [if_pos hc3]) (lv_sub hl [] rfl)
  · refine lv_iload_n hx hb dX11_isWithin_5 rfl (lv_at hl 0 rfl) ?_
    refine lv_iload_n hx hb dX11_isWithin_6 rfl (lv_at hl 2 rfl) ?_
    refine lv_icmp_gt (tgt := 14) hx hb dX11_isWithin_7 (by decide) (fun hc4 => ?_) (fun hc4 => ?_)
    · refine lv_iconst (v := 0) hx hb dX11_isWithin_14 (by decide) ?_
      exact kM2 _ _ (by first | rfl | rw [if_neg hc3, if_pos hc4] | simp only [if_neg hc3, if_pos hc4]) (lv_sub hl [] rfl)
    · refine lv_iconst (v := 1) hx hb dX11_isWithin_10 (by decide) ?_
      refine lv_goto (tgt := 15) hx hb dX11_isWithin_11 (by decide) ?_
      exact kM2 _ _ (by first | rfl | rw [if_neg hc3, if_neg hc4] | simp only [if_neg hc3, if_neg hc4]) (lv_sub hl [] rfl)
theorem mtX11_isWithin : Mth yX11_isWithin cX11_isWithin 3 (some .boolean) 3 := ⟨k_313, k_43, by decide +kernel⟩
theorem tX11_isWithin {l : Launch} {D : va_G} {cA : Nat → ClassId} {z0 : Nat} {σ : Me} {x0 : Int32} {x1 : Int32} {x2 : Int32} {Q : Int32 → Me → Prop} (h : pX11_isWithin σ x0 x1 x2 Q) : Met l yX11_isWithin (Cond.code yX11_isWithin cX11_isWithin 3 (some .boolean) :: gTab) rX11_isWithin (PcM D cA z0 σ [.int x0, .int x1, .int x2]) (va_Qi Q (BM D cA z0) (AM z0)) 0 0 (AM z0) :=
  met_of (by decide) (Nat.le_of_ble_eq_true rfl) (fun hX hlk hr hn hw hl => wX11_isWithin hX hlk hr h hw hl)
abbrev rX11_isBook : Room := { frames := 1, cells := 0, slots := 0, locals := 22 }
def pX11_isBook (σ : Me) (x0 : Int32) (Q : Int32 → Me → Prop) : Prop := pX11_isWithin σ x0 ((0 : Int32)) ((3 : Int32)) (fun r1 σ2 => (r1 = 0 ∨ r1 = 1) ∧ Q r1 σ2)
set_option maxHeartbeats 4000000 in
set_option maxRecDepth 100000 in
theorem wX11_isBook {p : Program} {l : Launch} {e : Env} {s : State} {m : MethodId} {args : Array Value} {below : List Frame} {meth : Method} {c : Code} {D : va_G} {cA : Nat → ClassId} {z0 : Nat} (hX : Cx p m c cX11_isBook 1 s args RX11 D cA) (hlk : meth.locks = false) (hr : meth.sig.returnType = (some .boolean)) {σ : Me} {x0 : Int32} {Q : Int32 → Me → Prop} (h : pX11_isBook σ x0 Q) {H : Heap} {locs : List Loc} {ls : Array Slot} (hw : wS D cA z0 s σ H locs) (hl : lv_has ls 1 [(0, .int x0)]) : W p l e rX11_isBook s m args below meth c H locs 0 0 (MQ below (va_Qi Q (BM D cA z0) (AM z0)) args s 0 0 (AM z0)) (F0 m 0 ls []) := by
  have hx := hX.1.1
  have hb := hX.1.2.1
  have hown := hX.1.2.2.2.1
  have hts := hX.1.2.2.2.2
  unfold pX11_isBook at h
  refine lv_iload_n hx hb dX11_isBook_0 rfl (lv_at hl 0 rfl) ?_
  refine lv_iconst (v := 0) hx hb dX11_isBook_1 (by decide) ?_
  refine lv_iconst (v := 3) hx hb dX11_isBook_2 (by decide) ?_
  refine m_ci (m_runS (rest := []) hX hw (tX11_isWithin h) mtX11_isWithin k_311 k_312 ⟨⟨rfl, rfl, Nat.le_of_ble_eq_true rfl, Nat.le_of_ble_eq_true rfl⟩, Nat.le_of_ble_eq_true rfl, Nat.le_of_ble_eq_true rfl⟩ rfl hl.1 rfl (Nat.le_of_ble_eq_true rfl) dX11_isBook_3) hw (fun r1 σ2 H locs h hw => ?_)
  exact m_zret hX hlk hr hw h.1 h.2 dX11_isBook_6
theorem mtX11_isBook : Mth yX11_isBook cX11_isBook 1 (some .boolean) 1 := ⟨k_310, k_43, by decide +kernel⟩
theorem tX11_isBook {l : Launch} {D : va_G} {cA : Nat → ClassId} {z0 : Nat} {σ : Me} {x0 : Int32} {Q : Int32 → Me → Prop} (h : pX11_isBook σ x0 Q) : Met l yX11_isBook (Cond.code yX11_isBook cX11_isBook 1 (some .boolean) :: gTab) rX11_isBook (PcM D cA z0 σ [.int x0]) (va_Qi Q (BM D cA z0) (AM z0)) 0 0 (AM z0) :=
  met_of (by decide) (Nat.le_of_ble_eq_true rfl) (fun hX hlk hr hn hw hl => wX11_isBook hX hlk hr h hw hl)
abbrev rX1_weightOfAll : Room := { frames := 0, cells := 0, slots := 0, locals := 0 }
def pX1_weightOfAll (σ : Me) (a0 : Nat) (Q : Int32 → Me → Prop) : Prop := ∃ I4 : Nat → Me → Int32 → Int32 → Prop, (∀ (n4 : Nat) (σ1 : Me) (x1_2 : Int32) (x2_3 : Int32), I4 n4 σ1 x1_2 x2_3 → gT σ1 a0 = 1 ∧ ∃ b5 : Nat, gP σ1 a0 1 = some b5 ∧ gT σ1 b5 = 20 ∧ ((nI (gN σ1 b5)) ≤ x2_3 → Q x1_2 σ1) ∧ (¬ (nI (gN σ1 b5)) ≤ x2_3 → vp_in x2_3 (gN σ1 b5) ∧ ∀ x1_9 : Int32, x1_9 = x1_2 + (gI σ1 b5 x2_3.toNatClampNeg) → ∀ x2_10 : Int32, x2_10 = x2_3 + 1 → ∃ m4 : Nat, m4 < n4 ∧ I4 m4 σ1 x1_9 x2_10)) ∧ ∃ n4 : Nat, I4 n4 σ ((0 : Int32)) ((0 : Int32))
set_option maxHeartbeats 4000000 in
set_option maxRecDepth 100000 in
theorem wX1_weightOfAll {p : Program} {l : Launch} {e : Env} {s : State} {m : MethodId} {args : Array Value} {below : List Frame} {meth : Method} {c : Code} {D : va_G} {cA : Nat → ClassId} {z0 : Nat} (hX : Cx p m c cX1_weightOfAll 3 s args RX1 D cA) (hlk : meth.locks = false) (hr : meth.sig.returnType = (some .int)) {σ : Me} {a0 : Nat} {Q : Int32 → Me → Prop} (h : pX1_weightOfAll σ a0 Q) {H : Heap} {locs : List Loc} {ls : Array Slot} (hw : wS D cA z0 s σ H locs) (hl : lv_has ls 3 [(0, .ref a0)]) : W p l e rX1_weightOfAll s m args below meth c H locs 0 0 (MQ below (va_Qi Q (BM D cA z0) (AM z0)) args s 0 0 (AM z0)) (F0 m 0 ls []) := by
  have hx := hX.1.1
  have hb := hX.1.2.1
  have hown := hX.1.2.2.2.1
  have hts := hX.1.2.2.2.2
  unfold pX1_weightOfAll at h
  refine lv_iconst (v := 0) hx hb dX1_weightOfAll_0 (by decide) ?_
  refine lv_istore_n (lv' := [(1, _), (0, _)]) hx hb dX1_weightOfAll_1 rfl hl (by decide) rfl (fun ls hl => ?_)
  refine lv_iconst (v := 0) hx hb dX1_weightOfAll_2 (by decide) ?_
  refine lv_istore_n (lv' := [(2, _), (1, _), (0, _)]) hx hb dX1_weightOfAll_3 rfl hl (by decide) rfl (fun ls hl => ?_)
  obtain ⟨I4, hI4, n4, h⟩ := h
  have key4 : ∀ (n4 : Nat) (σ1 : Me) (x1_2 : Int32) (x2_3 : Int32) (H : Heap) (locs : List Loc) (ls : Array Slot), I4 n4 σ1 x1_2 x2_3 → wS D cA z0 s σ1 H locs → lv_has ls 3 [(0, .ref a0), (1, .int x1_2), (2, .int x2_3)] → W p l e rX1_weightOfAll s m args below meth c H locs 0 0 (MQ below (va_Qi Q (BM D cA z0) (AM z0)) args s 0 0 (AM z0)) (F0 m 4 ls []) := by
    intro n4
    induction n4 using Nat.strongRecOn with
    | _ n4 ih4 =>
      intro σ1 x1_2 x2_3 H locs ls h hw hl
      have h := hI4 _ _ _ _ h
      refine lv_iload_n hx hb dX1_weightOfAll_4 rfl (lv_at hl 2 rfl) ?_
      refine lv_aload_n hx hb dX1_weightOfAll_5 rfl (lv_at hl 0 rfl) ?_
      obtain ⟨hT4, h⟩ := h
      obtain ⟨b5, hb5, h⟩ := h
      refine m_get hX hw cl1 hT4 1 (by decide) k_127 (fun _ h => h) (v := .ref b5) (congrArg va_rf hb5) dX1_weightOfAll_6 ?_
      obtain ⟨hT6, h⟩ := h
      refine m_alen hX hw (t := 0) (by decide) hT6 dX1_weightOfAll_9 ?_
      refine lv_icmp_ge (tgt := 28) hx hb dX1_weightOfAll_10 (by decide) (fun hc7 => ?_) (fun hc7 => ?_)
      · have h := h.1 hc7
        refine lv_iload_n hx hb dX1_weightOfAll_28 rfl (lv_at hl 1 rfl) ?_
        exact m_iret hX hlk hr hw h dX1_weightOfAll_29
      · have h := h.2 hc7
        refine lv_iload_n hx hb dX1_weightOfAll_13 rfl (lv_at hl 1 rfl) ?_
        refine lv_aload_n hx hb dX1_weightOfAll_14 rfl (lv_at hl 0 rfl) ?_
        refine m_get hX hw cl1 hT4 1 (by decide) k_127 (fun _ h => h) (v := .ref b5) (congrArg va_rf hb5) dX1_weightOfAll_15 ?_
        refine lv_iload_n hx hb dX1_weightOfAll_18 rfl (lv_at hl 2 rfl) ?_
        obtain ⟨hc8, h⟩ := h
        refine m_iald hX hw hT6 hc8 dX1_weightOfAll_19 ?_
        refine lv_iadd hx hb dX1_weightOfAll_20 ?_
        refine lv_topi (fun x1_9 e_x1_9 => ?_)
        have h := h x1_9 e_x1_9
        refine lv_istore_n (lv' := [(1, _), (0, _), (2, _)]) hx hb dX1_weightOfAll_21 rfl hl (by decide) rfl (fun ls hl => ?_)
        obtain ⟨x2_10, e_x2_10⟩ : ∃ y : Int32, y = x2_3 + 1 := ⟨_, rfl⟩
        have h := h x2_10 e_x2_10
        refine lv_iinc (v := x2_10) (lv' := [(2, _), (1, _), (0, _)]) hx hb dX1_weightOfAll_22 hl (k := 2) rfl (by rw [e_x2_10]; rfl) (by decide) rfl (fun ls hl => ?_)
        refine lv_goto (tgt := 4) hx hb dX1_weightOfAll_25 (by decide) ?_
        obtain ⟨m4, hm4, h⟩ := h
        exact ih4 m4 hm4 _ _ _ _ _ _ h hw (lv_sub hl [2, 1, 0] rfl)
  exact key4 _ _ _ _ _ _ _ h hw (lv_sub hl [2, 1, 0] rfl)
theorem mtX1_weightOfAll : Mth yX1_weightOfAll cX1_weightOfAll 3 (some .int) 0 := ⟨k_353, k_45, by decide +kernel⟩
theorem tX1_weightOfAll {l : Launch} {D : va_G} {cA : Nat → ClassId} {z0 : Nat} {σ : Me} {a0 : Nat} {Q : Int32 → Me → Prop} (h : pX1_weightOfAll σ a0 Q) : Met l yX1_weightOfAll (Cond.code yX1_weightOfAll cX1_weightOfAll 3 (some .int) :: gTab) rX1_weightOfAll (PcM D cA z0 σ [.ref a0]) (va_Qi Q (BM D cA z0) (AM z0)) 0 0 (AM z0) :=
  met_of (by decide) (Nat.le_of_ble_eq_true rfl) (fun hX hlk hr hn hw hl => wX1_weightOfAll hX hlk hr h hw hl)
abbrev rX8_add : Room := { frames := 0, cells := 0, slots := 0, locals := 0 }
def pX8_add (σ : Me) (a0 : Nat) (x1 : Int32) (y2 : Int64) (Q : Me → Prop) : Prop := (x1 < 0 → Q σ) ∧ (¬ x1 < 0 → (((481 : Int32)) ≤ x1 → Q σ) ∧ (¬ ((481 : Int32)) ≤ x1 → (((0 : Int64)) < y2 → gT σ a0 = 8 ∧ ∃ b43 : Nat, gP σ a0 1 = some b43 ∧ gT σ b43 = 21 ∧ vp_in x1 (gN σ b43) ∧ ((gL σ b43 x1.toNatClampNeg) = ((0 : Int64)) → (((481 : Int32)) ≤ (gI σ a0 5) → vp_in x1 (gN σ b43) ∧ vp_in x1 (gN σ b43) ∧ ∀ σ69 : Me, σ69 = sL σ b43 x1.toNatClampNeg ((gL σ b43 x1.toNatClampNeg) + y2) → Q σ69) ∧ (¬ ((481 : Int32)) ≤ (gI σ a0 5) → ∃ b70 : Nat, gP σ a0 3 = some b70 ∧ gT σ b70 = 20 ∧ vp_in (gI σ a0 5) (gN σ b70) ∧ ∀ σ73 : Me, σ73 = sI σ b70 (gI σ a0 5).toNatClampNeg x1 → ∀ σ74 : Me, σ74 = sI σ73 a0 5 ((gI σ73 a0 5) + ((1 : Int32))) → vp_in x1 (gN σ74 b43) ∧ vp_in x1 (gN σ74 b43) ∧ ∀ σ77 : Me, σ77 = sL σ74 b43 x1.toNatClampNeg ((gL σ74 b43 x1.toNatClampNeg) + y2) → Q σ77)) ∧ (¬ (gL σ b43 x1.toNatClampNeg) = ((0 : Int64)) → vp_in x1 (gN σ b43) ∧ vp_in x1 (gN σ b43) ∧ ∀ σ65 : Me, σ65 = sL σ b43 x1.toNatClampNeg ((gL σ b43 x1.toNatClampNeg) + y2) → Q σ65)) ∧ (¬ ((0 : Int64)) < y2 → Q σ)))
set_option maxHeartbeats 4000000 in
set_option maxRecDepth 100000 in
theorem wX8_add {p : Program} {l : Launch} {e : Env} {s : State} {m : MethodId} {args : Array Value} {below : List Frame} {meth : Method} {c : Code} {D : va_G} {cA : Nat → ClassId} {z0 : Nat} (hX : Cx p m c cX8_add 4 s args RX8 D cA) (hlk : meth.locks = false) (hr : meth.sig.returnType = none) {σ : Me} {a0 : Nat} {x1 : Int32} {y2 : Int64} {Q : Me → Prop} (h : pX8_add σ a0 x1 y2 Q) {H : Heap} {locs : List Loc} {ls : Array Slot} (hw : wS D cA z0 s σ H locs) (hl : lv_has ls 4 [(0, .ref a0), (1, .int x1), (2, .long y2)]) : W p l e rX8_add s m args below meth c H locs 0 0 (MQ below (va_Qv Q (BM D cA z0) (AM z0)) args s 0 0 (AM z0)) (F0 m 0 ls []) := by
  have hx := hX.1.1
  have hb := hX.1.2.1
  have hown := hX.1.2.2.2.1
  have hts := hX.1.2.2.2.2
  unfold pX8_add at h
  refine lv_iload_n hx hb dX8_add_0 rfl (lv_at hl 1 rfl) ?_
  refine lv_if_lt (tgt := 17) hx hb dX8_add_1 (by decide) (fun hc1 => ?_) (fun hc1 => ?_)
  · have h := h.1 hc1
    exact m_vret hX hlk hr hw h dX8_add_17
  · have h := h.2 hc1
    refine lv_iload_n hx hb dX8_add_4 rfl (lv_at hl 1 rfl) ?_
    refine lv_sipush (v := 481) hx hb dX8_add_5 (by decide) ?_
    refine lv_icmp_ge (tgt := 17) hx hb dX8_add_8 (by decide) (fun hc2 => ?_) (fun hc2 => ?_)
    · have h := h.1 hc2
      exact m_vret hX hlk hr hw h dX8_add_17
    · have h := h.2 hc2
      refine lv_lload_n hx hb dX8_add_11 rfl (lv_at hl 2 rfl) ?_
      refine lv_lconst (v := 0) hx hb dX8_add_12 (by decide) ?_
      refine m_lgt (tgt := 18) hX dX8_add_13 dX8_add_14 (by decide) (fun hc41 => ?_) (fun hc41 => ?_)
      · have h := h.1 hc41
        refine lv_aload_n hx hb dX8_add_18 rfl (lv_at hl 0 rfl) ?_
        obtain ⟨hT42, h⟩ := h
        obtain ⟨b43, hb43, h⟩ := h
        refine m_get hX hw cl8 hT42 1 (by decide) k_141 (fun _ h => h) (v := .ref b43) (congrArg va_rf hb43) dX8_add_19 ?_
        refine lv_iload_n hx hb dX8_add_22 rfl (lv_at hl 1 rfl) ?_
        obtain ⟨hT44, h⟩ := h
        obtain ⟨hc45, h⟩ := h
        refine m_lald hX hw hT44 hc45 dX8_add_23 ?_
        refine lv_lconst (v := 0) hx hb dX8_add_24 (by decide) ?_
        refine m_lne (tgt := 59) hX dX8_add_25 dX8_add_26 (by decide) (fun hc62 => ?_) (fun hc62 => ?_)
        · have h := h.2 hc62
          refine lv_aload_n hx hb dX8_add_59 rfl (lv_at hl 0 rfl) ?_
          refine m_get hX hw cl8 hT42 1 (by decide) k_141 (fun _ h => h) (v := .ref b43) (congrArg va_rf hb43) dX8_add_60 ?_
          refine lv_iload_n hx hb dX8_add_63 rfl (lv_at hl 1 rfl) ?_
          refine lv_dup2_11 hx hb dX8_add_64 rfl rfl ?_
          obtain ⟨hc63, h⟩ := h
          refine m_lald hX hw hT44 hc63 dX8_add_65 ?_
          refine lv_lload_n hx hb dX8_add_66 rfl (lv_at hl 2 rfl) ?_
          refine lv_ladd hx hb dX8_add_67 ?_
          obtain ⟨hc64, h⟩ := h
          refine m_last hX hw hT44 hc64 dX8_add_68 (fun H locs hw => ?_)
          let σ65 : Me := sL σ b43 x1.toNatClampNeg ((gL σ b43 x1.toNatClampNeg) + y2)
          have h := h σ65 rfl
          have hw : wS D cA z0 s σ65 H locs := hw
          exact m_vret hX hlk hr hw h dX8_add_69
        · have h := h.1 hc62
          refine lv_aload_n hx hb dX8_add_29 rfl (lv_at hl 0 rfl) ?_
          refine m_get hX hw cl8 hT42 5 (by decide) k_145 (fun _ h => h) (v := .int _) rfl dX8_add_30 ?_
          refine lv_sipush (v := 481) hx hb dX8_add_33 (by decide) ?_
          refine lv_icmp_ge (tgt := 59) hx hb dX8_add_36 (by decide) (fun hc66 => ?_) (fun hc66 => ?_)
          · have h := h.1 hc66
            refine lv_aload_n hx hb dX8_add_59 rfl (lv_at hl 0 rfl) ?_
            refine m_get hX hw cl8 hT42 1 (by decide) k_141 (fun _ h => h) (v := .ref b43) (congrArg va_rf hb43) dX8_add_60 ?_
            refine lv_iload_n hx hb dX8_add_63 rfl (lv_at hl 1 rfl) ?_
            refine lv_dup2_11 hx hb dX8_add_64 rfl rfl ?_
            obtain ⟨hc67, h⟩ := h
            refine m_lald hX hw hT44 hc67 dX8_add_65 ?_
            refine lv_lload_n hx hb dX8_add_66 rfl (lv_at hl 2 rfl) ?_
            refine lv_ladd hx hb dX8_add_67 ?_
            obtain ⟨hc68, h⟩ := h
            refine m_last hX hw hT44 hc68 dX8_add_68 (fun H locs hw => ?_)
            let σ69 : Me := sL σ b43 x1.toNatClampNeg ((gL σ b43 x1.toNatClampNeg) + y2)
            have h := h σ69 rfl
            have hw : wS D cA z0 s σ69 H locs := hw
            exact m_vret hX hlk hr hw h dX8_add_69
          · have h := h.2 hc66
            refine lv_aload_n hx hb dX8_add_39 rfl (lv_at hl 0 rfl) ?_
            obtain ⟨b70, hb70, h⟩ := h
            refine m_get hX hw cl8 hT42 3 (by decide) k_143 (fun _ h => h) (v := .ref b70) (congrArg va_rf hb70) dX8_add_40 ?_
            refine lv_aload_n hx hb dX8_add_43 rfl (lv_at hl 0 rfl) ?_
            refine m_get hX hw cl8 hT42 5 (by decide) k_145 (fun _ h => h) (v := .int _) rfl dX8_add_44 ?_
            refine lv_iload_n hx hb dX8_add_47 rfl (lv_at hl 1 rfl) ?_
            obtain ⟨hT71, h⟩ := h
            obtain ⟨hc72, h⟩ := h
            refine m_iast hX hw hT71 hc72 dX8_add_48 (fun H locs hw => ?_)
            let σ73 : Me := sI σ b70 (gI σ a0 5).toNatClampNeg x1
            have h := h σ73 rfl
            have hw : wS D cA z0 s σ73 H locs := hw
            refine lv_aload_n hx hb dX8_add_49 rfl (lv_at hl 0 rfl) ?_
            refine lv_dup hx hb dX8_add_50 rfl ?_
            refine m_get hX hw cl8 hT42 5 (by decide) k_145 (fun _ h => h) (v := .int _) rfl dX8_add_51 ?_
            refine lv_iconst (v := 1) hx hb dX8_add_54 (by decide) ?_
            refine lv_iadd hx hb dX8_add_55 ?_
            refine m_putI hX hw cl8 hT42 5 (by decide) k_145 (fun _ h => h) rfl rfl dX8_add_56 (fun H locs hw => ?_)
            let σ74 : Me := sI σ73 a0 5 ((gI σ73 a0 5) + ((1 : Int32)))
            have h := h σ74 rfl
            have hw : wS D cA z0 s σ74 H locs := hw
            refine lv_aload_n hx hb dX8_add_59 rfl (lv_at hl 0 rfl) ?_
            refine m_get hX hw cl8 hT42 1 (by decide) k_141 (fun _ h => h) (v := .ref b43) (congrArg va_rf hb43) dX8_add_60 ?_
            refine lv_iload_n hx hb dX8_add_63 rfl (lv_at hl 1 rfl) ?_
            refine lv_dup2_11 hx hb dX8_add_64 rfl rfl ?_
            obtain ⟨hc75, h⟩ := h
            refine m_lald hX hw hT44 hc75 dX8_add_65 ?_
            refine lv_lload_n hx hb dX8_add_66 rfl (lv_at hl 2 rfl) ?_
            refine lv_ladd hx hb dX8_add_67 ?_
            obtain ⟨hc76, h⟩ := h
            refine m_last hX hw hT44 hc76 dX8_add_68 (fun H locs hw => ?_)
            let σ77 : Me := sL σ74 b43 x1.toNatClampNeg ((gL σ74 b43 x1.toNatClampNeg) + y2)
            have h := h σ77 rfl
            have hw : wS D cA z0 s σ77 H locs := hw
            exact m_vret hX hlk hr hw h dX8_add_69
      · have h := h.2 hc41
        exact m_vret hX hlk hr hw h dX8_add_17
theorem mtX8_add : Mth yX8_add cX8_add 4 none 2 := ⟨k_627, k_46, by decide +kernel⟩
theorem tX8_add {l : Launch} {D : va_G} {cA : Nat → ClassId} {z0 : Nat} {σ : Me} {a0 : Nat} {x1 : Int32} {y2 : Int64} {Q : Me → Prop} (h : pX8_add σ a0 x1 y2 Q) : Met l yX8_add (Cond.code yX8_add cX8_add 4 none :: gTab) rX8_add (PcM D cA z0 σ [.ref a0, .int x1, .long y2]) (va_Qv Q (BM D cA z0) (AM z0)) 0 0 (AM z0) :=
  met_of (by decide) (Nat.le_of_ble_eq_true rfl) (fun hX hlk hr hn hw hl => wX8_add hX hlk hr h hw hl)
abbrev rX8_isPlace : Room := { frames := 0, cells := 0, slots := 0, locals := 0 }
def pX8_isPlace (σ : Me) (x0 : Int32) (Q : Int32 → Me → Prop) : Prop := ∀ v_1 : Int32, v_1 = (if x0 < 0 then ((0 : Int32)) else (if ((481 : Int32)) ≤ x0 then ((0 : Int32)) else ((1 : Int32)))) → (v_1 = 0 ∨ v_1 = 1) ∧ Q v_1 σ
set_option maxHeartbeats 4000000 in
set_option maxRecDepth 100000 in
theorem wX8_isPlace {p : Program} {l : Launch} {e : Env} {s : State} {m : MethodId} {args : Array Value} {below : List Frame} {meth : Method} {c : Code} {D : va_G} {cA : Nat → ClassId} {z0 : Nat} (hX : Cx p m c cX8_isPlace 1 s args RX8 D cA) (hlk : meth.locks = false) (hr : meth.sig.returnType = (some .boolean)) {σ : Me} {x0 : Int32} {Q : Int32 → Me → Prop} (h : pX8_isPlace σ x0 Q) {H : Heap} {locs : List Loc} {ls : Array Slot} (hw : wS D cA z0 s σ H locs) (hl : lv_has ls 1 [(0, .int x0)]) : W p l e rX8_isPlace s m args below meth c H locs 0 0 (MQ below (va_Qi Q (BM D cA z0) (AM z0)) args s 0 0 (AM z0)) (F0 m 0 ls []) := by
  have hx := hX.1.1
  have hb := hX.1.2.1
  have hown := hX.1.2.2.2.1
  have hts := hX.1.2.2.2.2
  unfold pX8_isPlace at h
  refine lv_iload_n hx hb dX8_isPlace_0 rfl (lv_at hl 0 rfl) ?_
  have kM2 : ∀ (v_1 : Int32) (ls : Array Slot), v_1 = (if x0 < 0 then ((0 : Int32)) else (if ((481 : Int32)) ≤ x0 then ((0 : Int32)) else ((1 : Int32)))) → lv_has ls 1 [] → W p l e rX8_isPlace s m args below meth c H locs 0 0 (MQ below (va_Qi Q (BM D cA z0) (AM z0)) args s 0 0 (AM z0)) (F0 m 16 ls [.int v_1]) := by
    intro v_1 ls e_v_1 hl
    have h := h v_1 e_v_1
    exact m_zret hX hlk hr hw h.1 h.2 dX8_isPlace_16
  refine lv_if_lt (tgt := 15) hx hb dX8_isPlace_1 (by decide) (fun hc3 => ?_) (fun hc3 => ?_)
  · refine lv_iconst (v := 0) hx hb dX8_isPlace_15 (by decide) ?_
    exact kM2 _ _ (by first | rfl | rw [if_pos hc3] | simp only [if_pos hc3]) (lv_sub hl [] rfl)
  · refine lv_iload_n hx hb dX8_isPlace_4 rfl (lv_at hl 0 rfl) ?_
    refine lv_sipush (v := 481) hx hb dX8_isPlace_5 (by decide) ?_
    refine lv_icmp_ge (tgt := 15) hx hb dX8_isPlace_8 (by decide) (fun hc4 => ?_) (fun hc4 => ?_)
    · refine lv_iconst (v := 0) hx hb dX8_isPlace_15 (by decide) ?_
      exact kM2 _ _ (by first | rfl | rw [if_neg hc3, if_pos hc4] | simp only [if_neg hc3, if_pos hc4]) (lv_sub hl [] rfl)
    · refine lv_iconst (v := 1) hx hb dX8_isPlace_11 (by decide) ?_
      refine lv_goto (tgt := 16) hx hb dX8_isPlace_12 (by decide) ?_
      exact kM2 _ _ (by first | rfl | rw [if_neg hc3, if_neg hc4] | simp only [if_neg hc3, if_neg hc4]) (lv_sub hl [] rfl)
theorem mtX8_isPlace : Mth yX8_isPlace cX8_isPlace 1 (some .boolean) 1 := ⟨k_638, k_46, by decide +kernel⟩
theorem tX8_isPlace {l : Launch} {D : va_G} {cA : Nat → ClassId} {z0 : Nat} {σ : Me} {x0 : Int32} {Q : Int32 → Me → Prop} (h : pX8_isPlace σ x0 Q) : Met l yX8_isPlace (Cond.code yX8_isPlace cX8_isPlace 1 (some .boolean) :: gTab) rX8_isPlace (PcM D cA z0 σ [.int x0]) (va_Qi Q (BM D cA z0) (AM z0)) 0 0 (AM z0) :=
  met_of (by decide) (Nat.le_of_ble_eq_true rfl) (fun hX hlk hr hn hw hl => wX8_isPlace hX hlk hr h hw hl)
abbrev rX8_placeAt : Room := { frames := 1, cells := 0, slots := 0, locals := 20 }
def pX8_placeAt (σ : Me) (a0 : Nat) (x1 : Int32) (Q : Int32 → Me → Prop) : Prop := pX8_isPlace σ x1 (fun r1 σ2 => (r1 = 0 → Q ((0 : Int32)) σ2) ∧ (¬ r1 = 0 → gT σ2 a0 = 8 ∧ ∃ b6 : Nat, gP σ2 a0 2 = some b6 ∧ gT σ2 b6 = 20 ∧ vp_in x1 (gN σ2 b6) ∧ Q (gI σ2 b6 x1.toNatClampNeg) σ2))
set_option maxHeartbeats 4000000 in
set_option maxRecDepth 100000 in
theorem wX8_placeAt {p : Program} {l : Launch} {e : Env} {s : State} {m : MethodId} {args : Array Value} {below : List Frame} {meth : Method} {c : Code} {D : va_G} {cA : Nat → ClassId} {z0 : Nat} (hX : Cx p m c cX8_placeAt 2 s args RX8 D cA) (hlk : meth.locks = false) (hr : meth.sig.returnType = (some .int)) {σ : Me} {a0 : Nat} {x1 : Int32} {Q : Int32 → Me → Prop} (h : pX8_placeAt σ a0 x1 Q) {H : Heap} {locs : List Loc} {ls : Array Slot} (hw : wS D cA z0 s σ H locs) (hl : lv_has ls 2 [(0, .ref a0), (1, .int x1)]) : W p l e rX8_placeAt s m args below meth c H locs 0 0 (MQ below (va_Qi Q (BM D cA z0) (AM z0)) args s 0 0 (AM z0)) (F0 m 0 ls []) := by
  have hx := hX.1.1
  have hb := hX.1.2.1
  have hown := hX.1.2.2.2.1
  have hts := hX.1.2.2.2.2
  unfold pX8_placeAt at h
  refine lv_iload_n hx hb dX8_placeAt_0 rfl (lv_at hl 1 rfl) ?_
  refine m_ci (m_runS (rest := []) hX hw (tX8_isPlace h) mtX8_isPlace k_636 k_637 ⟨⟨rfl, rfl, Nat.le_of_ble_eq_true rfl, Nat.le_of_ble_eq_true rfl⟩, Nat.le_of_ble_eq_true rfl, Nat.le_of_ble_eq_true rfl⟩ rfl hl.1 rfl (Nat.le_of_ble_eq_true rfl) dX8_placeAt_1) hw (fun r1 σ2 H locs h hw => ?_)
  refine lv_if_eq (tgt := 16) hx hb dX8_placeAt_4 (by decide) (fun hc4 => ?_) (fun hc4 => ?_)
  · have h := h.1 hc4
    refine lv_iconst (v := 0) hx hb dX8_placeAt_16 (by decide) ?_
    exact m_iret hX hlk hr hw h dX8_placeAt_17
  · have h := h.2 hc4
    refine lv_aload_n hx hb dX8_placeAt_7 rfl (lv_at hl 0 rfl) ?_
    obtain ⟨hT5, h⟩ := h
    obtain ⟨b6, hb6, h⟩ := h
    refine m_get hX hw cl8 hT5 2 (by decide) k_142 (fun _ h => h) (v := .ref b6) (congrArg va_rf hb6) dX8_placeAt_8 ?_
    refine lv_iload_n hx hb dX8_placeAt_11 rfl (lv_at hl 1 rfl) ?_
    obtain ⟨hT7, h⟩ := h
    obtain ⟨hc8, h⟩ := h
    refine m_iald hX hw hT7 hc8 dX8_placeAt_12 ?_
    refine lv_goto (tgt := 17) hx hb dX8_placeAt_13 (by decide) ?_
    exact m_iret hX hlk hr hw h dX8_placeAt_17
theorem mtX8_placeAt : Mth yX8_placeAt cX8_placeAt 2 (some .int) 1 := ⟨k_635, k_46, by decide +kernel⟩
theorem tX8_placeAt {l : Launch} {D : va_G} {cA : Nat → ClassId} {z0 : Nat} {σ : Me} {a0 : Nat} {x1 : Int32} {Q : Int32 → Me → Prop} (h : pX8_placeAt σ a0 x1 Q) : Met l yX8_placeAt (Cond.code yX8_placeAt cX8_placeAt 2 (some .int) :: gTab) rX8_placeAt (PcM D cA z0 σ [.ref a0, .int x1]) (va_Qi Q (BM D cA z0) (AM z0)) 0 0 (AM z0) :=
  met_of (by decide) (Nat.le_of_ble_eq_true rfl) (fun hX hlk hr hn hw hl => wX8_placeAt hX hlk hr h hw hl)
abbrev rX8_turnToTomorrow : Room := { frames := 2, cells := 0, slots := 0, locals := 41 }
def pX8_turnToTomorrow (σ : Me) (a0 : Nat) (Q : Me → Prop) : Prop := ∃ I2 : Nat → Me → Int32 → Prop, (∀ (n2 : Nat) (σ1 : Me) (x1_2 : Int32), I2 n2 σ1 x1_2 → gT σ1 a0 = 8 ∧ ((gI σ1 a0 4) ≤ x1_2 → ∃ b19 : Nat, gP σ1 a0 0 = some b19 ∧ ∃ b20 : Nat, gP σ1 a0 1 = some b20 ∧ ∀ σ21 : Me, σ21 = sP σ1 a0 0 (some b20) → ∀ σ22 : Me, σ22 = sP σ21 a0 1 (some b19) → ∃ b23 : Nat, gP σ22 a0 2 = some b23 ∧ ∃ b24 : Nat, gP σ22 a0 3 = some b24 ∧ ∀ σ25 : Me, σ25 = sP σ22 a0 2 (some b24) → ∀ σ26 : Me, σ26 = sP σ25 a0 3 (some b23) → ∀ σ27 : Me, σ27 = sI σ26 a0 4 (gI σ26 a0 5) → ∀ σ28 : Me, σ28 = sI σ27 a0 5 ((0 : Int32)) → Q σ28) ∧ (¬ (gI σ1 a0 4) ≤ x1_2 → pX8_placeAt σ1 a0 x1_2 (fun r29 σ30 => pX8_isPlace σ30 r29 (fun r31 σ32 => (r31 = 0 → ∀ x1_35 : Int32, x1_35 = x1_2 + 1 → ∃ m2 : Nat, m2 < n2 ∧ I2 m2 σ32 x1_35) ∧ (¬ r31 = 0 → gT σ32 a0 = 8 ∧ ∃ b37 : Nat, gP σ32 a0 0 = some b37 ∧ gT σ32 b37 = 21 ∧ vp_in r29 (gN σ32 b37) ∧ ∀ σ40 : Me, σ40 = sL σ32 b37 r29.toNatClampNeg ((0 : Int64)) → ∀ x1_41 : Int32, x1_41 = x1_2 + 1 → ∃ m2 : Nat, m2 < n2 ∧ I2 m2 σ40 x1_41))))) ∧ ∃ n2 : Nat, I2 n2 σ ((0 : Int32))
set_option maxHeartbeats 4000000 in
set_option maxRecDepth 100000 in
theorem wX8_turnToTomorrow {p : Program} {l : Launch} {e : Env} {s : State} {m : MethodId} {args : Array Value} {below : List Frame} {meth : Method} {c : Code} {D : va_G} {cA : Nat → ClassId} {z0 : Nat} (hX : Cx p m c cX8_turnToTomorrow 3 s args RX8 D cA) (hlk : meth.locks = false) (hr : meth.sig.returnType = none) {σ : Me} {a0 : Nat} {Q : Me → Prop} (h : pX8_turnToTomorrow σ a0 Q) {H : Heap} {locs : List Loc} {ls : Array Slot} (hw : wS D cA z0 s σ H locs) (hl : lv_has ls 3 [(0, .ref a0)]) : W p l e rX8_turnToTomorrow s m args below meth c H locs 0 0 (MQ below (va_Qv Q (BM D cA z0) (AM z0)) args s 0 0 (AM z0)) (F0 m 0 ls []) := by
  have hx := hX.1.1
  have hb := hX.1.2.1
  have hown := hX.1.2.2.2.1
  have hts := hX.1.2.2.2.2
  unfold pX8_turnToTomorrow at h
  refine lv_iconst (v := 0) hx hb dX8_turnToTomorrow_0 (by decide) ?_
  refine lv_istore_n (lv' := [(1, _), (0, _)]) hx hb dX8_turnToTomorrow_1 rfl hl (by decide) rfl (fun ls hl => ?_)
  obtain ⟨I2, hI2, n2, h⟩ := h
  have key2 : ∀ (n2 : Nat) (σ1 : Me) (x1_2 : Int32) (H : Heap) (locs : List Loc) (ls : Array Slot), I2 n2 σ1 x1_2 → wS D cA z0 s σ1 H locs → lv_has ls 3 [(0, .ref a0), (1, .int x1_2)] → W p l e rX8_turnToTomorrow s m args below meth c H locs 0 0 (MQ below (va_Qv Q (BM D cA z0) (AM z0)) args s 0 0 (AM z0)) (F0 m 2 ls []) := by
    intro n2
    induction n2 using Nat.strongRecOn with
    | _ n2 ih2 =>
      intro σ1 x1_2 H locs ls h hw hl
      have h := hI2 _ _ _ h
      refine lv_iload_n hx hb dX8_turnToTomorrow_2 rfl (lv_at hl 1 rfl) ?_
      refine lv_aload_n hx hb dX8_turnToTomorrow_3 rfl (lv_at hl 0 rfl) ?_
      obtain ⟨hT3, h⟩ := h
      refine m_get hX hw cl8 hT3 4 (by decide) k_144 (fun _ h => h) (v := .int _) rfl dX8_turnToTomorrow_4 ?_
      refine lv_icmp_ge (tgt := 36) hx hb dX8_turnToTomorrow_7 (by decide) (fun hc18 => ?_) (fun hc18 => ?_)
      · have h := h.1 hc18
        refine lv_aload_n hx hb dX8_turnToTomorrow_36 rfl (lv_at hl 0 rfl) ?_
        obtain ⟨b19, hb19, h⟩ := h
        refine m_get hX hw cl8 hT3 0 (by decide) k_140 (fun _ h => h) (v := .ref b19) (congrArg va_rf hb19) dX8_turnToTomorrow_37 ?_
        refine lv_astore_n (lv' := [(1, _), (0, _)]) hx hb dX8_turnToTomorrow_40 rfl hl (by decide) rfl (fun ls hl => ?_)
        refine lv_aload_n hx hb dX8_turnToTomorrow_41 rfl (lv_at hl 1 rfl) ?_
        refine lv_aload_n hx hb dX8_turnToTomorrow_42 rfl (lv_at hl 1 rfl) ?_
        obtain ⟨b20, hb20, h⟩ := h
        refine m_get hX hw cl8 hT3 1 (by decide) k_141 (fun _ h => h) (v := .ref b20) (congrArg va_rf hb20) dX8_turnToTomorrow_43 ?_
        refine m_putP hX hw cl8 hT3 0 (by decide) k_140 (fun _ h => h) rfl rfl rfl rfl dX8_turnToTomorrow_46 (fun H locs hw => ?_)
        let σ21 : Me := sP σ1 a0 0 (some b20)
        have h := h σ21 rfl
        have hw : wS D cA z0 s σ21 H locs := hw
        refine lv_aload_n hx hb dX8_turnToTomorrow_49 rfl (lv_at hl 1 rfl) ?_
        refine lv_aload_n hx hb dX8_turnToTomorrow_50 rfl (lv_at hl 0 rfl) ?_
        refine m_putP hX hw cl8 hT3 1 (by decide) k_141 (fun _ h => h) rfl rfl rfl rfl dX8_turnToTomorrow_51 (fun H locs hw => ?_)
        let σ22 : Me := sP σ21 a0 1 (some b19)
        have h := h σ22 rfl
        have hw : wS D cA z0 s σ22 H locs := hw
        refine lv_aload_n hx hb dX8_turnToTomorrow_54 rfl (lv_at hl 1 rfl) ?_
        obtain ⟨b23, hb23, h⟩ := h
        refine m_get hX hw cl8 hT3 2 (by decide) k_142 (fun _ h => h) (v := .ref b23) (congrArg va_rf hb23) dX8_turnToTomorrow_55 ?_
        refine lv_astore_n (lv' := [(2, _), (1, _), (0, _)]) hx hb dX8_turnToTomorrow_58 rfl hl (by decide) rfl (fun ls hl => ?_)
        refine lv_aload_n hx hb dX8_turnToTomorrow_59 rfl (lv_at hl 2 rfl) ?_
        refine lv_aload_n hx hb dX8_turnToTomorrow_60 rfl (lv_at hl 2 rfl) ?_
        obtain ⟨b24, hb24, h⟩ := h
        refine m_get hX hw cl8 hT3 3 (by decide) k_143 (fun _ h => h) (v := .ref b24) (congrArg va_rf hb24) dX8_turnToTomorrow_61 ?_
        refine m_putP hX hw cl8 hT3 2 (by decide) k_142 (fun _ h => h) rfl rfl rfl rfl dX8_turnToTomorrow_64 (fun H locs hw => ?_)
        let σ25 : Me := sP σ22 a0 2 (some b24)
        have h := h σ25 rfl
        have hw : wS D cA z0 s σ25 H locs := hw
        refine lv_aload_n hx hb dX8_turnToTomorrow_67 rfl (lv_at hl 2 rfl) ?_
        refine lv_aload_n hx hb dX8_turnToTomorrow_68 rfl (lv_at hl 0 rfl) ?_
        refine m_putP hX hw cl8 hT3 3 (by decide) k_143 (fun _ h => h) rfl rfl rfl rfl dX8_turnToTomorrow_69 (fun H locs hw => ?_)
        let σ26 : Me := sP σ25 a0 3 (some b23)
        have h := h σ26 rfl
        have hw : wS D cA z0 s σ26 H locs := hw
        refine lv_aload_n hx hb dX8_turnToTomorrow_72 rfl (lv_at hl 2 rfl) ?_
        refine lv_aload_n hx hb dX8_turnToTomorrow_73 rfl (lv_at hl 2 rfl) ?_
        refine m_get hX hw cl8 hT3 5 (by decide) k_145 (fun _ h => h) (v := .int _) rfl dX8_turnToTomorrow_74 ?_
        refine m_putI hX hw cl8 hT3 4 (by decide) k_144 (fun _ h => h) rfl rfl dX8_turnToTomorrow_77 (fun H locs hw => ?_)
        let σ27 : Me := sI σ26 a0 4 (gI σ26 a0 5)
        have h := h σ27 rfl
        have hw : wS D cA z0 s σ27 H locs := hw
        refine lv_aload_n hx hb dX8_turnToTomorrow_80 rfl (lv_at hl 2 rfl) ?_
        refine lv_iconst (v := 0) hx hb dX8_turnToTomorrow_81 (by decide) ?_
        refine m_putI hX hw cl8 hT3 5 (by decide) k_145 (fun _ h => h) rfl rfl dX8_turnToTomorrow_82 (fun H locs hw => ?_)
        let σ28 : Me := sI σ27 a0 5 ((0 : Int32))
        have h := h σ28 rfl
        have hw : wS D cA z0 s σ28 H locs := hw
        exact m_vret hX hlk hr hw h dX8_turnToTomorrow_85
      · have h := h.2 hc18
        refine lv_aload_n hx hb dX8_turnToTomorrow_10 rfl (lv_at hl 0 rfl) ?_
        refine lv_iload_n hx hb dX8_turnToTomorrow_11 rfl (lv_at hl 1 rfl) ?_
        refine m_ci (m_runV (rest := []) hX hw (tX8_placeAt h) mtX8_placeAt k_632 ⟨k_633, k_634⟩ cl8 hT3 ⟨⟨rfl, rfl, Nat.le_of_ble_eq_true rfl, Nat.le_of_ble_eq_true rfl⟩, Nat.le_of_ble_eq_true rfl, Nat.le_of_ble_eq_true rfl⟩ rfl hl.1 rfl (Nat.le_of_ble_eq_true rfl) dX8_turnToTomorrow_12) hw (fun r29 σ30 H locs h hw => ?_)
        refine lv_istore_n (lv' := [(2, _), (0, _), (1, _)]) hx hb dX8_turnToTomorrow_15 rfl hl (by decide) rfl (fun ls hl => ?_)
        refine lv_iload_n hx hb dX8_turnToTomorrow_16 rfl (lv_at hl 0 rfl) ?_
        refine m_ci (m_runS (rest := []) hX hw (tX8_isPlace h) mtX8_isPlace k_636 k_637 ⟨⟨rfl, rfl, Nat.le_of_ble_eq_true rfl, Nat.le_of_ble_eq_true rfl⟩, Nat.le_of_ble_eq_true rfl, Nat.le_of_ble_eq_true rfl⟩ rfl hl.1 rfl (Nat.le_of_ble_eq_true rfl) dX8_turnToTomorrow_17) hw (fun r31 σ32 H locs h hw => ?_)
        refine lv_if_eq (tgt := 30) hx hb dX8_turnToTomorrow_20 (by decide) (fun hc34 => ?_) (fun hc34 => ?_)
        · have h := h.1 hc34
          obtain ⟨x1_35, e_x1_35⟩ : ∃ y : Int32, y = x1_2 + 1 := ⟨_, rfl⟩
          have h := h x1_35 e_x1_35
          refine lv_iinc (v := x1_35) (lv' := [(1, _), (2, _), (0, _)]) hx hb dX8_turnToTomorrow_30 hl (k := 2) rfl (by rw [e_x1_35]; rfl) (by decide) rfl (fun ls hl => ?_)
          refine lv_goto (tgt := 2) hx hb dX8_turnToTomorrow_33 (by decide) ?_
          obtain ⟨m2, hm2, h⟩ := h
          exact ih2 m2 hm2 _ _ _ _ _ h hw (lv_sub hl [2, 0] rfl)
        · have h := h.2 hc34
          refine lv_aload_n hx hb dX8_turnToTomorrow_23 rfl (lv_at hl 1 rfl) ?_
          obtain ⟨hT36, h⟩ := h
          obtain ⟨b37, hb37, h⟩ := h
          refine m_get hX hw cl8 hT36 0 (by decide) k_140 (fun _ h => h) (v := .ref b37) (congrArg va_rf hb37) dX8_turnToTomorrow_24 ?_
          refine lv_iload_n hx hb dX8_turnToTomorrow_27 rfl (lv_at hl 0 rfl) ?_
          refine lv_lconst (v := 0) hx hb dX8_turnToTomorrow_28 (by decide) ?_
          obtain ⟨hT38, h⟩ := h
          obtain ⟨hc39, h⟩ := h
          refine m_last hX hw hT38 hc39 dX8_turnToTomorrow_29 (fun H locs hw => ?_)
          let σ40 : Me := sL σ32 b37 r29.toNatClampNeg ((0 : Int64))
          have h := h σ40 rfl
          have hw : wS D cA z0 s σ40 H locs := hw
          obtain ⟨x1_41, e_x1_41⟩ : ∃ y : Int32, y = x1_2 + 1 := ⟨_, rfl⟩
          have h := h x1_41 e_x1_41
          refine lv_iinc (v := x1_41) (lv' := [(1, _), (2, _), (0, _)]) hx hb dX8_turnToTomorrow_30 hl (k := 2) rfl (by rw [e_x1_41]; rfl) (by decide) rfl (fun ls hl => ?_)
          refine lv_goto (tgt := 2) hx hb dX8_turnToTomorrow_33 (by decide) ?_
          obtain ⟨m2, hm2, h⟩ := h
          exact ih2 m2 hm2 _ _ _ _ _ h hw (lv_sub hl [2, 0] rfl)
  exact key2 _ _ _ _ _ _ h hw (lv_sub hl [1, 0] rfl)
theorem mtX8_turnToTomorrow : Mth yX8_turnToTomorrow cX8_turnToTomorrow 3 none 0 := ⟨k_631, k_46, by decide +kernel⟩
theorem tX8_turnToTomorrow {l : Launch} {D : va_G} {cA : Nat → ClassId} {z0 : Nat} {σ : Me} {a0 : Nat} {Q : Me → Prop} (h : pX8_turnToTomorrow σ a0 Q) : Met l yX8_turnToTomorrow (Cond.code yX8_turnToTomorrow cX8_turnToTomorrow 3 none :: gTab) rX8_turnToTomorrow (PcM D cA z0 σ [.ref a0]) (va_Qv Q (BM D cA z0) (AM z0)) 0 0 (AM z0) :=
  met_of (by decide) (Nat.le_of_ble_eq_true rfl) (fun hX hlk hr hn hw hl => wX8_turnToTomorrow hX hlk hr h hw hl)
abbrev rX11_refuse : Room := { frames := 1, cells := 0, slots := 0, locals := 22 }
def pX11_refuse (σ : Me) (a0 : Nat) (x1 : Int32) (Q : Int32 → Me → Prop) : Prop := gT σ a0 = 11 ∧ ∀ σ2 : Me, σ2 = sI σ a0 16 x1 → pX11_isWithin σ2 x1 ((1 : Int32)) ((5 : Int32)) (fun r3 σ4 => (r3 = 0 → Q ((-3 : Int32)) σ4) ∧ (¬ r3 = 0 → gT σ4 a0 = 11 ∧ ∃ b8 : Nat, gP σ4 a0 17 = some b8 ∧ gT σ4 b8 = 20 ∧ vp_in x1 (gN σ4 b8) ∧ vp_in x1 (gN σ4 b8) ∧ ∀ σ12 : Me, σ12 = sI σ4 b8 x1.toNatClampNeg ((gI σ4 b8 x1.toNatClampNeg) + ((1 : Int32))) → Q ((-3 : Int32)) σ12))
set_option maxHeartbeats 4000000 in
set_option maxRecDepth 100000 in
theorem wX11_refuse {p : Program} {l : Launch} {e : Env} {s : State} {m : MethodId} {args : Array Value} {below : List Frame} {meth : Method} {c : Code} {D : va_G} {cA : Nat → ClassId} {z0 : Nat} (hX : Cx p m c cX11_refuse 2 s args RX11 D cA) (hlk : meth.locks = false) (hr : meth.sig.returnType = (some .int)) {σ : Me} {a0 : Nat} {x1 : Int32} {Q : Int32 → Me → Prop} (h : pX11_refuse σ a0 x1 Q) {H : Heap} {locs : List Loc} {ls : Array Slot} (hw : wS D cA z0 s σ H locs) (hl : lv_has ls 2 [(0, .ref a0), (1, .int x1)]) : W p l e rX11_refuse s m args below meth c H locs 0 0 (MQ below (va_Qi Q (BM D cA z0) (AM z0)) args s 0 0 (AM z0)) (F0 m 0 ls []) := by
  have hx := hX.1.1
  have hb := hX.1.2.1
  have hown := hX.1.2.2.2.1
  have hts := hX.1.2.2.2.2
  unfold pX11_refuse at h
  refine lv_aload_n hx hb dX11_refuse_0 rfl (lv_at hl 0 rfl) ?_
  refine lv_iload_n hx hb dX11_refuse_1 rfl (lv_at hl 1 rfl) ?_
  obtain ⟨hT1, h⟩ := h
  refine m_putI hX hw cl11 hT1 16 (by decide) k_265 (fun _ h => h) rfl rfl dX11_refuse_2 (fun H locs hw => ?_)
  let σ2 : Me := sI σ a0 16 x1
  have h := h σ2 rfl
  have hw : wS D cA z0 s σ2 H locs := hw
  refine lv_iload_n hx hb dX11_refuse_5 rfl (lv_at hl 1 rfl) ?_
  refine lv_iconst (v := 1) hx hb dX11_refuse_6 (by decide) ?_
  refine lv_iconst (v := 5) hx hb dX11_refuse_7 (by decide) ?_
  refine m_ci (m_runS (rest := []) hX hw (tX11_isWithin h) mtX11_isWithin k_311 k_312 ⟨⟨rfl, rfl, Nat.le_of_ble_eq_true rfl, Nat.le_of_ble_eq_true rfl⟩, Nat.le_of_ble_eq_true rfl, Nat.le_of_ble_eq_true rfl⟩ rfl hl.1 rfl (Nat.le_of_ble_eq_true rfl) dX11_refuse_8) hw (fun r3 σ4 H locs h hw => ?_)
  refine lv_if_eq (tgt := 24) hx hb dX11_refuse_11 (by decide) (fun hc6 => ?_) (fun hc6 => ?_)
  · have h := h.1 hc6
    refine lv_bipush (v := (-3)) hx hb dX11_refuse_24 (by decide) ?_
    exact m_iret hX hlk hr hw h dX11_refuse_26
  · have h := h.2 hc6
    refine lv_aload_n hx hb dX11_refuse_14 rfl (lv_at hl 0 rfl) ?_
    obtain ⟨hT7, h⟩ := h
    obtain ⟨b8, hb8, h⟩ := h
    refine m_get hX hw cl11 hT7 17 (by decide) k_266 (fun _ h => h) (v := .ref b8) (congrArg va_rf hb8) dX11_refuse_15 ?_
    refine lv_iload_n hx hb dX11_refuse_18 rfl (lv_at hl 1 rfl) ?_
    refine lv_dup2_11 hx hb dX11_refuse_19 rfl rfl ?_
    obtain ⟨hT9, h⟩ := h
    obtain ⟨hc10, h⟩ := h
    refine m_iald hX hw hT9 hc10 dX11_refuse_20 ?_
    refine lv_iconst (v := 1) hx hb dX11_refuse_21 (by decide) ?_
    refine lv_iadd hx hb dX11_refuse_22 ?_
    obtain ⟨hc11, h⟩ := h
    refine m_iast hX hw hT9 hc11 dX11_refuse_23 (fun H locs hw => ?_)
    let σ12 : Me := sI σ4 b8 x1.toNatClampNeg ((gI σ4 b8 x1.toNatClampNeg) + ((1 : Int32)))
    have h := h σ12 rfl
    have hw : wS D cA z0 s σ12 H locs := hw
    refine lv_bipush (v := (-3)) hx hb dX11_refuse_24 (by decide) ?_
    exact m_iret hX hlk hr hw h dX11_refuse_26
theorem mtX11_refuse : Mth yX11_refuse cX11_refuse 2 (some .int) 1 := ⟨k_325, k_43, by decide +kernel⟩
theorem tX11_refuse {l : Launch} {D : va_G} {cA : Nat → ClassId} {z0 : Nat} {σ : Me} {a0 : Nat} {x1 : Int32} {Q : Int32 → Me → Prop} (h : pX11_refuse σ a0 x1 Q) : Met l yX11_refuse (Cond.code yX11_refuse cX11_refuse 2 (some .int) :: gTab) rX11_refuse (PcM D cA z0 σ [.ref a0, .int x1]) (va_Qi Q (BM D cA z0) (AM z0)) 0 0 (AM z0) :=
  met_of (by decide) (Nat.le_of_ble_eq_true rfl) (fun hX hlk hr hn hw hl => wX11_refuse hX hlk hr h hw hl)
abbrev rX12_day : Room := { frames := 0, cells := 0, slots := 0, locals := 0 }
def pX12_day (σ : Me) (a0 : Nat) (x1 : Int32) (x2 : Int32) (x3 : Int32) (x4 : Int32) (x5 : Int32) (Q : Me → Prop) : Prop := gT σ a0 = 12 ∧ ∀ v_2 : Int32, v_2 = (if (gI σ a0 18) = 0 then x4 else x2) → ∀ v_4 : Int32, v_4 = (if (gI σ a0 18) = 0 then ((0 : Int32)) else (if (gI σ a0 18) = ((1 : Int32)) then x4 else x3)) → ∀ σ6 : Me, σ6 = sI σ a0 25 v_4 → ∀ v_7 : Int32, v_7 = (if (gI σ6 a0 18) = ((2 : Int32)) then x4 else ((0 : Int32))) → ∀ σ9 : Me, σ9 = sI σ6 a0 26 v_7 → ∀ v_10 : Int32, v_10 = (if (x1 + v_2) ≤ (gI σ9 a0 17) then (x1 + v_2) else (gI σ9 a0 17)) → ∀ v_12 : Int32, v_12 = (if v_10 ≤ 0 then ((0 : Int32)) else v_10) → ∀ v_14 : Int32, v_14 = (if v_12 ≤ x5 then v_12 else x5) → ∀ σ16 : Me, σ16 = sI σ9 a0 28 v_14 → ∀ σ17 : Me, σ17 = sI σ16 a0 29 (x5 - (gI σ16 a0 28)) → ∀ x7_18 : Int32, x7_18 = v_10 - x5 → ∀ v_19 : Int32, v_19 = (if (gI σ17 a0 19) = 0 then ((0 : Int32)) else ((-12 : Int32))) → ∀ v_21 : Int32, v_21 = (if v_19 ≤ x7_18 then x7_18 else v_19) → ∀ σ23 : Me, σ23 = sI σ17 a0 24 v_21 → ∀ v_24 : Int32, v_24 = (if x4 ≤ 0 then ((0 : Int32)) else (gI σ23 a0 20)) → ∀ v_26 : Int32, v_26 = (if (gI σ23 a0 24) ≤ 0 then ((0 : Int32)) else (gI σ23 a0 24)) → ∀ σ28 : Me, σ28 = sI σ23 a0 27 (((v_24 + ((gI σ23 a0 21) * x4)) + ((gI σ23 a0 22) * v_26)) + ((gI σ23 a0 23) * (gI σ23 a0 29))) → Q σ28
set_option maxHeartbeats 4000000 in
set_option maxRecDepth 100000 in
theorem wX12_day {p : Program} {l : Launch} {e : Env} {s : State} {m : MethodId} {args : Array Value} {below : List Frame} {meth : Method} {c : Code} {D : va_G} {cA : Nat → ClassId} {z0 : Nat} (hX : Cx p m c cX12_day 10 s args RX12 D cA) (hlk : meth.locks = false) (hr : meth.sig.returnType = none) {σ : Me} {a0 : Nat} {x1 : Int32} {x2 : Int32} {x3 : Int32} {x4 : Int32} {x5 : Int32} {Q : Me → Prop} (h : pX12_day σ a0 x1 x2 x3 x4 x5 Q) {H : Heap} {locs : List Loc} {ls : Array Slot} (hw : wS D cA z0 s σ H locs) (hl : lv_has ls 10 [(0, .ref a0), (1, .int x1), (2, .int x2), (3, .int x3), (4, .int x4), (5, .int x5)]) : W p l e rX12_day s m args below meth c H locs 0 0 (MQ below (va_Qv Q (BM D cA z0) (AM z0)) args s 0 0 (AM z0)) (F0 m 0 ls []) := by
  have hx := hX.1.1
  have hb := hX.1.2.1
  have hown := hX.1.2.2.2.1
  have hts := hX.1.2.2.2.2
  unfold pX12_day at h
  refine lv_aload_n hx hb dX12_day_0 rfl (lv_at hl 0 rfl) ?_
  obtain ⟨hT1, h⟩ := h
  refine m_get hX hw cl12 hT1 18 (by decide) k_892 (fun _ h => h) (v := .int _) rfl dX12_day_1 ?_
  have kM3 : ∀ (v_2 : Int32) (ls : Array Slot), v_2 = (if (gI σ a0 18) = 0 then x4 else x2) → lv_has ls 10 [(0, .ref a0), (1, .int x1), (3, .int x3), (4, .int x4), (5, .int x5)] → W p l e rX12_day s m args below meth c H locs 0 0 (MQ below (va_Qv Q (BM D cA z0) (AM z0)) args s 0 0 (AM z0)) (F0 m 13 ls [.int v_2]) := by
    intro v_2 ls e_v_2 hl
    have h := h v_2 e_v_2
    refine lv_istore (lv' := [(6, _), (0, _), (1, _), (3, _), (4, _), (5, _)]) hx hb dX12_day_13 hl (by decide) rfl (fun ls hl => ?_)
    refine lv_aload_n hx hb dX12_day_15 rfl (lv_at hl 1 rfl) ?_
    refine lv_aload_n hx hb dX12_day_16 rfl (lv_at hl 1 rfl) ?_
    refine m_get hX hw cl12 hT1 18 (by decide) k_892 (fun _ h => h) (v := .int _) rfl dX12_day_17 ?_
    have kM5 : ∀ (v_4 : Int32) (ls : Array Slot), v_4 = (if (gI σ a0 18) = 0 then ((0 : Int32)) else (if (gI σ a0 18) = ((1 : Int32)) then x4 else x3)) → lv_has ls 10 [(6, .int v_2), (0, .ref a0), (1, .int x1), (4, .int x4), (5, .int x5)] → W p l e rX12_day s m args below meth c H locs 0 0 (MQ below (va_Qv Q (BM D cA z0) (AM z0)) args s 0 0 (AM z0)) (F0 m 41 ls [.int v_4, .ref a0]) := by
      intro v_4 ls e_v_4 hl
      have h := h v_4 e_v_4
      refine m_putI hX hw cl12 hT1 25 (by decide) k_899 (fun _ h => h) rfl rfl dX12_day_41 (fun H locs hw => ?_)
      let σ6 : Me := sI σ a0 25 v_4
      have h := h σ6 rfl
      have hw : wS D cA z0 s σ6 H locs := hw
      refine lv_aload_n hx hb dX12_day_44 rfl (lv_at hl 1 rfl) ?_
      refine lv_aload_n hx hb dX12_day_45 rfl (lv_at hl 1 rfl) ?_
      refine m_get hX hw cl12 hT1 18 (by decide) k_892 (fun _ h => h) (v := .int _) rfl dX12_day_46 ?_
      refine lv_iconst (v := 2) hx hb dX12_day_49 (by decide) ?_
      have kM8 : ∀ (v_7 : Int32) (ls : Array Slot), v_7 = (if (gI σ6 a0 18) = ((2 : Int32)) then x4 else ((0 : Int32))) → lv_has ls 10 [(6, .int v_2), (0, .ref a0), (1, .int x1), (4, .int x4), (5, .int x5)] → W p l e rX12_day s m args below meth c H locs 0 0 (MQ below (va_Qv Q (BM D cA z0) (AM z0)) args s 0 0 (AM z0)) (F0 m 59 ls [.int v_7, .ref a0]) := by
        intro v_7 ls e_v_7 hl
        have h := h v_7 e_v_7
        refine m_putI hX hw cl12 hT1 26 (by decide) k_900 (fun _ h => h) rfl rfl dX12_day_59 (fun H locs hw => ?_)
        let σ9 : Me := sI σ6 a0 26 v_7
        have h := h σ9 rfl
        have hw : wS D cA z0 s σ9 H locs := hw
        refine lv_iload_n hx hb dX12_day_62 rfl (lv_at hl 2 rfl) ?_
        refine lv_iload hx hb dX12_day_63 (lv_at hl 0 rfl) ?_
        refine lv_iadd hx hb dX12_day_65 ?_
        refine lv_aload_n hx hb dX12_day_66 rfl (lv_at hl 1 rfl) ?_
        refine m_get hX hw cl12 hT1 17 (by decide) k_891 (fun _ h => h) (v := .int _) rfl dX12_day_67 ?_
        have kM11 : ∀ (v_10 : Int32) (ls : Array Slot), v_10 = (if (x1 + v_2) ≤ (gI σ9 a0 17) then (x1 + v_2) else (gI σ9 a0 17)) → lv_has ls 10 [(0, .ref a0), (4, .int x4), (5, .int x5)] → W p l e rX12_day s m args below meth c H locs 0 0 (MQ below (va_Qv Q (BM D cA z0) (AM z0)) args s 0 0 (AM z0)) (F0 m 84 ls [.int v_10]) := by
          intro v_10 ls e_v_10 hl
          have h := h v_10 e_v_10
          refine lv_istore (lv' := [(7, _), (0, _), (4, _), (5, _)]) hx hb dX12_day_84 hl (by decide) rfl (fun ls hl => ?_)
          refine lv_iload hx hb dX12_day_86 (lv_at hl 0 rfl) ?_
          have kM13 : ∀ (v_12 : Int32) (ls : Array Slot), v_12 = (if v_10 ≤ 0 then ((0 : Int32)) else v_10) → lv_has ls 10 [(7, .int v_10), (0, .ref a0), (4, .int x4), (5, .int x5)] → W p l e rX12_day s m args below meth c H locs 0 0 (MQ below (va_Qv Q (BM D cA z0) (AM z0)) args s 0 0 (AM z0)) (F0 m 97 ls [.int v_12]) := by
            intro v_12 ls e_v_12 hl
            have h := h v_12 e_v_12
            refine lv_istore (lv' := [(8, _), (7, _), (0, _), (4, _), (5, _)]) hx hb dX12_day_97 hl (by decide) rfl (fun ls hl => ?_)
            refine lv_aload_n hx hb dX12_day_99 rfl (lv_at hl 2 rfl) ?_
            refine lv_iload hx hb dX12_day_100 (lv_at hl 4 rfl) ?_
            refine lv_iload hx hb dX12_day_102 (lv_at hl 0 rfl) ?_
            have kM15 : ∀ (v_14 : Int32) (ls : Array Slot), v_14 = (if v_12 ≤ x5 then v_12 else x5) → lv_has ls 10 [(7, .int v_10), (0, .ref a0), (4, .int x4), (5, .int x5)] → W p l e rX12_day s m args below meth c H locs 0 0 (MQ below (va_Qv Q (BM D cA z0) (AM z0)) args s 0 0 (AM z0)) (F0 m 114 ls [.int v_14, .ref a0]) := by
              intro v_14 ls e_v_14 hl
              have h := h v_14 e_v_14
              refine m_putI hX hw cl12 hT1 28 (by decide) k_902 (fun _ h => h) rfl rfl dX12_day_114 (fun H locs hw => ?_)
              let σ16 : Me := sI σ9 a0 28 v_14
              have h := h σ16 rfl
              have hw : wS D cA z0 s σ16 H locs := hw
              refine lv_aload_n hx hb dX12_day_117 rfl (lv_at hl 1 rfl) ?_
              refine lv_iload hx hb dX12_day_118 (lv_at hl 3 rfl) ?_
              refine lv_aload_n hx hb dX12_day_120 rfl (lv_at hl 1 rfl) ?_
              refine m_get hX hw cl12 hT1 28 (by decide) k_902 (fun _ h => h) (v := .int _) rfl dX12_day_121 ?_
              refine lv_isub hx hb dX12_day_124 ?_
              refine m_putI hX hw cl12 hT1 29 (by decide) k_903 (fun _ h => h) rfl rfl dX12_day_125 (fun H locs hw => ?_)
              let σ17 : Me := sI σ16 a0 29 (x5 - (gI σ16 a0 28))
              have h := h σ17 rfl
              have hw : wS D cA z0 s σ17 H locs := hw
              refine lv_iload hx hb dX12_day_128 (lv_at hl 0 rfl) ?_
              refine lv_iload hx hb dX12_day_130 (lv_at hl 3 rfl) ?_
              refine lv_isub hx hb dX12_day_132 ?_
              refine lv_topi (fun x7_18 e_x7_18 => ?_)
              have h := h x7_18 e_x7_18
              refine lv_istore (lv' := [(7, _), (0, _), (4, _), (5, _)]) hx hb dX12_day_133 hl (by decide) rfl (fun ls hl => ?_)
              refine lv_aload_n hx hb dX12_day_135 rfl (lv_at hl 1 rfl) ?_
              refine m_get hX hw cl12 hT1 19 (by decide) k_893 (fun _ h => h) (v := .int _) rfl dX12_day_136 ?_
              have kM20 : ∀ (v_19 : Int32) (ls : Array Slot), v_19 = (if (gI σ17 a0 19) = 0 then ((0 : Int32)) else ((-12 : Int32))) → lv_has ls 10 [(7, .int x7_18), (0, .ref a0), (4, .int x4)] → W p l e rX12_day s m args below meth c H locs 0 0 (MQ below (va_Qv Q (BM D cA z0) (AM z0)) args s 0 0 (AM z0)) (F0 m 148 ls [.int v_19]) := by
                intro v_19 ls e_v_19 hl
                have h := h v_19 e_v_19
                refine lv_istore (lv' := [(9, _), (7, _), (0, _), (4, _)]) hx hb dX12_day_148 hl (by decide) rfl (fun ls hl => ?_)
                refine lv_aload_n hx hb dX12_day_150 rfl (lv_at hl 2 rfl) ?_
                refine lv_iload hx hb dX12_day_151 (lv_at hl 1 rfl) ?_
                refine lv_iload hx hb dX12_day_153 (lv_at hl 0 rfl) ?_
                have kM22 : ∀ (v_21 : Int32) (ls : Array Slot), v_21 = (if v_19 ≤ x7_18 then x7_18 else v_19) → lv_has ls 10 [(0, .ref a0), (4, .int x4)] → W p l e rX12_day s m args below meth c H locs 0 0 (MQ below (va_Qv Q (BM D cA z0) (AM z0)) args s 0 0 (AM z0)) (F0 m 165 ls [.int v_21, .ref a0]) := by
                  intro v_21 ls e_v_21 hl
                  have h := h v_21 e_v_21
                  refine m_putI hX hw cl12 hT1 24 (by decide) k_898 (fun _ h => h) rfl rfl dX12_day_165 (fun H locs hw => ?_)
                  let σ23 : Me := sI σ17 a0 24 v_21
                  have h := h σ23 rfl
                  have hw : wS D cA z0 s σ23 H locs := hw
                  refine lv_aload_n hx hb dX12_day_168 rfl (lv_at hl 0 rfl) ?_
                  refine lv_iload hx hb dX12_day_169 (lv_at hl 1 rfl) ?_
                  have kM25 : ∀ (v_24 : Int32) (ls : Array Slot), v_24 = (if x4 ≤ 0 then ((0 : Int32)) else (gI σ23 a0 20)) → lv_has ls 10 [(0, .ref a0), (4, .int x4)] → W p l e rX12_day s m args below meth c H locs 0 0 (MQ below (va_Qv Q (BM D cA z0) (AM z0)) args s 0 0 (AM z0)) (F0 m 182 ls [.int v_24, .ref a0]) := by
                    intro v_24 ls e_v_24 hl
                    have h := h v_24 e_v_24
                    refine lv_aload_n hx hb dX12_day_182 rfl (lv_at hl 0 rfl) ?_
                    refine m_get hX hw cl12 hT1 21 (by decide) k_895 (fun _ h => h) (v := .int _) rfl dX12_day_183 ?_
                    refine lv_iload hx hb dX12_day_186 (lv_at hl 1 rfl) ?_
                    refine lv_imul hx hb dX12_day_188 ?_
                    refine lv_iadd hx hb dX12_day_189 ?_
                    refine lv_aload_n hx hb dX12_day_190 rfl (lv_at hl 0 rfl) ?_
                    refine m_get hX hw cl12 hT1 22 (by decide) k_896 (fun _ h => h) (v := .int _) rfl dX12_day_191 ?_
                    refine lv_aload_n hx hb dX12_day_194 rfl (lv_at hl 0 rfl) ?_
                    refine m_get hX hw cl12 hT1 24 (by decide) k_898 (fun _ h => h) (v := .int _) rfl dX12_day_195 ?_
                    have kM27 : ∀ (v_26 : Int32) (ls : Array Slot), v_26 = (if (gI σ23 a0 24) ≤ 0 then ((0 : Int32)) else (gI σ23 a0 24)) → lv_has ls 10 [(0, .ref a0)] → W p l e rX12_day s m args below meth c H locs 0 0 (MQ below (va_Qv Q (BM D cA z0) (AM z0)) args s 0 0 (AM z0)) (F0 m 209 ls [.int v_26, .int (gI σ23 a0 22), .int (v_24 + ((gI σ23 a0 21) * x4)), .ref a0]) := by
                      intro v_26 ls e_v_26 hl
                      have h := h v_26 e_v_26
                      refine lv_imul hx hb dX12_day_209 ?_
                      refine lv_iadd hx hb dX12_day_210 ?_
                      refine lv_aload_n hx hb dX12_day_211 rfl (lv_at hl 0 rfl) ?_
                      refine m_get hX hw cl12 hT1 23 (by decide) k_897 (fun _ h => h) (v := .int _) rfl dX12_day_212 ?_
                      refine lv_aload_n hx hb dX12_day_215 rfl (lv_at hl 0 rfl) ?_
                      refine m_get hX hw cl12 hT1 29 (by decide) k_903 (fun _ h => h) (v := .int _) rfl dX12_day_216 ?_
                      refine lv_imul hx hb dX12_day_219 ?_
                      refine lv_iadd hx hb dX12_day_220 ?_
                      refine m_putI hX hw cl12 hT1 27 (by decide) k_901 (fun _ h => h) rfl rfl dX12_day_221 (fun H locs hw => ?_)
                      let σ28 : Me := sI σ23 a0 27 (((v_24 + ((gI σ23 a0 21) * x4)) + ((gI σ23 a0 22) * v_26)) + ((gI σ23 a0 23) * (gI σ23 a0 29)))
                      have h := h σ28 rfl
                      have hw : wS D cA z0 s σ28 H locs := hw
                      exact m_vret hX hlk hr hw h dX12_day_224
                    refine lv_if_le (tgt := 208) hx hb dX12_day_198 (by decide) (fun hc29 => ?_) (fun hc29 => ?_)
                    · refine lv_iconst (v := 0) hx hb dX12_day_208 (by decide) ?_
                      exact kM27 _ _ (by first | rfl | rw [if_pos hc29] | simp only [if_pos hc29]) (lv_sub hl [0] rfl)
                    · refine lv_aload_n hx hb dX12_day_201 rfl (lv_at hl 0 rfl) ?_
                      refine m_get hX hw cl12 hT1 24 (by decide) k_898 (fun _ h => h) (v := .int _) rfl dX12_day_202 ?_
                      refine lv_goto (tgt := 209) hx hb dX12_day_205 (by decide) ?_
                      exact kM27 _ _ (by first | rfl | rw [if_neg hc29] | simp only [if_neg hc29]) (lv_sub hl [0] rfl)
                  refine lv_if_le (tgt := 181) hx hb dX12_day_171 (by decide) (fun hc30 => ?_) (fun hc30 => ?_)
                  · refine lv_iconst (v := 0) hx hb dX12_day_181 (by decide) ?_
                    exact kM25 _ _ (by first | rfl | rw [if_pos hc30] | simp only [if_pos hc30]) (lv_sub hl [0, 1] rfl)
                  · refine lv_aload_n hx hb dX12_day_174 rfl (lv_at hl 0 rfl) ?_
                    refine m_get hX hw cl12 hT1 20 (by decide) k_894 (fun _ h => h) (v := .int _) rfl dX12_day_175 ?_
                    refine lv_goto (tgt := 182) hx hb dX12_day_178 (by decide) ?_
                    exact kM25 _ _ (by first | rfl | rw [if_neg hc30] | simp only [if_neg hc30]) (lv_sub hl [0, 1] rfl)
                refine lv_icmp_ge (tgt := 163) hx hb dX12_day_155 (by decide) (fun hc31 => ?_) (fun hc31 => ?_)
                · refine lv_iload hx hb dX12_day_163 (lv_at hl 1 rfl) ?_
                  exact kM22 _ _ (by first | rfl | rw [if_pos hc31] | simp only [if_pos hc31]) (lv_sub hl [2, 3] rfl)
                · refine lv_iload hx hb dX12_day_158 (lv_at hl 0 rfl) ?_
                  refine lv_goto (tgt := 165) hx hb dX12_day_160 (by decide) ?_
                  exact kM22 _ _ (by first | rfl | rw [if_neg hc31] | simp only [if_neg hc31]) (lv_sub hl [2, 3] rfl)
              refine lv_if_eq (tgt := 147) hx hb dX12_day_139 (by decide) (fun hc32 => ?_) (fun hc32 => ?_)
              · refine lv_iconst (v := 0) hx hb dX12_day_147 (by decide) ?_
                exact kM20 _ _ (by first | rfl | rw [if_pos hc32] | simp only [if_pos hc32]) (lv_sub hl [0, 1, 2] rfl)
              · refine lv_bipush (v := (-12)) hx hb dX12_day_142 (by decide) ?_
                refine lv_goto (tgt := 148) hx hb dX12_day_144 (by decide) ?_
                exact kM20 _ _ (by first | rfl | rw [if_neg hc32] | simp only [if_neg hc32]) (lv_sub hl [0, 1, 2] rfl)
            refine lv_icmp_ge (tgt := 112) hx hb dX12_day_104 (by decide) (fun hc33 => ?_) (fun hc33 => ?_)
            · refine lv_iload hx hb dX12_day_112 (lv_at hl 0 rfl) ?_
              exact kM15 _ _ (by first | rfl | rw [if_pos hc33] | simp only [if_pos hc33]) (lv_sub hl [1, 2, 3, 4] rfl)
            · refine lv_iload hx hb dX12_day_107 (lv_at hl 4 rfl) ?_
              refine lv_goto (tgt := 114) hx hb dX12_day_109 (by decide) ?_
              exact kM15 _ _ (by first | rfl | rw [if_neg hc33] | simp only [if_neg hc33]) (lv_sub hl [1, 2, 3, 4] rfl)
          refine lv_if_le (tgt := 96) hx hb dX12_day_88 (by decide) (fun hc34 => ?_) (fun hc34 => ?_)
          · refine lv_iconst (v := 0) hx hb dX12_day_96 (by decide) ?_
            exact kM13 _ _ (by first | rfl | rw [if_pos hc34] | simp only [if_pos hc34]) (lv_sub hl [0, 1, 2, 3] rfl)
          · refine lv_iload hx hb dX12_day_91 (lv_at hl 0 rfl) ?_
            refine lv_goto (tgt := 97) hx hb dX12_day_93 (by decide) ?_
            exact kM13 _ _ (by first | rfl | rw [if_neg hc34] | simp only [if_neg hc34]) (lv_sub hl [0, 1, 2, 3] rfl)
        refine lv_icmp_le (tgt := 80) hx hb dX12_day_70 (by decide) (fun hc35 => ?_) (fun hc35 => ?_)
        · refine lv_iload_n hx hb dX12_day_80 rfl (lv_at hl 2 rfl) ?_
          refine lv_iload hx hb dX12_day_81 (lv_at hl 0 rfl) ?_
          refine lv_iadd hx hb dX12_day_83 ?_
          exact kM11 _ _ (by first | rfl | rw [if_pos hc35] | simp only [if_pos hc35]) (lv_sub hl [1, 3, 4] rfl)
        · refine lv_aload_n hx hb dX12_day_73 rfl (lv_at hl 1 rfl) ?_
          refine m_get hX hw cl12 hT1 17 (by decide) k_891 (fun _ h => h) (v := .int _) rfl dX12_day_74 ?_
          refine lv_goto (tgt := 84) hx hb dX12_day_77 (by decide) ?_
          exact kM11 _ _ (by first | rfl | rw [if_neg hc35] | simp only [if_neg hc35]) (lv_sub hl [1, 3, 4] rfl)
      refine lv_icmp_ne (tgt := 58) hx hb dX12_day_50 (by decide) (fun hc36 => ?_) (fun hc36 => ?_)
      · refine lv_iconst (v := 0) hx hb dX12_day_58 (by decide) ?_
        exact kM8 _ _ (by first | rfl | rw [if_neg hc36] | simp only [if_neg hc36]) (lv_sub hl [0, 1, 2, 3, 4] rfl)
      · refine lv_iload hx hb dX12_day_53 (lv_at hl 3 rfl) ?_
        refine lv_goto (tgt := 59) hx hb dX12_day_55 (by decide) ?_
        exact kM8 _ _ (by first | rfl | rw [if_pos hc36] | simp only [if_pos hc36]) (lv_sub hl [0, 1, 2, 3, 4] rfl)
    refine lv_if_ne (tgt := 27) hx hb dX12_day_20 (by decide) (fun hc37 => ?_) (fun hc37 => ?_)
    · refine lv_aload_n hx hb dX12_day_27 rfl (lv_at hl 1 rfl) ?_
      refine m_get hX hw cl12 hT1 18 (by decide) k_892 (fun _ h => h) (v := .int _) rfl dX12_day_28 ?_
      refine lv_iconst (v := 1) hx hb dX12_day_31 (by decide) ?_
      refine lv_icmp_ne (tgt := 40) hx hb dX12_day_32 (by decide) (fun hc38 => ?_) (fun hc38 => ?_)
      · refine lv_iload_n hx hb dX12_day_40 rfl (lv_at hl 3 rfl) ?_
        exact kM5 _ _ (by first | rfl | rw [if_neg hc37, if_neg hc38] | simp only [if_neg hc37, if_neg hc38]) (lv_sub hl [0, 1, 2, 4, 5] rfl)
      · refine lv_iload hx hb dX12_day_35 (lv_at hl 4 rfl) ?_
        refine lv_goto (tgt := 41) hx hb dX12_day_37 (by decide) ?_
        exact kM5 _ _ (by first | rfl | rw [if_neg hc37, if_pos hc38] | simp only [if_neg hc37, if_pos hc38]) (lv_sub hl [0, 1, 2, 4, 5] rfl)
    · refine lv_iconst (v := 0) hx hb dX12_day_23 (by decide) ?_
      refine lv_goto (tgt := 41) hx hb dX12_day_24 (by decide) ?_
      exact kM5 _ _ (by first | rfl | rw [if_pos hc37] | simp only [if_pos hc37]) (lv_sub hl [0, 1, 2, 4, 5] rfl)
  refine lv_if_ne (tgt := 12) hx hb dX12_day_4 (by decide) (fun hc39 => ?_) (fun hc39 => ?_)
  · refine lv_iload_n hx hb dX12_day_12 rfl (lv_at hl 2 rfl) ?_
    exact kM3 _ _ (by first | rfl | rw [if_neg hc39] | simp only [if_neg hc39]) (lv_sub hl [0, 1, 3, 4, 5] rfl)
  · refine lv_iload hx hb dX12_day_7 (lv_at hl 4 rfl) ?_
    refine lv_goto (tgt := 13) hx hb dX12_day_9 (by decide) ?_
    exact kM3 _ _ (by first | rfl | rw [if_pos hc39] | simp only [if_pos hc39]) (lv_sub hl [0, 1, 3, 4, 5] rfl)
theorem mtX12_day : Mth yX12_day cX12_day 10 none 5 := ⟨k_1191, k_50, by decide +kernel⟩
theorem tX12_day {l : Launch} {D : va_G} {cA : Nat → ClassId} {z0 : Nat} {σ : Me} {a0 : Nat} {x1 : Int32} {x2 : Int32} {x3 : Int32} {x4 : Int32} {x5 : Int32} {Q : Me → Prop} (h : pX12_day σ a0 x1 x2 x3 x4 x5 Q) : Met l yX12_day (Cond.code yX12_day cX12_day 10 none :: gTab) rX12_day (PcM D cA z0 σ [.ref a0, .int x1, .int x2, .int x3, .int x4, .int x5]) (va_Qv Q (BM D cA z0) (AM z0)) 0 0 (AM z0) :=
  met_of (by decide) (Nat.le_of_ble_eq_true rfl) (fun hX hlk hr hn hw hl => wX12_day hX hlk hr h hw hl)
end
section
theorem tt2 : (1:Nat) = 1 := rfl
end
