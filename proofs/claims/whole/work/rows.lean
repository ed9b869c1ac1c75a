section
-- ===== PART A: goes FIRST, ahead of the names: the tables' words, and 'selects' of the private methods out of them =====
/-- a private method of a class that the tables say can be made, by its rows of tables_1 -/
def lw_okq (q : MethodName × Nat) : Prop := (q.1.cls ≠ "java/lang/invoke/MethodHandle" ∧ q.1.cls ≠ "java/lang/invoke/VarHandle") ∧ Cond.instantiable q.1.cls q.2 ∈ tables_1 ∧ Cond.privateMethod q.1 ∈ tables_1 ∧ Cond.instanceMethod q.1 ∈ tables_1
theorem lw_p0 : lw_okq (⟨"SendForMore", "refuse", "(I)I"⟩, 18) := ⟨⟨by decide +kernel, by decide +kernel⟩, List.mem_of_getElem? (i := 17) (by decide +kernel), List.mem_of_getElem? (i := 281) (by decide +kernel), List.mem_of_getElem? (i := 282) (by decide +kernel)⟩
theorem lw_p1 : lw_okq (⟨"SendForMore", "keep", "(LSendForMore$Rule;)I"⟩, 18) := ⟨⟨by decide +kernel, by decide +kernel⟩, List.mem_of_getElem? (i := 17) (by decide +kernel), List.mem_of_getElem? (i := 356) (by decide +kernel), List.mem_of_getElem? (i := 357) (by decide +kernel)⟩
theorem lw_p2 : lw_okq (⟨"SendForMore", "isRule", "(I)Z"⟩, 18) := ⟨⟨by decide +kernel, by decide +kernel⟩, List.mem_of_getElem? (i := 17) (by decide +kernel), List.mem_of_getElem? (i := 411) (by decide +kernel), List.mem_of_getElem? (i := 412) (by decide +kernel)⟩
theorem lw_p3 : lw_okq (⟨"SendForMore", "isStart", "(III)Z"⟩, 18) := ⟨⟨by decide +kernel, by decide +kernel⟩, List.mem_of_getElem? (i := 17) (by decide +kernel), List.mem_of_getElem? (i := 529) (by decide +kernel), List.mem_of_getElem? (i := 530) (by decide +kernel)⟩
theorem lw_p4 : lw_okq (⟨"SendForMore$Shop", "reckonDemand", "(III)V"⟩, 10) := ⟨⟨by decide +kernel, by decide +kernel⟩, List.mem_of_getElem? (i := 31) (by decide +kernel), List.mem_of_getElem? (i := 551) (by decide +kernel), List.mem_of_getElem? (i := 552) (by decide +kernel)⟩
theorem lw_p5 : lw_okq (⟨"SendForMore$Walk", "begin", "(I)V"⟩, 8) := ⟨⟨by decide +kernel, by decide +kernel⟩, List.mem_of_getElem? (i := 119) (by decide +kernel), List.mem_of_getElem? (i := 572) (by decide +kernel), List.mem_of_getElem? (i := 573) (by decide +kernel)⟩
theorem lw_p6 : lw_okq (⟨"SendForMore$Walk", "passDay", "(LSendForMore$Book;)V"⟩, 8) := ⟨⟨by decide +kernel, by decide +kernel⟩, List.mem_of_getElem? (i := 119) (by decide +kernel), List.mem_of_getElem? (i := 598) (by decide +kernel), List.mem_of_getElem? (i := 599) (by decide +kernel)⟩
theorem lw_p7 : lw_okq (⟨"SendForMore$Walk", "passFrom", "(ILSendForMore$Book;I)V"⟩, 8) := ⟨⟨by decide +kernel, by decide +kernel⟩, List.mem_of_getElem? (i := 119) (by decide +kernel), List.mem_of_getElem? (i := 608) (by decide +kernel), List.mem_of_getElem? (i := 609) (by decide +kernel)⟩
theorem lw_p8 : lw_okq (⟨"SendForMore$Walk", "orderAt", "(I)I"⟩, 8) := ⟨⟨by decide +kernel, by decide +kernel⟩, List.mem_of_getElem? (i := 119) (by decide +kernel), List.mem_of_getElem? (i := 612) (by decide +kernel), List.mem_of_getElem? (i := 613) (by decide +kernel)⟩
theorem lw_p9 : lw_okq (⟨"SendForMore", "tell", "(JJ)I"⟩, 18) := ⟨⟨by decide +kernel, by decide +kernel⟩, List.mem_of_getElem? (i := 17) (by decide +kernel), List.mem_of_getElem? (i := 654) (by decide +kernel), List.mem_of_getElem? (i := 655) (by decide +kernel)⟩
theorem lw_p10 : lw_okq (⟨"SendForMore$Planner", "turnTo", "(LSendForMore$Book;I)V"⟩, 7) := ⟨⟨by decide +kernel, by decide +kernel⟩, List.mem_of_getElem? (i := 153) (by decide +kernel), List.mem_of_getElem? (i := 682) (by decide +kernel), List.mem_of_getElem? (i := 683) (by decide +kernel)⟩
theorem lw_p11 : lw_okq (⟨"SendForMore$Planner", "usefulOrder", "(II)I"⟩, 7) := ⟨⟨by decide +kernel, by decide +kernel⟩, List.mem_of_getElem? (i := 153) (by decide +kernel), List.mem_of_getElem? (i := 687) (by decide +kernel), List.mem_of_getElem? (i := 688) (by decide +kernel)⟩
theorem lw_p12 : lw_okq (⟨"SendForMore$Planner", "planDay", "(LSendForMore$Book;I)V"⟩, 7) := ⟨⟨by decide +kernel, by decide +kernel⟩, List.mem_of_getElem? (i := 153) (by decide +kernel), List.mem_of_getElem? (i := 691) (by decide +kernel), List.mem_of_getElem? (i := 692) (by decide +kernel)⟩
theorem lw_p13 : lw_okq (⟨"SendForMore$Planner", "choose", "(LSendForMore$Book;III)V"⟩, 7) := ⟨⟨by decide +kernel, by decide +kernel⟩, List.mem_of_getElem? (i := 153) (by decide +kernel), List.mem_of_getElem? (i := 696) (by decide +kernel), List.mem_of_getElem? (i := 697) (by decide +kernel)⟩
theorem lw_p14 : lw_okq (⟨"SendForMore$Planner", "priceOf", "(LSendForMore$Book;III)J"⟩, 7) := ⟨⟨by decide +kernel, by decide +kernel⟩, List.mem_of_getElem? (i := 153) (by decide +kernel), List.mem_of_getElem? (i := 700) (by decide +kernel), List.mem_of_getElem? (i := 701) (by decide +kernel)⟩
theorem lw_p15 : lw_okq (⟨"SendForMore$Planner", "laterAt", "(I)J"⟩, 7) := ⟨⟨by decide +kernel, by decide +kernel⟩, List.mem_of_getElem? (i := 153) (by decide +kernel), List.mem_of_getElem? (i := 712) (by decide +kernel), List.mem_of_getElem? (i := 713) (by decide +kernel)⟩
def lw_privs_1 : List (MethodName × Nat) := [(⟨"SendForMore", "refuse", "(I)I"⟩, 18), (⟨"SendForMore", "keep", "(LSendForMore$Rule;)I"⟩, 18), (⟨"SendForMore", "isRule", "(I)Z"⟩, 18), (⟨"SendForMore", "isStart", "(III)Z"⟩, 18), (⟨"SendForMore$Shop", "reckonDemand", "(III)V"⟩, 10), (⟨"SendForMore$Walk", "begin", "(I)V"⟩, 8), (⟨"SendForMore$Walk", "passDay", "(LSendForMore$Book;)V"⟩, 8), (⟨"SendForMore$Walk", "passFrom", "(ILSendForMore$Book;I)V"⟩, 8), (⟨"SendForMore$Walk", "orderAt", "(I)I"⟩, 8), (⟨"SendForMore", "tell", "(JJ)I"⟩, 18), (⟨"SendForMore$Planner", "turnTo", "(LSendForMore$Book;I)V"⟩, 7), (⟨"SendForMore$Planner", "usefulOrder", "(II)I"⟩, 7), (⟨"SendForMore$Planner", "planDay", "(LSendForMore$Book;I)V"⟩, 7), (⟨"SendForMore$Planner", "choose", "(LSendForMore$Book;III)V"⟩, 7), (⟨"SendForMore$Planner", "priceOf", "(LSendForMore$Book;III)J"⟩, 7), (⟨"SendForMore$Planner", "laterAt", "(I)J"⟩, 7)]
theorem lw_r1 : ∀ q ∈ lw_privs_1, lw_okq q := List.forall_mem_cons.mpr ⟨lw_p0, List.forall_mem_cons.mpr ⟨lw_p1, List.forall_mem_cons.mpr ⟨lw_p2, List.forall_mem_cons.mpr ⟨lw_p3, List.forall_mem_cons.mpr ⟨lw_p4, List.forall_mem_cons.mpr ⟨lw_p5, List.forall_mem_cons.mpr ⟨lw_p6, List.forall_mem_cons.mpr ⟨lw_p7, List.forall_mem_cons.mpr ⟨lw_p8, List.forall_mem_cons.mpr ⟨lw_p9, List.forall_mem_cons.mpr ⟨lw_p10, List.forall_mem_cons.mpr ⟨lw_p11, List.forall_mem_cons.mpr ⟨lw_p12, List.forall_mem_cons.mpr ⟨lw_p13, List.forall_mem_cons.mpr ⟨lw_p14, List.forall_mem_cons.mpr ⟨lw_p15, fun _ h => absurd h List.not_mem_nil⟩⟩⟩⟩⟩⟩⟩⟩⟩⟩⟩⟩⟩⟩⟩⟩
theorem lw_p16 : lw_okq (⟨"SendForMore", "seekPair", "(LSendForMore$Book;II)J"⟩, 18) := ⟨⟨by decide +kernel, by decide +kernel⟩, List.mem_of_getElem? (i := 17) (by decide +kernel), List.mem_of_getElem? (i := 720) (by decide +kernel), List.mem_of_getElem? (i := 721) (by decide +kernel)⟩
theorem lw_p17 : lw_okq (⟨"SendForMore$Spoiling", "passFrom", "(ILSendForMore$Book;)V"⟩, 6) := ⟨⟨by decide +kernel, by decide +kernel⟩, List.mem_of_getElem? (i := 183) (by decide +kernel), List.mem_of_getElem? (i := 755) (by decide +kernel), List.mem_of_getElem? (i := 756) (by decide +kernel)⟩
theorem lw_p18 : lw_okq (⟨"SendForMore$Spoiling", "give", "(I)V"⟩, 6) := ⟨⟨by decide +kernel, by decide +kernel⟩, List.mem_of_getElem? (i := 183) (by decide +kernel), List.mem_of_getElem? (i := 761) (by decide +kernel), List.mem_of_getElem? (i := 762) (by decide +kernel)⟩
theorem lw_p19 : lw_okq (⟨"SendForMore", "weightOfSeen", "(LSendForMore$Book;)J"⟩, 18) := ⟨⟨by decide +kernel, by decide +kernel⟩, List.mem_of_getElem? (i := 17) (by decide +kernel), List.mem_of_getElem? (i := 779) (by decide +kernel), List.mem_of_getElem? (i := 780) (by decide +kernel)⟩
theorem lw_p20 : lw_okq (⟨"SendForMore", "rulesThere", "()I"⟩, 18) := ⟨⟨by decide +kernel, by decide +kernel⟩, List.mem_of_getElem? (i := 17) (by decide +kernel), List.mem_of_getElem? (i := 796) (by decide +kernel), List.mem_of_getElem? (i := 797) (by decide +kernel)⟩
theorem lw_p21 : lw_okq (⟨"SendForMore", "digestBooks", "(J)J"⟩, 18) := ⟨⟨by decide +kernel, by decide +kernel⟩, List.mem_of_getElem? (i := 17) (by decide +kernel), List.mem_of_getElem? (i := 815) (by decide +kernel), List.mem_of_getElem? (i := 816) (by decide +kernel)⟩
theorem lw_p22 : lw_okq (⟨"SendForMore", "digestRules", "(J)J"⟩, 18) := ⟨⟨by decide +kernel, by decide +kernel⟩, List.mem_of_getElem? (i := 17) (by decide +kernel), List.mem_of_getElem? (i := 819) (by decide +kernel), List.mem_of_getElem? (i := 820) (by decide +kernel)⟩
theorem lw_p23 : lw_okq (⟨"SendForMore", "digestSheets", "(J)J"⟩, 18) := ⟨⟨by decide +kernel, by decide +kernel⟩, List.mem_of_getElem? (i := 17) (by decide +kernel), List.mem_of_getElem? (i := 823) (by decide +kernel), List.mem_of_getElem? (i := 824) (by decide +kernel)⟩
theorem lw_p24 : lw_okq (⟨"SendForMoreModel", "meets", "(I)I"⟩, 57) := ⟨⟨by decide +kernel, by decide +kernel⟩, List.mem_of_getElem? (i := 827) (by decide +kernel), List.mem_of_getElem? (i := 1035) (by decide +kernel), List.mem_of_getElem? (i := 1036) (by decide +kernel)⟩
theorem lw_p25 : lw_okq (⟨"SendForMoreModel", "allOf", "(I)I"⟩, 57) := ⟨⟨by decide +kernel, by decide +kernel⟩, List.mem_of_getElem? (i := 827) (by decide +kernel), List.mem_of_getElem? (i := 1052) (by decide +kernel), List.mem_of_getElem? (i := 1053) (by decide +kernel)⟩
theorem lw_p26 : lw_okq (⟨"SendForMoreModel", "add", "(IIIII)I"⟩, 57) := ⟨⟨by decide +kernel, by decide +kernel⟩, List.mem_of_getElem? (i := 827) (by decide +kernel), List.mem_of_getElem? (i := 1072) (by decide +kernel), List.mem_of_getElem? (i := 1073) (by decide +kernel)⟩
theorem lw_p27 : lw_okq (⟨"SendForMoreModel", "need", "(ZI)I"⟩, 57) := ⟨⟨by decide +kernel, by decide +kernel⟩, List.mem_of_getElem? (i := 827) (by decide +kernel), List.mem_of_getElem? (i := 1084) (by decide +kernel), List.mem_of_getElem? (i := 1085) (by decide +kernel)⟩
theorem lw_p28 : lw_okq (⟨"SendForMoreModel", "isRule", "(I)Z"⟩, 57) := ⟨⟨by decide +kernel, by decide +kernel⟩, List.mem_of_getElem? (i := 827) (by decide +kernel), List.mem_of_getElem? (i := 1088) (by decide +kernel), List.mem_of_getElem? (i := 1089) (by decide +kernel)⟩
theorem lw_p29 : lw_okq (⟨"SendForMoreModel", "toldOf", "(II)I"⟩, 57) := ⟨⟨by decide +kernel, by decide +kernel⟩, List.mem_of_getElem? (i := 827) (by decide +kernel), List.mem_of_getElem? (i := 1096) (by decide +kernel), List.mem_of_getElem? (i := 1097) (by decide +kernel)⟩
theorem lw_p30 : lw_okq (⟨"SendForMoreModel", "orders", "(II)I"⟩, 57) := ⟨⟨by decide +kernel, by decide +kernel⟩, List.mem_of_getElem? (i := 827) (by decide +kernel), List.mem_of_getElem? (i := 1108) (by decide +kernel), List.mem_of_getElem? (i := 1109) (by decide +kernel)⟩
theorem lw_p31 : lw_okq (⟨"SendForMoreModel", "needBoth", "(ZIIII)I"⟩, 57) := ⟨⟨by decide +kernel, by decide +kernel⟩, List.mem_of_getElem? (i := 827) (by decide +kernel), List.mem_of_getElem? (i := 1124) (by decide +kernel), List.mem_of_getElem? (i := 1125) (by decide +kernel)⟩
def lw_privs_2 : List (MethodName × Nat) := [(⟨"SendForMore", "seekPair", "(LSendForMore$Book;II)J"⟩, 18), (⟨"SendForMore$Spoiling", "passFrom", "(ILSendForMore$Book;)V"⟩, 6), (⟨"SendForMore$Spoiling", "give", "(I)V"⟩, 6), (⟨"SendForMore", "weightOfSeen", "(LSendForMore$Book;)J"⟩, 18), (⟨"SendForMore", "rulesThere", "()I"⟩, 18), (⟨"SendForMore", "digestBooks", "(J)J"⟩, 18), (⟨"SendForMore", "digestRules", "(J)J"⟩, 18), (⟨"SendForMore", "digestSheets", "(J)J"⟩, 18), (⟨"SendForMoreModel", "meets", "(I)I"⟩, 57), (⟨"SendForMoreModel", "allOf", "(I)I"⟩, 57), (⟨"SendForMoreModel", "add", "(IIIII)I"⟩, 57), (⟨"SendForMoreModel", "need", "(ZI)I"⟩, 57), (⟨"SendForMoreModel", "isRule", "(I)Z"⟩, 57), (⟨"SendForMoreModel", "toldOf", "(II)I"⟩, 57), (⟨"SendForMoreModel", "orders", "(II)I"⟩, 57), (⟨"SendForMoreModel", "needBoth", "(ZIIII)I"⟩, 57)]
theorem lw_r2 : ∀ q ∈ lw_privs_2, lw_okq q := List.forall_mem_cons.mpr ⟨lw_p16, List.forall_mem_cons.mpr ⟨lw_p17, List.forall_mem_cons.mpr ⟨lw_p18, List.forall_mem_cons.mpr ⟨lw_p19, List.forall_mem_cons.mpr ⟨lw_p20, List.forall_mem_cons.mpr ⟨lw_p21, List.forall_mem_cons.mpr ⟨lw_p22, List.forall_mem_cons.mpr ⟨lw_p23, List.forall_mem_cons.mpr ⟨lw_p24, List.forall_mem_cons.mpr ⟨lw_p25, List.forall_mem_cons.mpr ⟨lw_p26, List.forall_mem_cons.mpr ⟨lw_p27, List.forall_mem_cons.mpr ⟨lw_p28, List.forall_mem_cons.mpr ⟨lw_p29, List.forall_mem_cons.mpr ⟨lw_p30, List.forall_mem_cons.mpr ⟨lw_p31, fun _ h => absurd h List.not_mem_nil⟩⟩⟩⟩⟩⟩⟩⟩⟩⟩⟩⟩⟩⟩⟩⟩
theorem lw_p32 : lw_okq (⟨"SendForMoreModel", "isStart", "(II)Z"⟩, 57) := ⟨⟨by decide +kernel, by decide +kernel⟩, List.mem_of_getElem? (i := 827) (by decide +kernel), List.mem_of_getElem? (i := 1128) (by decide +kernel), List.mem_of_getElem? (i := 1129) (by decide +kernel)⟩
theorem lw_p33 : lw_okq (⟨"SendForMoreModel", "needBook", "(I)I"⟩, 57) := ⟨⟨by decide +kernel, by decide +kernel⟩, List.mem_of_getElem? (i := 827) (by decide +kernel), List.mem_of_getElem? (i := 1132) (by decide +kernel), List.mem_of_getElem? (i := 1133) (by decide +kernel)⟩
theorem lw_p34 : lw_okq (⟨"SendForMoreModel", "goThrough", "(IIIIZ)V"⟩, 57) := ⟨⟨by decide +kernel, by decide +kernel⟩, List.mem_of_getElem? (i := 827) (by decide +kernel), List.mem_of_getElem? (i := 1136) (by decide +kernel), List.mem_of_getElem? (i := 1137) (by decide +kernel)⟩
theorem lw_p35 : lw_okq (⟨"SendForMoreModel", "goOn", "(IIIZ)V"⟩, 57) := ⟨⟨by decide +kernel, by decide +kernel⟩, List.mem_of_getElem? (i := 827) (by decide +kernel), List.mem_of_getElem? (i := 1143) (by decide +kernel), List.mem_of_getElem? (i := 1144) (by decide +kernel)⟩
theorem lw_p36 : lw_okq (⟨"SendForMoreModel", "day", "(IIIII)V"⟩, 57) := ⟨⟨by decide +kernel, by decide +kernel⟩, List.mem_of_getElem? (i := 827) (by decide +kernel), List.mem_of_getElem? (i := 1147) (by decide +kernel), List.mem_of_getElem? (i := 1148) (by decide +kernel)⟩
theorem lw_p37 : lw_okq (⟨"SendForMoreModel", "put", "(IJ)V"⟩, 57) := ⟨⟨by decide +kernel, by decide +kernel⟩, List.mem_of_getElem? (i := 827) (by decide +kernel), List.mem_of_getElem? (i := 1151) (by decide +kernel), List.mem_of_getElem? (i := 1152) (by decide +kernel)⟩
theorem lw_p38 : lw_okq (⟨"SendForMoreModel", "tells", "(JJI)I"⟩, 57) := ⟨⟨by decide +kernel, by decide +kernel⟩, List.mem_of_getElem? (i := 827) (by decide +kernel), List.mem_of_getElem? (i := 1155) (by decide +kernel), List.mem_of_getElem? (i := 1156) (by decide +kernel)⟩
theorem lw_p39 : lw_okq (⟨"SendForMoreModel", "leastFrom", "(IIIIJ)J"⟩, 57) := ⟨⟨by decide +kernel, by decide +kernel⟩, List.mem_of_getElem? (i := 827) (by decide +kernel), List.mem_of_getElem? (i := 1170) (by decide +kernel), List.mem_of_getElem? (i := 1171) (by decide +kernel)⟩
theorem lw_p40 : lw_okq (⟨"SendForMoreModel", "goThroughPair", "(III)V"⟩, 57) := ⟨⟨by decide +kernel, by decide +kernel⟩, List.mem_of_getElem? (i := 827) (by decide +kernel), List.mem_of_getElem? (i := 1179) (by decide +kernel), List.mem_of_getElem? (i := 1180) (by decide +kernel)⟩
theorem lw_p41 : lw_okq (⟨"SendForMoreModel", "give", "(IZ)V"⟩, 57) := ⟨⟨by decide +kernel, by decide +kernel⟩, List.mem_of_getElem? (i := 827) (by decide +kernel), List.mem_of_getElem? (i := 1191) (by decide +kernel), List.mem_of_getElem? (i := 1192) (by decide +kernel)⟩
def lw_privs_3 : List (MethodName × Nat) := [(⟨"SendForMoreModel", "isStart", "(II)Z"⟩, 57), (⟨"SendForMoreModel", "needBook", "(I)I"⟩, 57), (⟨"SendForMoreModel", "goThrough", "(IIIIZ)V"⟩, 57), (⟨"SendForMoreModel", "goOn", "(IIIZ)V"⟩, 57), (⟨"SendForMoreModel", "day", "(IIIII)V"⟩, 57), (⟨"SendForMoreModel", "put", "(IJ)V"⟩, 57), (⟨"SendForMoreModel", "tells", "(JJI)I"⟩, 57), (⟨"SendForMoreModel", "leastFrom", "(IIIIJ)J"⟩, 57), (⟨"SendForMoreModel", "goThroughPair", "(III)V"⟩, 57), (⟨"SendForMoreModel", "give", "(IZ)V"⟩, 57)]
theorem lw_r3 : ∀ q ∈ lw_privs_3, lw_okq q := List.forall_mem_cons.mpr ⟨lw_p32, List.forall_mem_cons.mpr ⟨lw_p33, List.forall_mem_cons.mpr ⟨lw_p34, List.forall_mem_cons.mpr ⟨lw_p35, List.forall_mem_cons.mpr ⟨lw_p36, List.forall_mem_cons.mpr ⟨lw_p37, List.forall_mem_cons.mpr ⟨lw_p38, List.forall_mem_cons.mpr ⟨lw_p39, List.forall_mem_cons.mpr ⟨lw_p40, List.forall_mem_cons.mpr ⟨lw_p41, fun _ h => absurd h List.not_mem_nil⟩⟩⟩⟩⟩⟩⟩⟩⟩⟩
def lw_privs : List (MethodName × Nat) := lw_privs_1 ++ (lw_privs_2 ++ (lw_privs_3))
def lw_tbl : List Cond := k2_sels lw_privs ++ tables_1
theorem lw_privs_ok : ∀ q ∈ lw_privs, lw_okq q := by
  show ∀ q ∈ lw_privs_1 ++ (lw_privs_2 ++ (lw_privs_3)), lw_okq q
  exact List.forall_mem_append.mpr ⟨lw_r1, List.forall_mem_append.mpr ⟨lw_r2, lw_r3⟩⟩
end
section
def RX0 : String := "SendForMore$Base"
def TX0 : u_T := fun k => match k with
  | _ => ("SendForMore$Base", "top", "I", true)
def tyX0 : Nat → FieldType := fun k => match k with
  | _ => .int
theorem nmX0 : ∀ a, a < 1 → ∀ b, b < 1 → a ≠ b → (TX0 a).2.1 ≠ (TX0 b).2.1 := by decide +kernel
theorem tyX0_ok : ∀ k, k < 1 → parseFieldDescriptor (TX0 k).2.2.1 = some (tyX0 k) := by decide +kernel
abbrev cX0_init : ByteArray := prog_2_method_1_code
def yX0_init : MethodName := ⟨RX0, "<init>", "(I)V"⟩
abbrev cX0_kindNumber : ByteArray := prog_2_method_2_code
def yX0_kindNumber : MethodName := ⟨RX0, "kindNumber", "()I"⟩
abbrev cX0_wants : ByteArray := prog_2_method_3_code
def yX0_wants : MethodName := ⟨RX0, "wants", "(I)I"⟩
abbrev cX0_topMark : ByteArray := prog_2_method_4_code
def yX0_topMark : MethodName := ⟨RX0, "topMark", "()I"⟩
def RX1 : String := "SendForMore$Book"
def TX1 : u_T := fun k => match k with
  | 0 => ("SendForMore$Book", "there", "Z", false)
  | _ => ("SendForMore$Book", "weights", "[I", true)
def tyX1 : Nat → FieldType := fun k => match k with
  | 0 => .boolean
  | _ => .array .int
theorem nmX1 : ∀ a, a < 2 → ∀ b, b < 2 → a ≠ b → (TX1 a).2.1 ≠ (TX1 b).2.1 := by decide +kernel
theorem tyX1_ok : ∀ k, k < 2 → parseFieldDescriptor (TX1 k).2.2.1 = some (tyX1 k) := by decide +kernel
abbrev cX1_init : ByteArray := prog_3_method_1_code
def yX1_init : MethodName := ⟨RX1, "<init>", "()V"⟩
abbrev cX1_open : ByteArray := prog_3_method_2_code
def yX1_open : MethodName := ⟨RX1, "open", "()V"⟩
abbrev cX1_weightOf : ByteArray := prog_3_method_3_code
def yX1_weightOf : MethodName := ⟨RX1, "weightOf", "(I)I"⟩
abbrev cX1_weightOfAll : ByteArray := prog_3_method_4_code
def yX1_weightOfAll : MethodName := ⟨RX1, "weightOfAll", "()I"⟩
abbrev cX1_weightedDemands : ByteArray := prog_3_method_5_code
def yX1_weightedDemands : MethodName := ⟨RX1, "weightedDemands", "()I"⟩
def RX2 : String := "SendForMore$Lot"
def TX2 : u_T := fun k => match k with
  | 0 => ("SendForMore$Lot", "low", "I", true)
  | _ => ("SendForMore$Lot", "pieces", "I", true)
def tyX2 : Nat → FieldType := fun k => match k with
  | 0 => .int
  | _ => .int
theorem nmX2 : ∀ a, a < 2 → ∀ b, b < 2 → a ≠ b → (TX2 a).2.1 ≠ (TX2 b).2.1 := by decide +kernel
theorem tyX2_ok : ∀ k, k < 2 → parseFieldDescriptor (TX2 k).2.2.1 = some (tyX2 k) := by decide +kernel
abbrev cX2_init : ByteArray := prog_4_method_1_code
def yX2_init : MethodName := ⟨RX2, "<init>", "(II)V"⟩
abbrev cX2_kindNumber : ByteArray := prog_4_method_2_code
def yX2_kindNumber : MethodName := ⟨RX2, "kindNumber", "()I"⟩
abbrev cX2_wants : ByteArray := prog_4_method_3_code
def yX2_wants : MethodName := ⟨RX2, "wants", "(I)I"⟩
abbrev cX2_lowMark : ByteArray := prog_4_method_4_code
def yX2_lowMark : MethodName := ⟨RX2, "lowMark", "()I"⟩
abbrev cX2_lotSize : ByteArray := prog_4_method_5_code
def yX2_lotSize : MethodName := ⟨RX2, "lotSize", "()I"⟩
def RX3 : String := "SendForMore$Pair"
def TX3 : u_T := fun k => match k with
  | 0 => ("SendForMore$Base", "top", "I", true)
  | _ => ("SendForMore$Pair", "low", "I", true)
def tyX3 : Nat → FieldType := fun k => match k with
  | 0 => .int
  | _ => .int
theorem nmX3 : ∀ a, a < 2 → ∀ b, b < 2 → a ≠ b → (TX3 a).2.1 ≠ (TX3 b).2.1 := by decide +kernel
theorem tyX3_ok : ∀ k, k < 2 → parseFieldDescriptor (TX3 k).2.2.1 = some (tyX3 k) := by decide +kernel
abbrev cX3_init : ByteArray := prog_5_method_1_code
def yX3_init : MethodName := ⟨RX3, "<init>", "(II)V"⟩
abbrev cX3_kindNumber : ByteArray := prog_5_method_2_code
def yX3_kindNumber : MethodName := ⟨RX3, "kindNumber", "()I"⟩
abbrev cX3_wants : ByteArray := prog_5_method_3_code
def yX3_wants : MethodName := ⟨RX3, "wants", "(I)I"⟩
abbrev cX3_lowMark : ByteArray := prog_5_method_4_code
def yX3_lowMark : MethodName := ⟨RX3, "lowMark", "()I"⟩
abbrev cX3_pairWants : ByteArray := prog_5_method_5_code
def yX3_pairWants : MethodName := ⟨RX3, "pairWants", "(III)I"⟩
def RX4 : String := "SendForMore$Planner"
def TX4 : u_T := fun k => match k with
  | 0 => ("SendForMore$Planner", "shop", "LSendForMore$Shop;", true)
  | 1 => ("SendForMore$Planner", "now", "[J", false)
  | 2 => ("SendForMore$Planner", "later", "[J", false)
  | 3 => ("SendForMore$Planner", "rows", "J", false)
  | 4 => ("SendForMore$Planner", "laterRows", "J", false)
  | 5 => ("SendForMore$Planner", "least", "J", false)
  | _ => ("SendForMore$Planner", "chosen", "I", false)
def tyX4 : Nat → FieldType := fun k => match k with
  | 0 => .object "SendForMore$Shop"
  | 1 => .array .long
  | 2 => .array .long
  | 3 => .long
  | 4 => .long
  | 5 => .long
  | _ => .int
theorem nmX4 : ∀ a, a < 7 → ∀ b, b < 7 → a ≠ b → (TX4 a).2.1 ≠ (TX4 b).2.1 := by decide +kernel
theorem tyX4_ok : ∀ k, k < 7 → parseFieldDescriptor (TX4 k).2.2.1 = some (tyX4 k) := by decide +kernel
abbrev cX4_init : ByteArray := prog_6_method_1_code
def yX4_init : MethodName := ⟨RX4, "<init>", "(LSendForMore$Shop;)V"⟩
abbrev cX4_plan : ByteArray := prog_6_method_2_code
def yX4_plan : MethodName := ⟨RX4, "plan", "(LSendForMore$Book;II)V"⟩
abbrev cX4_turnTo : ByteArray := prog_6_method_3_code
def yX4_turnTo : MethodName := ⟨RX4, "turnTo", "(LSendForMore$Book;I)V"⟩
abbrev cX4_usefulOrder : ByteArray := prog_6_method_4_code
def yX4_usefulOrder : MethodName := ⟨RX4, "usefulOrder", "(II)I"⟩
abbrev cX4_planDay : ByteArray := prog_6_method_5_code
def yX4_planDay : MethodName := ⟨RX4, "planDay", "(LSendForMore$Book;I)V"⟩
abbrev cX4_choose : ByteArray := prog_6_method_6_code
def yX4_choose : MethodName := ⟨RX4, "choose", "(LSendForMore$Book;III)V"⟩
abbrev cX4_priceOf : ByteArray := prog_6_method_7_code
def yX4_priceOf : MethodName := ⟨RX4, "priceOf", "(LSendForMore$Book;III)J"⟩
abbrev cX4_laterAt : ByteArray := prog_6_method_8_code
def yX4_laterAt : MethodName := ⟨RX4, "laterAt", "(I)J"⟩
abbrev cX4_placeOf : ByteArray := prog_6_method_9_code
def yX4_placeOf : MethodName := ⟨RX4, "placeOf", "(II)I"⟩
def RX5 : String := "SendForMore$Rule"
def TX5 : u_T := fun k => match k with
  | _ => ("", "", "", false)
def tyX5 : Nat → FieldType := fun k => match k with
  | _ => .int
theorem nmX5 : ∀ a, a < 0 → ∀ b, b < 0 → a ≠ b → (TX5 a).2.1 ≠ (TX5 b).2.1 := by decide +kernel
theorem tyX5_ok : ∀ k, k < 0 → parseFieldDescriptor (TX5 k).2.2.1 = some (tyX5 k) := by decide +kernel
abbrev cX5_init : ByteArray := prog_7_method_1_code
def yX5_init : MethodName := ⟨RX5, "<init>", "()V"⟩
abbrev cX5_topMark : ByteArray := prog_7_method_4_code
def yX5_topMark : MethodName := ⟨RX5, "topMark", "()I"⟩
abbrev cX5_lowMark : ByteArray := prog_7_method_5_code
def yX5_lowMark : MethodName := ⟨RX5, "lowMark", "()I"⟩
abbrev cX5_lotSize : ByteArray := prog_7_method_6_code
def yX5_lotSize : MethodName := ⟨RX5, "lotSize", "()I"⟩
abbrev cX5_tableSize : ByteArray := prog_7_method_7_code
def yX5_tableSize : MethodName := ⟨RX5, "tableSize", "()I"⟩
def RX6 : String := "SendForMore$Shop"
def TX6 : u_T := fun k => match k with
  | 0 => ("SendForMore$Shop", "most", "I", false)
  | 1 => ("SendForMore$Shop", "lead", "I", false)
  | 2 => ("SendForMore$Shop", "owed", "Z", false)
  | 3 => ("SendForMore$Shop", "perOrder", "I", false)
  | 4 => ("SendForMore$Shop", "perPiece", "I", false)
  | 5 => ("SendForMore$Shop", "perLeft", "I", false)
  | 6 => ("SendForMore$Shop", "perLacking", "I", false)
  | 7 => ("SendForMore$Shop", "prices", "[I", true)
  | 8 => ("SendForMore$Shop", "met", "[I", true)
  | _ => ("SendForMore$Shop", "inHand", "[I", true)
def tyX6 : Nat → FieldType := fun k => match k with
  | 0 => .int
  | 1 => .int
  | 2 => .boolean
  | 3 => .int
  | 4 => .int
  | 5 => .int
  | 6 => .int
  | 7 => .array .int
  | 8 => .array .int
  | _ => .array .int
theorem nmX6 : ∀ a, a < 10 → ∀ b, b < 10 → a ≠ b → (TX6 a).2.1 ≠ (TX6 b).2.1 := by decide +kernel
theorem tyX6_ok : ∀ k, k < 10 → parseFieldDescriptor (TX6 k).2.2.1 = some (tyX6 k) := by decide +kernel
abbrev cX6_init : ByteArray := prog_8_method_1_code
def yX6_init : MethodName := ⟨RX6, "<init>", "()V"⟩
abbrev cX6_floor : ByteArray := prog_8_method_2_code
def yX6_floor : MethodName := ⟨RX6, "floor", "()I"⟩
abbrev cX6_filled : ByteArray := prog_8_method_3_code
def yX6_filled : MethodName := ⟨RX6, "filled", "(II)I"⟩
abbrev cX6_leftOf : ByteArray := prog_8_method_4_code
def yX6_leftOf : MethodName := ⟨RX6, "leftOf", "(II)I"⟩
abbrev cX6_orderPrice : ByteArray := prog_8_method_5_code
def yX6_orderPrice : MethodName := ⟨RX6, "orderPrice", "(I)I"⟩
abbrev cX6_reckon : ByteArray := prog_8_method_6_code
def yX6_reckon : MethodName := ⟨RX6, "reckon", "(LSendForMore$Book;)V"⟩
abbrev cX6_reckonDemand : ByteArray := prog_8_method_7_code
def yX6_reckonDemand : MethodName := ⟨RX6, "reckonDemand", "(III)V"⟩
abbrev cX6_priceFrom : ByteArray := prog_8_method_8_code
def yX6_priceFrom : MethodName := ⟨RX6, "priceFrom", "(I)I"⟩
abbrev cX6_metFrom : ByteArray := prog_8_method_9_code
def yX6_metFrom : MethodName := ⟨RX6, "metFrom", "(I)I"⟩
abbrev cX6_inHandFrom : ByteArray := prog_8_method_10_code
def yX6_inHandFrom : MethodName := ⟨RX6, "inHandFrom", "(I)I"⟩
abbrev cX6_isHand : ByteArray := prog_8_method_11_code
def yX6_isHand : MethodName := ⟨RX6, "isHand", "(I)Z"⟩
def RX7 : String := "SendForMore$Spoiling"
def TX7 : u_T := fun k => match k with
  | 0 => ("SendForMore$Spoiling", "spread", "LSendForMore$Spread;", true)
  | 1 => ("SendForMore$Spoiling", "pieces", "[I", true)
  | 2 => ("SendForMore$Spoiling", "upTo", "I", false)
  | 3 => ("SendForMore$Spoiling", "age", "I", false)
  | 4 => ("SendForMore$Spoiling", "newestFirst", "Z", false)
  | _ => ("SendForMore$Spoiling", "spoiled", "J", false)
def tyX7 : Nat → FieldType := fun k => match k with
  | 0 => .object "SendForMore$Spread"
  | 1 => .array .int
  | 2 => .int
  | 3 => .int
  | 4 => .boolean
  | _ => .long
theorem nmX7 : ∀ a, a < 6 → ∀ b, b < 6 → a ≠ b → (TX7 a).2.1 ≠ (TX7 b).2.1 := by decide +kernel
theorem tyX7_ok : ∀ k, k < 6 → parseFieldDescriptor (TX7 k).2.2.1 = some (tyX7 k) := by decide +kernel
abbrev cX7_init : ByteArray := prog_9_method_1_code
def yX7_init : MethodName := ⟨RX7, "<init>", "(LSendForMore$Spread;)V"⟩
abbrev cX7_begin : ByteArray := prog_9_method_2_code
def yX7_begin : MethodName := ⟨RX7, "begin", "(IIZ)V"⟩
abbrev cX7_follow : ByteArray := prog_9_method_3_code
def yX7_follow : MethodName := ⟨RX7, "follow", "(LSendForMore$Book;I)J"⟩
abbrev cX7_passFrom : ByteArray := prog_9_method_4_code
def yX7_passFrom : MethodName := ⟨RX7, "passFrom", "(ILSendForMore$Book;)V"⟩
abbrev cX7_give : ByteArray := prog_9_method_5_code
def yX7_give : MethodName := ⟨RX7, "give", "(I)V"⟩
def RX8 : String := "SendForMore$Spread"
def TX8 : u_T := fun k => match k with
  | 0 => ("SendForMore$Spread", "weights", "[J", false)
  | 1 => ("SendForMore$Spread", "nextWeights", "[J", false)
  | 2 => ("SendForMore$Spread", "places", "[I", false)
  | 3 => ("SendForMore$Spread", "nextPlaces", "[I", false)
  | 4 => ("SendForMore$Spread", "size", "I", false)
  | _ => ("SendForMore$Spread", "nextSize", "I", false)
def tyX8 : Nat → FieldType := fun k => match k with
  | 0 => .array .long
  | 1 => .array .long
  | 2 => .array .int
  | 3 => .array .int
  | 4 => .int
  | _ => .int
theorem nmX8 : ∀ a, a < 6 → ∀ b, b < 6 → a ≠ b → (TX8 a).2.1 ≠ (TX8 b).2.1 := by decide +kernel
theorem tyX8_ok : ∀ k, k < 6 → parseFieldDescriptor (TX8 k).2.2.1 = some (tyX8 k) := by decide +kernel
abbrev cX8_init : ByteArray := prog_10_method_1_code
def yX8_init : MethodName := ⟨RX8, "<init>", "()V"⟩
abbrev cX8_startAt : ByteArray := prog_10_method_2_code
def yX8_startAt : MethodName := ⟨RX8, "startAt", "(I)V"⟩
abbrev cX8_add : ByteArray := prog_10_method_3_code
def yX8_add : MethodName := ⟨RX8, "add", "(IJ)V"⟩
abbrev cX8_turnToTomorrow : ByteArray := prog_10_method_4_code
def yX8_turnToTomorrow : MethodName := ⟨RX8, "turnToTomorrow", "()V"⟩
abbrev cX8_places : ByteArray := prog_10_method_5_code
def yX8_places : MethodName := ⟨RX8, "places", "()I"⟩
abbrev cX8_placeAt : ByteArray := prog_10_method_6_code
def yX8_placeAt : MethodName := ⟨RX8, "placeAt", "(I)I"⟩
abbrev cX8_weightAt : ByteArray := prog_10_method_7_code
def yX8_weightAt : MethodName := ⟨RX8, "weightAt", "(I)J"⟩
abbrev cX8_weightOfAll : ByteArray := prog_10_method_8_code
def yX8_weightOfAll : MethodName := ⟨RX8, "weightOfAll", "()J"⟩
abbrev cX8_isPlace : ByteArray := prog_10_method_9_code
def yX8_isPlace : MethodName := ⟨RX8, "isPlace", "(I)Z"⟩
def RX9 : String := "SendForMore$Table"
def TX9 : u_T := fun k => match k with
  | _ => ("SendForMore$Table", "bytes", "[B", true)
def tyX9 : Nat → FieldType := fun k => match k with
  | _ => .array .byte
theorem nmX9 : ∀ a, a < 1 → ∀ b, b < 1 → a ≠ b → (TX9 a).2.1 ≠ (TX9 b).2.1 := by decide +kernel
theorem tyX9_ok : ∀ k, k < 1 → parseFieldDescriptor (TX9 k).2.2.1 = some (tyX9 k) := by decide +kernel
abbrev cX9_init : ByteArray := prog_11_method_1_code
def yX9_init : MethodName := ⟨RX9, "<init>", "([BI)V"⟩
abbrev cX9_kindNumber : ByteArray := prog_11_method_2_code
def yX9_kindNumber : MethodName := ⟨RX9, "kindNumber", "()I"⟩
abbrev cX9_wants : ByteArray := prog_11_method_3_code
def yX9_wants : MethodName := ⟨RX9, "wants", "(I)I"⟩
abbrev cX9_tableSize : ByteArray := prog_11_method_4_code
def yX9_tableSize : MethodName := ⟨RX9, "tableSize", "()I"⟩
def RX10 : String := "SendForMore$Walk"
def TX10 : u_T := fun k => match k with
  | 0 => ("SendForMore$Walk", "shop", "LSendForMore$Shop;", true)
  | 1 => ("SendForMore$Walk", "spread", "LSendForMore$Spread;", true)
  | 2 => ("SendForMore$Walk", "orders", "[I", true)
  | 3 => ("SendForMore$Walk", "reached", "[Z", true)
  | 4 => ("SendForMore$Walk", "unbroken", "Z", false)
  | 5 => ("SendForMore$Walk", "spent", "J", false)
  | 6 => ("SendForMore$Walk", "met", "J", false)
  | _ => ("SendForMore$Walk", "eveningsInHand", "J", false)
def tyX10 : Nat → FieldType := fun k => match k with
  | 0 => .object "SendForMore$Shop"
  | 1 => .object "SendForMore$Spread"
  | 2 => .array .int
  | 3 => .array .boolean
  | 4 => .boolean
  | 5 => .long
  | 6 => .long
  | _ => .long
theorem nmX10 : ∀ a, a < 8 → ∀ b, b < 8 → a ≠ b → (TX10 a).2.1 ≠ (TX10 b).2.1 := by decide +kernel
theorem tyX10_ok : ∀ k, k < 8 → parseFieldDescriptor (TX10 k).2.2.1 = some (tyX10 k) := by decide +kernel
abbrev cX10_init : ByteArray := prog_12_method_1_code
def yX10_init : MethodName := ⟨RX10, "<init>", "(LSendForMore$Shop;LSendForMore$Spread;)V"⟩
abbrev cX10_useRule : ByteArray := prog_12_method_2_code
def yX10_useRule : MethodName := ⟨RX10, "useRule", "(LSendForMore$Rule;)V"⟩
abbrev cX10_usePair : ByteArray := prog_12_method_3_code
def yX10_usePair : MethodName := ⟨RX10, "usePair", "(II)V"⟩
abbrev cX10_hasReached : ByteArray := prog_12_method_4_code
def yX10_hasReached : MethodName := ⟨RX10, "hasReached", "(I)Z"⟩
abbrev cX10_follow : ByteArray := prog_12_method_5_code
def yX10_follow : MethodName := ⟨RX10, "follow", "(LSendForMore$Book;IIJ)J"⟩
abbrev cX10_followUnbroken : ByteArray := prog_12_method_6_code
def yX10_followUnbroken : MethodName := ⟨RX10, "followUnbroken", "(LSendForMore$Book;II)J"⟩
abbrev cX10_begin : ByteArray := prog_12_method_7_code
def yX10_begin : MethodName := ⟨RX10, "begin", "(I)V"⟩
abbrev cX10_passDay : ByteArray := prog_12_method_8_code
def yX10_passDay : MethodName := ⟨RX10, "passDay", "(LSendForMore$Book;)V"⟩
abbrev cX10_passFrom : ByteArray := prog_12_method_9_code
def yX10_passFrom : MethodName := ⟨RX10, "passFrom", "(ILSendForMore$Book;I)V"⟩
abbrev cX10_orderAt : ByteArray := prog_12_method_10_code
def yX10_orderAt : MethodName := ⟨RX10, "orderAt", "(I)I"⟩
abbrev cX10_placeOf : ByteArray := prog_12_method_11_code
def yX10_placeOf : MethodName := ⟨RX10, "placeOf", "(II)I"⟩
def RX11 : String := "SendForMore"
def TX11 : u_T := fun k => match k with
  | 0 => ("SendForMore", "books", "[LSendForMore$Book;", true)
  | 1 => ("SendForMore", "sheetBytes", "[[B", true)
  | 2 => ("SendForMore", "sheetSizes", "[I", true)
  | 3 => ("SendForMore", "rules", "[LSendForMore$Rule;", true)
  | 4 => ("SendForMore", "rulesEver", "I", false)
  | 5 => ("SendForMore", "shop", "LSendForMore$Shop;", true)
  | 6 => ("SendForMore", "walk", "LSendForMore$Walk;", true)
  | 7 => ("SendForMore", "planner", "LSendForMore$Planner;", true)
  | 8 => ("SendForMore", "spoiling", "LSendForMore$Spoiling;", true)
  | 9 => ("SendForMore", "pairKnown", "Z", false)
  | 10 => ("SendForMore", "pairLow", "I", false)
  | 11 => ("SendForMore", "pairTop", "I", false)
  | 12 => ("SendForMore", "seen", "[I", true)
  | 13 => ("SendForMore", "seenCount", "I", false)
  | 14 => ("SendForMore", "upperNumber", "J", false)
  | 15 => ("SendForMore", "lowerNumber", "J", false)
  | 16 => ("SendForMore", "latestFinding", "I", false)
  | _ => ("SendForMore", "findingCounts", "[I", true)
def tyX11 : Nat → FieldType := fun k => match k with
  | 0 => .array (.object "SendForMore$Book")
  | 1 => .array (.array .byte)
  | 2 => .array .int
  | 3 => .array (.object "SendForMore$Rule")
  | 4 => .int
  | 5 => .object "SendForMore$Shop"
  | 6 => .object "SendForMore$Walk"
  | 7 => .object "SendForMore$Planner"
  | 8 => .object "SendForMore$Spoiling"
  | 9 => .boolean
  | 10 => .int
  | 11 => .int
  | 12 => .array .int
  | 13 => .int
  | 14 => .long
  | 15 => .long
  | 16 => .int
  | _ => .array .int
theorem nmX11 : ∀ a, a < 18 → ∀ b, b < 18 → a ≠ b → (TX11 a).2.1 ≠ (TX11 b).2.1 := by decide +kernel
theorem tyX11_ok : ∀ k, k < 18 → parseFieldDescriptor (TX11 k).2.2.1 = some (tyX11 k) := by decide +kernel
abbrev cX11_init : ByteArray := prog_1_method_1_code
def yX11_init : MethodName := ⟨RX11, "<init>", "()V"⟩
abbrev cX11_book : ByteArray := prog_1_method_2_code
def yX11_book : MethodName := ⟨RX11, "book", "(I)I"⟩
abbrev cX11_weigh : ByteArray := prog_1_method_3_code
def yX11_weigh : MethodName := ⟨RX11, "weigh", "(III)I"⟩
abbrev cX11_close : ByteArray := prog_1_method_4_code
def yX11_close : MethodName := ⟨RX11, "close", "(I)I"⟩
abbrev cX11_copy : ByteArray := prog_1_method_5_code
def yX11_copy : MethodName := ⟨RX11, "copy", "(IIIII)I"⟩
abbrev cX11_mean : ByteArray := prog_1_method_6_code
def yX11_mean : MethodName := ⟨RX11, "mean", "(I)I"⟩
abbrev cX11_sheet : ByteArray := prog_1_method_7_code
def yX11_sheet : MethodName := ⟨RX11, "sheet", "(II)I"⟩
abbrev cX11_lay : ByteArray := prog_1_method_8_code
def yX11_lay : MethodName := ⟨RX11, "lay", "(III)I"⟩
abbrev cX11_tear : ByteArray := prog_1_method_9_code
def yX11_tear : MethodName := ⟨RX11, "tear", "(I)I"⟩
abbrev cX11_table : ByteArray := prog_1_method_10_code
def yX11_table : MethodName := ⟨RX11, "table", "(I)I"⟩
abbrev cX11_rule : ByteArray := prog_1_method_11_code
def yX11_rule : MethodName := ⟨RX11, "rule", "(III)I"⟩
abbrev cX11_drop : ByteArray := prog_1_method_12_code
def yX11_drop : MethodName := ⟨RX11, "drop", "(I)I"⟩
abbrev cX11_told : ByteArray := prog_1_method_13_code
def yX11_told : MethodName := ⟨RX11, "told", "(II)I"⟩
abbrev cX11_mark : ByteArray := prog_1_method_14_code
def yX11_mark : MethodName := ⟨RX11, "mark", "(II)I"⟩
abbrev cX11_order : ByteArray := prog_1_method_15_code
def yX11_order : MethodName := ⟨RX11, "order", "(II)I"⟩
abbrev cX11_shop : ByteArray := prog_1_method_16_code
def yX11_shop : MethodName := ⟨RX11, "shop", "(IIZ)I"⟩
abbrev cX11_costs : ByteArray := prog_1_method_17_code
def yX11_costs : MethodName := ⟨RX11, "costs", "(IIII)I"⟩
abbrev cX11_cost : ByteArray := prog_1_method_18_code
def yX11_cost : MethodName := ⟨RX11, "cost", "(IIII)I"⟩
abbrev cX11_service : ByteArray := prog_1_method_19_code
def yX11_service : MethodName := ⟨RX11, "service", "(IIIII)I"⟩
abbrev cX11_best : ByteArray := prog_1_method_20_code
def yX11_best : MethodName := ⟨RX11, "best", "(III)I"⟩
abbrev cX11_bestPair : ByteArray := prog_1_method_21_code
def yX11_bestPair : MethodName := ⟨RX11, "bestPair", "(III)I"⟩
abbrev cX11_pairTold : ByteArray := prog_1_method_22_code
def yX11_pairTold : MethodName := ⟨RX11, "pairTold", "(I)I"⟩
abbrev cX11_spoilt : ByteArray := prog_1_method_23_code
def yX11_spoilt : MethodName := ⟨RX11, "spoilt", "(IIIIZ)I"⟩
abbrev cX11_see : ByteArray := prog_1_method_24_code
def yX11_see : MethodName := ⟨RX11, "see", "(I)I"⟩
abbrev cX11_forget : ByteArray := prog_1_method_25_code
def yX11_forget : MethodName := ⟨RX11, "forget", "()I"⟩
abbrev cX11_doubt : ByteArray := prog_1_method_26_code
def yX11_doubt : MethodName := ⟨RX11, "doubt", "(IIII)I"⟩
abbrev cX11_upper : ByteArray := prog_1_method_27_code
def yX11_upper : MethodName := ⟨RX11, "upper", "()J"⟩
abbrev cX11_lower : ByteArray := prog_1_method_28_code
def yX11_lower : MethodName := ⟨RX11, "lower", "()J"⟩
abbrev cX11_count : ByteArray := prog_1_method_29_code
def yX11_count : MethodName := ⟨RX11, "count", "(I)I"⟩
abbrev cX11_finding : ByteArray := prog_1_method_30_code
def yX11_finding : MethodName := ⟨RX11, "finding", "()I"⟩
abbrev cX11_findings : ByteArray := prog_1_method_31_code
def yX11_findings : MethodName := ⟨RX11, "findings", "(I)I"⟩
abbrev cX11_digest : ByteArray := prog_1_method_32_code
def yX11_digest : MethodName := ⟨RX11, "digest", "()J"⟩
abbrev cX11_isWithin : ByteArray := prog_1_method_33_code
def yX11_isWithin : MethodName := ⟨RX11, "isWithin", "(III)Z"⟩
abbrev cX11_isBook : ByteArray := prog_1_method_34_code
def yX11_isBook : MethodName := ⟨RX11, "isBook", "(I)Z"⟩
abbrev cX11_isDemand : ByteArray := prog_1_method_35_code
def yX11_isDemand : MethodName := ⟨RX11, "isDemand", "(I)Z"⟩
abbrev cX11_isSheet : ByteArray := prog_1_method_36_code
def yX11_isSheet : MethodName := ⟨RX11, "isSheet", "(I)Z"⟩
abbrev cX11_isPosition : ByteArray := prog_1_method_37_code
def yX11_isPosition : MethodName := ⟨RX11, "isPosition", "(I)Z"⟩
abbrev cX11_isPrice : ByteArray := prog_1_method_38_code
def yX11_isPrice : MethodName := ⟨RX11, "isPrice", "(I)Z"⟩
abbrev cX11_areDays : ByteArray := prog_1_method_39_code
def yX11_areDays : MethodName := ⟨RX11, "areDays", "(I)Z"⟩
abbrev cX11_isRule : ByteArray := prog_1_method_40_code
def yX11_isRule : MethodName := ⟨RX11, "isRule", "(I)Z"⟩
abbrev cX11_isRuleOf : ByteArray := prog_1_method_41_code
def yX11_isRuleOf : MethodName := ⟨RX11, "isRuleOf", "(III)Z"⟩
abbrev cX11_isStart : ByteArray := prog_1_method_42_code
def yX11_isStart : MethodName := ⟨RX11, "isStart", "(III)Z"⟩
abbrev cX11_isStretch : ByteArray := prog_1_method_43_code
def yX11_isStretch : MethodName := ⟨RX11, "isStretch", "(II)Z"⟩
abbrev cX11_refuse : ByteArray := prog_1_method_44_code
def yX11_refuse : MethodName := ⟨RX11, "refuse", "(I)I"⟩
abbrev cX11_lackOf : ByteArray := prog_1_method_45_code
def yX11_lackOf : MethodName := ⟨RX11, "lackOf", "(LSendForMore$Book;)I"⟩
abbrev cX11_lackOf_ : ByteArray := prog_1_method_46_code
def yX11_lackOf_ : MethodName := ⟨RX11, "lackOf", "(LSendForMore$Rule;LSendForMore$Book;)I"⟩
abbrev cX11_keep : ByteArray := prog_1_method_47_code
def yX11_keep : MethodName := ⟨RX11, "keep", "(LSendForMore$Rule;)I"⟩
abbrev cX11_tellOf : ByteArray := prog_1_method_48_code
def yX11_tellOf : MethodName := ⟨RX11, "tellOf", "(LSendForMore$Rule;I)I"⟩
abbrev cX11_cutOrder : ByteArray := prog_1_method_49_code
def yX11_cutOrder : MethodName := ⟨RX11, "cutOrder", "(I)I"⟩
abbrev cX11_rulesThere : ByteArray := prog_1_method_50_code
def yX11_rulesThere : MethodName := ⟨RX11, "rulesThere", "()I"⟩
abbrev cX11_seekPair : ByteArray := prog_1_method_51_code
def yX11_seekPair : MethodName := ⟨RX11, "seekPair", "(LSendForMore$Book;II)J"⟩
abbrev cX11_weightOfSeen : ByteArray := prog_1_method_52_code
def yX11_weightOfSeen : MethodName := ⟨RX11, "weightOfSeen", "(LSendForMore$Book;)J"⟩
abbrev cX11_rowsOf : ByteArray := prog_1_method_53_code
def yX11_rowsOf : MethodName := ⟨RX11, "rowsOf", "(LSendForMore$Book;I)J"⟩
abbrev cX11_tell : ByteArray := prog_1_method_54_code
def yX11_tell : MethodName := ⟨RX11, "tell", "(JJ)I"⟩
abbrev cX11_commonDivisor : ByteArray := prog_1_method_55_code
def yX11_commonDivisor : MethodName := ⟨RX11, "commonDivisor", "(JJ)J"⟩
abbrev cX11_digestBooks : ByteArray := prog_1_method_56_code
def yX11_digestBooks : MethodName := ⟨RX11, "digestBooks", "(J)J"⟩
abbrev cX11_digestRules : ByteArray := prog_1_method_57_code
def yX11_digestRules : MethodName := ⟨RX11, "digestRules", "(J)J"⟩
abbrev cX11_digestSheets : ByteArray := prog_1_method_58_code
def yX11_digestSheets : MethodName := ⟨RX11, "digestSheets", "(J)J"⟩
def RX12 : String := "SendForMoreModel"
def TX12 : u_T := fun k => match k with
  | 0 => ("SendForMoreModel", "latest", "I", false)
  | 1 => ("SendForMoreModel", "came", "[I", true)
  | 2 => ("SendForMoreModel", "upper", "J", false)
  | 3 => ("SendForMoreModel", "lower", "J", false)
  | 4 => ("SendForMoreModel", "isBook", "[Z", true)
  | 5 => ("SendForMoreModel", "weights", "[I", true)
  | 6 => ("SendForMoreModel", "copied", "[I", true)
  | 7 => ("SendForMoreModel", "sheetSize", "[I", true)
  | 8 => ("SendForMoreModel", "sheets", "[B", true)
  | 9 => ("SendForMoreModel", "rules", "I", false)
  | 10 => ("SendForMoreModel", "kindOf", "[I", true)
  | 11 => ("SendForMoreModel", "low", "[I", true)
  | 12 => ("SendForMoreModel", "high", "[I", true)
  | 13 => ("SendForMoreModel", "lots", "[I", true)
  | 14 => ("SendForMoreModel", "tableSize", "[I", true)
  | 15 => ("SendForMoreModel", "tables", "[B", true)
  | 16 => ("SendForMoreModel", "isGone", "[Z", true)
  | 17 => ("SendForMoreModel", "most", "I", false)
  | 18 => ("SendForMoreModel", "lead", "I", false)
  | 19 => ("SendForMoreModel", "isOwed", "Z", false)
  | 20 => ("SendForMoreModel", "costK", "I", false)
  | 21 => ("SendForMoreModel", "costC", "I", false)
  | 22 => ("SendForMoreModel", "costH", "I", false)
  | 23 => ("SendForMoreModel", "costB", "I", false)
  | 24 => ("SendForMoreModel", "nextX", "I", false)
  | 25 => ("SendForMoreModel", "nextOne", "I", false)
  | 26 => ("SendForMoreModel", "nextTwo", "I", false)
  | 27 => ("SendForMoreModel", "dayCost", "I", false)
  | 28 => ("SendForMoreModel", "met", "I", false)
  | 29 => ("SendForMoreModel", "lacks", "I", false)
  | 30 => ("SendForMoreModel", "states", "[I", true)
  | 31 => ("SendForMoreModel", "ways", "[J", true)
  | 32 => ("SendForMoreModel", "many", "I", false)
  | 33 => ("SendForMoreModel", "newStates", "[I", true)
  | 34 => ("SendForMoreModel", "newWays", "[J", true)
  | 35 => ("SendForMoreModel", "newMany", "I", false)
  | 36 => ("SendForMoreModel", "placeOf", "[I", true)
  | 37 => ("SendForMoreModel", "stampOf", "[I", true)
  | 38 => ("SendForMoreModel", "stamp", "I", false)
  | 39 => ("SendForMoreModel", "sumCost", "J", false)
  | 40 => ("SendForMoreModel", "sumMet", "J", false)
  | 41 => ("SendForMoreModel", "sumDemand", "J", false)
  | 42 => ("SendForMoreModel", "sumIn", "J", false)
  | 43 => ("SendForMoreModel", "sumWays", "J", false)
  | 44 => ("SendForMoreModel", "all", "J", false)
  | 45 => ("SendForMoreModel", "best", "[J", true)
  | 46 => ("SendForMoreModel", "bestNew", "[J", true)
  | 47 => ("SendForMoreModel", "bestOrder", "I", false)
  | 48 => ("SendForMoreModel", "pairLow", "I", false)
  | 49 => ("SendForMoreModel", "pairHigh", "I", false)
  | 50 => ("SendForMoreModel", "triedLow", "I", false)
  | 51 => ("SendForMoreModel", "triedHigh", "I", false)
  | 52 => ("SendForMoreModel", "first", "I", false)
  | 53 => ("SendForMoreModel", "second", "I", false)
  | 54 => ("SendForMoreModel", "third", "I", false)
  | 55 => ("SendForMoreModel", "seen", "I", false)
  | _ => ("SendForMoreModel", "demandsSeen", "[I", true)
def tyX12 : Nat → FieldType := fun k => match k with
  | 0 => .int
  | 1 => .array .int
  | 2 => .long
  | 3 => .long
  | 4 => .array .boolean
  | 5 => .array .int
  | 6 => .array .int
  | 7 => .array .int
  | 8 => .array .byte
  | 9 => .int
  | 10 => .array .int
  | 11 => .array .int
  | 12 => .array .int
  | 13 => .array .int
  | 14 => .array .int
  | 15 => .array .byte
  | 16 => .array .boolean
  | 17 => .int
  | 18 => .int
  | 19 => .boolean
  | 20 => .int
  | 21 => .int
  | 22 => .int
  | 23 => .int
  | 24 => .int
  | 25 => .int
  | 26 => .int
  | 27 => .int
  | 28 => .int
  | 29 => .int
  | 30 => .array .int
  | 31 => .array .long
  | 32 => .int
  | 33 => .array .int
  | 34 => .array .long
  | 35 => .int
  | 36 => .array .int
  | 37 => .array .int
  | 38 => .int
  | 39 => .long
  | 40 => .long
  | 41 => .long
  | 42 => .long
  | 43 => .long
  | 44 => .long
  | 45 => .array .long
  | 46 => .array .long
  | 47 => .int
  | 48 => .int
  | 49 => .int
  | 50 => .int
  | 51 => .int
  | 52 => .int
  | 53 => .int
  | 54 => .int
  | 55 => .int
  | _ => .array .int
theorem nmX12 : ∀ a, a < 57 → ∀ b, b < 57 → a ≠ b → (TX12 a).2.1 ≠ (TX12 b).2.1 := by decide +kernel
theorem tyX12_ok : ∀ k, k < 57 → parseFieldDescriptor (TX12 k).2.2.1 = some (tyX12 k) := by decide +kernel
abbrev cX12_init : ByteArray := prog_14_method_1_code
def yX12_init : MethodName := ⟨RX12, "<init>", "()V"⟩
abbrev cX12_in : ByteArray := prog_14_method_2_code
def yX12_in : MethodName := ⟨RX12, "in", "(III)Z"⟩
abbrev cX12_meets : ByteArray := prog_14_method_3_code
def yX12_meets : MethodName := ⟨RX12, "meets", "(I)I"⟩
abbrev cX12_finding : ByteArray := prog_14_method_4_code
def yX12_finding : MethodName := ⟨RX12, "finding", "()I"⟩
abbrev cX12_findings : ByteArray := prog_14_method_5_code
def yX12_findings : MethodName := ⟨RX12, "findings", "(I)I"⟩
abbrev cX12_gcd : ByteArray := prog_14_method_6_code
def yX12_gcd : MethodName := ⟨RX12, "gcd", "(JJ)J"⟩
abbrev cX12_tells : ByteArray := prog_14_method_7_code
def yX12_tells : MethodName := ⟨RX12, "tells", "(JJI)I"⟩
abbrev cX12_upper : ByteArray := prog_14_method_8_code
def yX12_upper : MethodName := ⟨RX12, "upper", "()J"⟩
abbrev cX12_lower : ByteArray := prog_14_method_9_code
def yX12_lower : MethodName := ⟨RX12, "lower", "()J"⟩
abbrev cX12_isPlace : ByteArray := prog_14_method_10_code
def yX12_isPlace : MethodName := ⟨RX12, "isPlace", "(I)Z"⟩
abbrev cX12_book : ByteArray := prog_14_method_11_code
def yX12_book : MethodName := ⟨RX12, "book", "(I)I"⟩
abbrev cX12_weigh : ByteArray := prog_14_method_12_code
def yX12_weigh : MethodName := ⟨RX12, "weigh", "(III)I"⟩
abbrev cX12_close : ByteArray := prog_14_method_13_code
def yX12_close : MethodName := ⟨RX12, "close", "(I)I"⟩
abbrev cX12_copy : ByteArray := prog_14_method_14_code
def yX12_copy : MethodName := ⟨RX12, "copy", "(IIIII)I"⟩
abbrev cX12_allOf : ByteArray := prog_14_method_15_code
def yX12_allOf : MethodName := ⟨RX12, "allOf", "(I)I"⟩
abbrev cX12_mean : ByteArray := prog_14_method_16_code
def yX12_mean : MethodName := ⟨RX12, "mean", "(I)I"⟩
abbrev cX12_sheet : ByteArray := prog_14_method_17_code
def yX12_sheet : MethodName := ⟨RX12, "sheet", "(II)I"⟩
abbrev cX12_lay : ByteArray := prog_14_method_18_code
def yX12_lay : MethodName := ⟨RX12, "lay", "(III)I"⟩
abbrev cX12_tear : ByteArray := prog_14_method_19_code
def yX12_tear : MethodName := ⟨RX12, "tear", "(I)I"⟩
abbrev cX12_add : ByteArray := prog_14_method_20_code
def yX12_add : MethodName := ⟨RX12, "add", "(IIIII)I"⟩
abbrev cX12_table : ByteArray := prog_14_method_21_code
def yX12_table : MethodName := ⟨RX12, "table", "(I)I"⟩
abbrev cX12_rule : ByteArray := prog_14_method_22_code
def yX12_rule : MethodName := ⟨RX12, "rule", "(III)I"⟩
abbrev cX12_isRule : ByteArray := prog_14_method_23_code
def yX12_isRule : MethodName := ⟨RX12, "isRule", "(I)Z"⟩
abbrev cX12_need : ByteArray := prog_14_method_24_code
def yX12_need : MethodName := ⟨RX12, "need", "(ZI)I"⟩
abbrev cX12_drop : ByteArray := prog_14_method_25_code
def yX12_drop : MethodName := ⟨RX12, "drop", "(I)I"⟩
abbrev cX12_toldOf : ByteArray := prog_14_method_26_code
def yX12_toldOf : MethodName := ⟨RX12, "toldOf", "(II)I"⟩
abbrev cX12_told : ByteArray := prog_14_method_27_code
def yX12_told : MethodName := ⟨RX12, "told", "(II)I"⟩
abbrev cX12_mark : ByteArray := prog_14_method_28_code
def yX12_mark : MethodName := ⟨RX12, "mark", "(II)I"⟩
abbrev cX12_orders : ByteArray := prog_14_method_29_code
def yX12_orders : MethodName := ⟨RX12, "orders", "(II)I"⟩
abbrev cX12_order : ByteArray := prog_14_method_30_code
def yX12_order : MethodName := ⟨RX12, "order", "(II)I"⟩
abbrev cX12_shop : ByteArray := prog_14_method_31_code
def yX12_shop : MethodName := ⟨RX12, "shop", "(IIZ)I"⟩
abbrev cX12_costs : ByteArray := prog_14_method_32_code
def yX12_costs : MethodName := ⟨RX12, "costs", "(IIII)I"⟩
abbrev cX12_day : ByteArray := prog_14_method_33_code
def yX12_day : MethodName := ⟨RX12, "day", "(IIIII)V"⟩
abbrev cX12_put : ByteArray := prog_14_method_34_code
def yX12_put : MethodName := ⟨RX12, "put", "(IJ)V"⟩
abbrev cX12_stateOf : ByteArray := prog_14_method_35_code
def yX12_stateOf : MethodName := ⟨RX12, "stateOf", "(III)I"⟩
abbrev cX12_goThrough : ByteArray := prog_14_method_36_code
def yX12_goThrough : MethodName := ⟨RX12, "goThrough", "(IIIIZ)V"⟩
abbrev cX12_goOn : ByteArray := prog_14_method_37_code
def yX12_goOn : MethodName := ⟨RX12, "goOn", "(IIIZ)V"⟩
abbrev cX12_isStart : ByteArray := prog_14_method_38_code
def yX12_isStart : MethodName := ⟨RX12, "isStart", "(II)Z"⟩
abbrev cX12_needBook : ByteArray := prog_14_method_39_code
def yX12_needBook : MethodName := ⟨RX12, "needBook", "(I)I"⟩
abbrev cX12_needBoth : ByteArray := prog_14_method_40_code
def yX12_needBoth : MethodName := ⟨RX12, "needBoth", "(ZIIII)I"⟩
abbrev cX12_cost : ByteArray := prog_14_method_41_code
def yX12_cost : MethodName := ⟨RX12, "cost", "(IIII)I"⟩
abbrev cX12_service : ByteArray := prog_14_method_42_code
def yX12_service : MethodName := ⟨RX12, "service", "(IIIII)I"⟩
abbrev cX12_leastFrom : ByteArray := prog_14_method_43_code
def yX12_leastFrom : MethodName := ⟨RX12, "leastFrom", "(IIIIJ)J"⟩
abbrev cX12_best : ByteArray := prog_14_method_44_code
def yX12_best : MethodName := ⟨RX12, "best", "(III)I"⟩
abbrev cX12_bestPair : ByteArray := prog_14_method_45_code
def yX12_bestPair : MethodName := ⟨RX12, "bestPair", "(III)I"⟩
abbrev cX12_goThroughPair : ByteArray := prog_14_method_46_code
def yX12_goThroughPair : MethodName := ⟨RX12, "goThroughPair", "(III)V"⟩
abbrev cX12_pairTold : ByteArray := prog_14_method_47_code
def yX12_pairTold : MethodName := ⟨RX12, "pairTold", "(I)I"⟩
abbrev cX12_give : ByteArray := prog_14_method_48_code
def yX12_give : MethodName := ⟨RX12, "give", "(IZ)V"⟩
abbrev cX12_spoilt : ByteArray := prog_14_method_49_code
def yX12_spoilt : MethodName := ⟨RX12, "spoilt", "(IIIIZ)I"⟩
abbrev cX12_see : ByteArray := prog_14_method_50_code
def yX12_see : MethodName := ⟨RX12, "see", "(I)I"⟩
abbrev cX12_forget : ByteArray := prog_14_method_51_code
def yX12_forget : MethodName := ⟨RX12, "forget", "()I"⟩
abbrev cX12_doubt : ByteArray := prog_14_method_52_code
def yX12_doubt : MethodName := ⟨RX12, "doubt", "(IIII)I"⟩
abbrev cX12_count : ByteArray := prog_14_method_53_code
def yX12_count : MethodName := ⟨RX12, "count", "(I)I"⟩
abbrev cX12_digest : ByteArray := prog_14_method_54_code
def yX12_digest : MethodName := ⟨RX12, "digest", "()J"⟩
def RJ9 : String := "java/lang/Math"
def TJ9 : u_T := fun k => match k with
  | _ => ("", "", "", false)
def tyJ9 : Nat → FieldType := fun k => match k with
  | _ => .int
theorem nmJ9 : ∀ a, a < 0 → ∀ b, b < 0 → a ≠ b → (TJ9 a).2.1 ≠ (TJ9 b).2.1 := by decide +kernel
theorem tyJ9_ok : ∀ k, k < 0 → parseFieldDescriptor (TJ9 k).2.2.1 = some (tyJ9 k) := by decide +kernel
abbrev cJ9_max_7cf53 : ByteArray := prog_15_method_65_code
def yJ9_max_7cf53 : MethodName := ⟨RJ9, "max", "(II)I"⟩
abbrev cJ9_min_7cf53 : ByteArray := prog_15_method_69_code
def yJ9_min_7cf53 : MethodName := ⟨RJ9, "min", "(II)I"⟩
def RJ10 : String := "java/lang/System"
def TJ10 : u_T := fun k => match k with
  | _ => ("", "", "", false)
def tyJ10 : Nat → FieldType := fun k => match k with
  | _ => .int
theorem nmJ10 : ∀ a, a < 0 → ∀ b, b < 0 → a ≠ b → (TJ10 a).2.1 ≠ (TJ10 b).2.1 := by decide +kernel
theorem tyJ10_ok : ∀ k, k < 0 → parseFieldDescriptor (TJ10 k).2.2.1 = some (tyJ10 k) := by decide +kernel
def RL : String := "SendForMoreLaw"
abbrev cL_law : ByteArray := code
def yL_law : MethodName := ⟨RL, "law", "([I)Z"⟩
/-- the classes of the world, by number (5, the abstract Rule, has no objects: its place is held by another) -/
abbrev classes : List vw_C := [(RX0, TX0, 1), (RX1, TX1, 2), (RX2, TX2, 2), (RX3, TX3, 2), (RX4, TX4, 7), (RX1, TX1, 2), (RX6, TX6, 10), (RX7, TX7, 6), (RX8, TX8, 6), (RX9, TX9, 1), (RX10, TX10, 8), (RX11, TX11, 18), (RX12, TX12, 57)]
def tyC : Nat → Nat → FieldType := fun c => match c with
  | 0 => tyX0 | 1 => tyX1 | 2 => tyX2 | 3 => tyX3 | 4 => tyX4 | 5 => tyX5 | 6 => tyX6 | 7 => tyX7 | 8 => tyX8 | 9 => tyX9 | 10 => tyX10 | 11 => tyX11 | _ => tyX12
/-- the array classes of the world, by number -/
def tyA : Nat → FieldType := fun k => match k with
  | 0 => .int | 1 => .long | 2 => .boolean | 3 => .byte | 4 => .object "SendForMore$Book" | 5 => .object "SendForMore$Rule" | _ => .array .byte
end
section
/-! A memory as a value: size, the kind of each cell, the length of each array, ints, longs, references. Kinds: 0 .. 12 an object of that class, 20 + k an array of tyA k, anything else: not ours. -/
abbrev Me : Type := Nat × (Nat → Nat) × (Nat → Nat) × (Nat → Nat → Int32) × (Nat → Nat → Int64) × (Nat → Nat → Option Nat)
def gz (σ : Me) : Nat := σ.1
def gT (σ : Me) (a : Nat) : Nat := σ.2.1 a
def gN (σ : Me) (a : Nat) : Nat := σ.2.2.1 a
def gI (σ : Me) (a k : Nat) : Int32 := σ.2.2.2.1 a k
def gL (σ : Me) (a k : Nat) : Int64 := σ.2.2.2.2.1 a k
def gP (σ : Me) (a k : Nat) : Option Nat := σ.2.2.2.2.2 a k
def up2 {α : Type} (f : Nat → Nat → α) (a k : Nat) (v : α) : Nat → Nat → α := fun b j => if b = a ∧ j = k then v else f b j
def sI (σ : Me) (a k : Nat) (v : Int32) : Me := (σ.1, σ.2.1, σ.2.2.1, up2 σ.2.2.2.1 a k v, σ.2.2.2.2.1, σ.2.2.2.2.2)
def sL (σ : Me) (a k : Nat) (v : Int64) : Me := (σ.1, σ.2.1, σ.2.2.1, σ.2.2.2.1, up2 σ.2.2.2.2.1 a k v, σ.2.2.2.2.2)
def sP (σ : Me) (a k : Nat) (v : Option Nat) : Me := (σ.1, σ.2.1, σ.2.2.1, σ.2.2.2.1, σ.2.2.2.2.1, up2 σ.2.2.2.2.2 a k v)
/-- a new cell of kind t, of length n (an array), all 0 -/
def nw (σ : Me) (t n : Nat) : Me := (σ.1 + 1, va_up σ.2.1 σ.1 t, va_up σ.2.2.1 σ.1 n, va_up σ.2.2.2.1 σ.1 (fun _ => 0), va_up σ.2.2.2.2.1 σ.1 (fun _ => 0), va_up σ.2.2.2.2.2 σ.1 (fun _ => none))
def kd (t : FieldType) : Nat := match t with
  | .long => 1
  | .object _ => 2
  | .array _ => 2
  | .float => 3
  | .double => 3
  | _ => 0
def fv (κ : Nat) (σ : Me) (a k : Nat) : Value := match κ with
  | 0 => .int (gI σ a k)
  | 1 => .long (gL σ a k)
  | _ => va_rf (gP σ a k)
def cel (D : va_G) (cA : Nat → ClassId) (σ : Me) (q : Nat) (H : Heap) : Prop :=
  (gT σ q < 20 → ∃ r : vw_C, classes[gT σ q]? = some r ∧ t_OB q (D.1 (gT σ q)) r.2.2 (D.2 (gT σ q)) H (fun k => fv (kd (tyC (gT σ q) k)) σ q k)) ∧
  (20 ≤ gT σ q → H[q]? = some (arrV (cA (gT σ q - 20)) (gN σ q) (fun k => fv (kd (tyA (gT σ q - 20))) σ q k)))
def wd (D : va_G) (cA : Nat → ClassId) (z0 : Nat) (σ : Me) (H : Heap) : Prop := H.size = gz σ ∧ z0 ≤ gz σ ∧ ∀ q : Nat, gT σ q < 30 → z0 ≤ q ∧ q < gz σ ∧ cel D cA σ q H
theorem fv_same {κ : Nat} {σ σ' : Me} {q : Nat} (hI : ∀ j, gI σ' q j = gI σ q j) (hL : ∀ j, gL σ' q j = gL σ q j) (hP : ∀ j, gP σ' q j = gP σ q j) (k : Nat) : fv κ σ' q k = fv κ σ q k := by
  unfold fv
  rw [hI, hL, hP]
theorem cel_same {D : va_G} {cA : Nat → ClassId} {σ σ' : Me} {q : Nat} {H H' : Heap} (h : cel D cA σ q H) (hT : gT σ' q = gT σ q) (hN : gN σ' q = gN σ q) (hI : ∀ j, gI σ' q j = gI σ q j) (hL : ∀ j, gL σ' q j = gL σ q j) (hP : ∀ j, gP σ' q j = gP σ q j) (hq : H'[q]? = H[q]?) : cel D cA σ' q H' := by
  unfold cel at *
  rw [hT, hN]
  refine ⟨fun hc => ?_, fun hc => ?_⟩
  · obtain ⟨r, h1, h2⟩ := h.1 hc
    exact ⟨r, h1, (h2.kept hq).to fun k _ => (fv_same hI hL hP k).symm⟩
  · rw [hq, h.2 hc]
    congr 2
    funext k
    exact (fv_same hI hL hP k).symm
theorem up2_ne {α : Type} {f : Nat → Nat → α} {a k b j : Nat} {v : α} (h : b ≠ a) : up2 f a k v b j = f b j := by simp [up2, h]
theorem up2_nk {α : Type} {f : Nat → Nat → α} {a k b j : Nat} {v : α} (h : j ≠ k) : up2 f a k v b j = f b j := by simp [up2, h]
theorem up2_eq {α : Type} {f : Nat → Nat → α} {a k : Nat} {v : α} : up2 f a k v a k = v := by simp [up2]
/-- the words that go with a call, and those that are kept beside -/
def gTab : List Cond := lw_tbl.filter goodWord
theorem gTab_in {w : Cond} (i : Nat) (h : lw_tbl[i]? = some w) (hg : goodWord w = true) : w ∈ gTab := List.mem_filter.mpr ⟨List.mem_of_getElem? h, hg⟩
theorem gTab_good : GoodIn gTab gTab := fun w h => ⟨h, good_of_word (List.mem_filter.mp h).2⟩
theorem gTab_call {w : Cond} (h : w ∈ gTab) : GoodIn gTab (w :: gTab) := fun x hx => by
  rcases List.mem_cons.mp hx with rfl | hx
  · exact gTab_good _ h
  · exact gTab_good _ hx
def nestW : List Cond := [.methodLinkNest "SendForMore" 32 yX6_init "SendForMore", .methodLinkNest "SendForMore" 50 yX1_init "SendForMore", .methodLinkNest "SendForMore" 53 yX8_init "SendForMore", .methodLinkNest "SendForMore$Table" 3 yX5_init "SendForMore", .methodLinkNest "SendForMore$Base" 3 yX5_init "SendForMore", .methodLinkNest "SendForMore$Lot" 3 yX5_init "SendForMore", .methodLinkNest "SendForMore$Table" 30 yX11_isWithin "SendForMore", .methodLinkNest "SendForMore$Walk" 33 yX11_cutOrder "SendForMore", .methodLinkNest "SendForMore$Walk" 42 yX11_isPosition "SendForMore", .methodLinkNest "SendForMore$Walk" 62 yX11_rowsOf "SendForMore", .methodLinkNest "SendForMore$Planner" 39 yX11_rowsOf "SendForMore"]
def declW : List Cond := [.declares ⟨"SendForMore$Rule", "kindNumber", "()I"⟩, .declares ⟨"SendForMore$Rule", "wants", "(I)I"⟩]
def castW : List Cond := [.castable "SendForMore$Pair" "SendForMore$Base", .castable "SendForMore$Table" "SendForMore$Rule", .castable "SendForMore$Base" "SendForMore$Rule", .castable "SendForMore$Pair" "SendForMore$Rule", .castable "SendForMore$Lot" "SendForMore$Rule"]
def noCast : List (String × String) := [("SendForMore$Lot", "SendForMore$Base"), ("SendForMore$Table", "SendForMore$Base"), ("SendForMore$Base", "SendForMore$Pair"), ("SendForMore$Lot", "SendForMore$Pair"), ("SendForMore$Table", "SendForMore$Pair"), ("SendForMore$Base", "SendForMore$Lot"), ("SendForMore$Pair", "SendForMore$Lot"), ("SendForMore$Table", "SendForMore$Lot")]
abbrev tysL (cA : Nat → ClassId) : List (ClassId × FieldType) := [(cA 0, .int), (cA 1, .long), (cA 2, .boolean), (cA 3, .byte), (cA 4, .object "SendForMore$Book"), (cA 5, .object "SendForMore$Rule"), (cA 6, .array .byte)]
/-- what is known of the machine's tables, over and above the words -/
def KN (D : va_G) (cA : Nat → ClassId) (U : State) : Prop := va_K D classes (tysL cA) U ∧ (∀ w ∈ nestW, va_Nw w U) ∧ (∀ w ∈ declW, va_Nw w U) ∧ (∀ w ∈ castW, va_Nw w U) ∧ (∀ q ∈ noCast, va_Nc q.1 q.2 U) ∧ (∃ (cR : ClassId) (kR : Class), U.vm.findClass RX5 = some cR ∧ U.vm.classes[cR]? = some kR)
theorem KN.warm {D : va_G} {cA : Nat → ClassId} {s U : State} (hW : s.WarmedH U.vm) (h : KN D cA s) : KN D cA U := by
  obtain ⟨h1, h2, h3, h4, h5, cR, kR, h6, h7⟩ := h
  obtain ⟨kR', h7', -⟩ := hW.alike.2.2 _ _ h7
  refine ⟨va_K.moved hW.alike h1, ?_, ?_, ?_, fun q hq => va_Nc.moved hW.alike (h5 q hq), cR, kR', by rw [hW.alike.findClass]; exact h6, h7'⟩
  · unfold nestW at *
    simp only [List.forall_mem_cons] at h2 ⊢
    obtain ⟨a1, a2, a3, a4, a5, a6, a7, a8, a9, a10, a11, -⟩ := h2
    exact ⟨va_Nw.warmM hW a1, va_Nw.warmM hW a2, va_Nw.warmM hW a3, va_Nw.warmM hW a4, va_Nw.warmM hW a5, va_Nw.warmM hW a6, va_Nw.warmM hW a7, va_Nw.warmM hW a8, va_Nw.warmM hW a9, va_Nw.warmM hW a10, va_Nw.warmM hW a11, fun _ h => absurd h List.not_mem_nil⟩
  · unfold declW at *
    simp only [List.forall_mem_cons] at h3 ⊢
    obtain ⟨a1, a2, -⟩ := h3
    exact ⟨va_Nw.warmD hW a1, va_Nw.warmD hW a2, fun _ h => absurd h List.not_mem_nil⟩
  · unfold castW at *
    simp only [List.forall_mem_cons] at h4 ⊢
    obtain ⟨a1, a2, a3, a4, a5, -⟩ := h4
    exact ⟨va_Nw.warmC hW a1, va_Nw.warmC hW a2, va_Nw.warmC hW a3, va_Nw.warmC hW a4, va_Nw.warmC hW a5, fun _ h => absurd h List.not_mem_nil⟩
/-- a class of the world: its number, name, fields -/
def Cls (c0 : Nat) (C : String) (T : u_T) (N : Nat) : Prop := classes[c0]? = some (C, T, N) ∧ (∀ w ∈ u_ws C T N, w ∈ gTab) ∧ (∀ k, k < N → parseFieldDescriptor (T k).2.2.1 = some (tyC c0 k)) ∧ (∀ a, a < N → ∀ b, b < N → a ≠ b → (T a).2.1 ≠ (T b).2.1) ∧ c0 < 20
theorem gTab_sub {ws : List Cond} (h : ws.all (fun w => decide (w ∈ lw_tbl) && goodWord w) = true) : ∀ w ∈ ws, w ∈ gTab := by
  intro w hw
  have h1 := List.all_eq_true.mp h w hw
  simp only [Bool.and_eq_true, decide_eq_true_eq] at h1
  exact List.mem_filter.mpr h1
theorem cl0 : Cls 0 RX0 TX0 1 := ⟨rfl, gTab_sub (by decide +kernel), tyX0_ok, nmX0, by decide⟩
theorem cl1 : Cls 1 RX1 TX1 2 := ⟨rfl, gTab_sub (by decide +kernel), tyX1_ok, nmX1, by decide⟩
theorem cl2 : Cls 2 RX2 TX2 2 := ⟨rfl, gTab_sub (by decide +kernel), tyX2_ok, nmX2, by decide⟩
theorem cl3 : Cls 3 RX3 TX3 2 := ⟨rfl, gTab_sub (by decide +kernel), tyX3_ok, nmX3, by decide⟩
theorem cl4 : Cls 4 RX4 TX4 7 := ⟨rfl, gTab_sub (by decide +kernel), tyX4_ok, nmX4, by decide⟩
theorem cl6 : Cls 6 RX6 TX6 10 := ⟨rfl, gTab_sub (by decide +kernel), tyX6_ok, nmX6, by decide⟩
theorem cl7 : Cls 7 RX7 TX7 6 := ⟨rfl, gTab_sub (by decide +kernel), tyX7_ok, nmX7, by decide⟩
theorem cl8 : Cls 8 RX8 TX8 6 := ⟨rfl, gTab_sub (by decide +kernel), tyX8_ok, nmX8, by decide⟩
theorem cl9 : Cls 9 RX9 TX9 1 := ⟨rfl, gTab_sub (by decide +kernel), tyX9_ok, nmX9, by decide⟩
theorem cl10 : Cls 10 RX10 TX10 8 := ⟨rfl, gTab_sub (by decide +kernel), tyX10_ok, nmX10, by decide⟩
theorem cl11 : Cls 11 RX11 TX11 18 := ⟨rfl, gTab_sub (by decide +kernel), tyX11_ok, nmX11, by decide⟩
theorem cl12 : Cls 12 RX12 TX12 57 := ⟨rfl, gTab_sub (by decide +kernel), tyX12_ok, nmX12, by decide⟩
theorem wd_obj {D : va_G} {cA : Nat → ClassId} {z0 : Nat} {σ : Me} {H : Heap} {c0 a N : Nat} {C : String} {T : u_T} (hw : wd D cA z0 σ H) (K : Cls c0 C T N) (hT : gT σ a = c0) : z0 ≤ a ∧ a < gz σ ∧ t_OB a (D.1 c0) N (D.2 c0) H (fun k => fv (kd (tyC c0 k)) σ a k) := by
  have h20 : c0 < 20 := K.2.2.2.2
  obtain ⟨h1, h2, h3, -⟩ := hw.2.2 a (by omega)
  refine ⟨h1, h2, ?_⟩
  obtain ⟨r, hr, ho⟩ := h3 (by omega)
  rw [hT] at hr ho
  have e : r = (C, T, N) := Option.some.inj (hr.symm.trans K.1)
  subst e
  exact ho
theorem wd_arr {D : va_G} {cA : Nat → ClassId} {z0 : Nat} {σ : Me} {H : Heap} {a t : Nat} (hw : wd D cA z0 σ H) (hT : gT σ a = 20 + t) (ht : t < 10) : z0 ≤ a ∧ a < gz σ ∧ H[a]? = some (arrV (cA t) (gN σ a) (fun k => fv (kd (tyA t)) σ a k)) := by
  obtain ⟨h1, h2, -, h3⟩ := hw.2.2 a (by omega)
  refine ⟨h1, h2, ?_⟩
  have h4 := h3 (by omega)
  rw [hT, Nat.add_sub_cancel_left] at h4
  exact h4
theorem wd_set {D : va_G} {cA : Nat → ClassId} {z0 a : Nat} {σ σ' : Me} {H H' : Heap} (hw : wd D cA z0 σ H) (hz : gz σ' = gz σ) (hT : ∀ q, gT σ' q = gT σ q) (hN : ∀ q, gN σ' q = gN σ q) (hI : ∀ q j, q ≠ a → gI σ' q j = gI σ q j) (hL : ∀ q j, q ≠ a → gL σ' q j = gL σ q j) (hP : ∀ q j, q ≠ a → gP σ' q j = gP σ q j)
    (he2 : H'.size = H.size) (he3 : ∀ q, q ≠ a → H'[q]? = H[q]?) (ha : cel D cA σ' a H') : wd D cA z0 σ' H' := by
  refine ⟨by rw [he2, hz]; exact hw.1, by rw [hz]; exact hw.2.1, fun q hq => ?_⟩
  rw [hT] at hq
  obtain ⟨h1, h2, h3⟩ := hw.2.2 q hq
  refine ⟨h1, by rw [hz]; exact h2, ?_⟩
  by_cases e : q = a
  · subst e; exact ha
  · exact cel_same h3 (hT q) (hN q) (fun j => hI q j e) (fun j => hL q j e) (fun j => hP q j e) (he3 q e)
theorem fv_sI {κ : Nat → Nat} {σ : Me} {a k : Nat} {v : Int32} (h : κ k = 0) (j : Nat) : fv (κ j) (sI σ a k v) a j = updV (fun i => fv (κ i) σ a i) k (.int v) j := by
  by_cases e : j = k
  · subst e
    simp [updV, h, fv, gI, sI, up2]
  · have e1 : gI (sI σ a k v) a j = gI σ a j := up2_nk e
    unfold updV
    rw [if_neg e]
    unfold fv
    rw [e1]
    rfl
theorem fv_sL {κ : Nat → Nat} {σ : Me} {a k : Nat} {v : Int64} (h : κ k = 1) (j : Nat) : fv (κ j) (sL σ a k v) a j = updV (fun i => fv (κ i) σ a i) k (.long v) j := by
  by_cases e : j = k
  · subst e
    simp [updV, h, fv, gL, sL, up2]
  · have e1 : gL (sL σ a k v) a j = gL σ a j := up2_nk e
    unfold updV
    rw [if_neg e]
    unfold fv
    rw [e1]
    rfl
theorem fv_sP {κ : Nat → Nat} {σ : Me} {a k : Nat} {v : Option Nat} (h : κ k = 2) (j : Nat) : fv (κ j) (sP σ a k v) a j = updV (fun i => fv (κ i) σ a i) k (va_rf v) j := by
  by_cases e : j = k
  · subst e
    simp [updV, h, fv, gP, sP, up2]
  · have e1 : gP (sP σ a k v) a j = gP σ a j := up2_nk e
    unfold updV
    rw [if_neg e]
    unfold fv
    rw [e1]
    rfl
end
section
/-! One-instruction rows over a memory. -/
def Cx (p : Program) (m : MethodId) (c : Code) (cc : ByteArray) (nL : Nat) (s : State) (args : Array Value) (own : String) (D : va_G) (cA : Nat → ClassId) : Prop := CallFix p m c cc nL s args gTab own ∧ KN D cA s
def wS (D : va_G) (cA : Nat → ClassId) (z0 : Nat) (s : State) (σ : Me) (H : Heap) (locs : List Loc) : Prop := wd D cA z0 σ H ∧ va_S (fun q => z0 ≤ q) s.heap H locs
theorem va_S_put {z0 a : Nat} {H0 H H' : Heap} {locs : List Loc} {i : Nat} (h : va_S (fun q => z0 ≤ q) H0 H locs) (ha : z0 ≤ a) (e2 : H'.size = H.size) (e3 : ∀ q, q ≠ a → H'[q]? = H[q]?) : va_S (fun q => z0 ≤ q) H0 H' (locs ++ [⟨a, i⟩]) := by
  refine ⟨by rw [e2]; exact h.1, fun q h1 h2 => ?_, fun q hq => ?_⟩
  · rw [e3 q (fun e => h2 (by rw [e]; exact ha))]
    exact h.2.1 q h1 h2
  · rcases List.mem_append.mp hq with h1 | h1
    · exact h.2.2 q h1
    · rw [List.mem_singleton.mp h1]
      exact ha
section MR
variable {p : Program} {l : Launch} {e : Env} {R : Room} {s : State} {m : MethodId} {args : Array Value} {below : List Frame} {meth : Method} {c : Code} {H : Heap} {locs : List Loc} {cells slots : Nat} {Q : State → Prop}
variable {cc : ByteArray} {pc nL : Nat} {ls : Array Slot} {rest : List Value} {D : va_G} {cA : Nat → ClassId} {a z0 c0 N index : Nat} {σ : Me} {own ref C : String} {T : u_T}
theorem m_get (X : Cx p m c cc nL s args own D cA) (hw : wS D cA z0 s σ H locs) (K : Cls c0 C T N) (hT : gT σ a = c0) (k : Nat) (hk : k < N) (hlink : Cond.fieldLink own index ref (T k).2.1 (T k).2.2.1 ∈ gTab) (hsame : ∀ x, s.fieldFound? (T k).1 (T k).2.1 (T k).2.2.1 = some x → s.fieldFound? ref (T k).2.1 (T k).2.2.1 = some x) {v : Value} (hv : fv (kd (tyC c0 k)) σ a k = v) (hdg : decode cc pc = .ok (.getfield index, 3))
    (kk : W p l e R s m args below meth c H locs cells slots Q (F0 m (pc + 3) ls (v :: rest))) : W p l e R s m args below meth c H locs cells slots Q (F0 m pc ls (.ref a :: rest)) := by
  obtain ⟨⟨hx, hb, hml, hown, hts⟩, hK⟩ := X
  obtain ⟨-, -, cell, q1, q2, q3, q4⟩ := wd_obj hw.1 K hT
  obtain ⟨hS, hfc, kC, hkC, hkind⟩ := hK.1.1 c0 _ K.1
  obtain ⟨cf, kf, fi, f, hi, hsl⟩ := hS k hk
  refine W.getf hx hb hown (hts _ hlink) (hsame _ hi) (u_facts hfc hkC (u_lays hts K.2.1 hk) hi).1 q1 (by rw [q3]; exact fun h => by cases h) (v := v) ?_ rfl rfl hdg kk
  rw [hsl, q4 k hk]
  exact congrArg some hv
theorem m_put (X : Cx p m c cc nL s args own D cA) (hw : wS D cA z0 s σ H locs) (K : Cls c0 C T N) (hT : gT σ a = c0) (k : Nat) (hk : k < N) (hlink : Cond.fieldLink own index ref (T k).2.1 (T k).2.2.1 ∈ gTab) (hsame : ∀ x, s.fieldFound? (T k).1 (T k).2.1 (T k).2.2.1 = some x → s.fieldFound? ref (T k).2.1 (T k).2.2.1 = some x) (hfin : (T k).2.2.2 = false) {v : Value} (hn : narrow (tyC c0 k) v = v) (hfit : fits (tyC c0 k) v = true) {σ' : Me}
    (hz : gz σ' = gz σ) (hTT : ∀ q, gT σ' q = gT σ q) (hNN : ∀ q, gN σ' q = gN σ q) (hI : ∀ q j, q ≠ a → gI σ' q j = gI σ q j) (hL : ∀ q j, q ≠ a → gL σ' q j = gL σ q j) (hP : ∀ q j, q ≠ a → gP σ' q j = gP σ q j) (hf : ∀ j, fv (kd (tyC c0 j)) σ' a j = updV (fun i => fv (kd (tyC c0 i)) σ a i) k v j)
    (hdg : decode cc pc = .ok (.putfield index, 3)) (kk : ∀ (H1 : Heap) (locs1 : List Loc), wS D cA z0 s σ' H1 locs1 → W p l e R s m args below meth c H1 locs1 cells slots Q (F0 m (pc + 3) ls rest)) : W p l e R s m args below meth c H locs cells slots Q (F0 m pc ls (v :: .ref a :: rest)) := by
  obtain ⟨⟨hx, hb, hml, hown, hts⟩, hK⟩ := X
  have hap := va_apart (own := own) hts K.2.1 (tyC c0) K.2.2.1 K.2.2.2.1 hK.1 K.1
  obtain ⟨hz0, hz1, cell, q1, q2, q3, q4⟩ := wd_obj hw.1 K hT
  obtain ⟨hS, hfc, kC, hkC, hkind⟩ := hK.1.1 c0 _ K.1
  obtain ⟨cf, kf, fi, f, hi, hsl⟩ := hS k hk
  have hlay := hts _ (K.2.1 _ (u_in_lay hk))
  unfold u_lay at hlay
  rw [if_neg (by rw [hfin]; decide)] at hlay
  have hst := (u_facts hfc hkC (u_lays hts K.2.1 hk) hi).1
  have h6 := u_store hfc hkC hkind hlay hi (K.2.2.1 k hk) hn hfit
  refine W.putK hx hb (f := f) ⟨hown, hts _ hlink, ⟨_, _, _, hsame _ hi⟩, hst⟩ (by rw [q2]; exact h6) q1 q3 (by rw [hsl]; exact k2_hasslot (q4 k hk)) rfl rfl hdg fun H' e1 e2 e3 => ?_
  rw [hsl] at e1 ⊢
  refine kk H' _ ⟨wd_set hw.1 hz hTT hNN hI hL hP e2 e3 ⟨fun h => ?_, fun h => ?_⟩, va_S_put hw.2 hz0 e2 e3⟩
  · rw [hTT, hT]
    exact ⟨_, K.1, t_OB.to (V := updV (fun i => fv (kd (tyC c0 i)) σ a i) k v) ⟨_, e1, q2, q3, t_set q4 hap hk v⟩ (fun j _ => (hf j).symm)⟩
  · rw [hTT, hT] at h
    have := K.2.2.2.2
    omega
theorem m_putF (X : Cx p m c cc nL s args own D cA) (hin2 : meth.name = "<init>") (hw : wS D cA z0 s σ H locs) (K : Cls c0 C T N) (hT : gT σ a = c0) (k : Nat) (hk : k < N) (hlink : Cond.fieldLink own index ref (T k).2.1 (T k).2.2.1 ∈ gTab) (hsame : ∀ x, s.fieldFound? (T k).1 (T k).2.1 (T k).2.2.1 = some x → s.fieldFound? ref (T k).2.1 (T k).2.2.1 = some x) (hfin : (T k).2.2.2 = true) (hdecl : (T k).1 = own) {v : Value} (hn : narrow (tyC c0 k) v = v) (hfit : fits (tyC c0 k) v = true) {σ' : Me}
    (hz : gz σ' = gz σ) (hTT : ∀ q, gT σ' q = gT σ q) (hNN : ∀ q, gN σ' q = gN σ q) (hI : ∀ q j, q ≠ a → gI σ' q j = gI σ q j) (hL : ∀ q j, q ≠ a → gL σ' q j = gL σ q j) (hP : ∀ q j, q ≠ a → gP σ' q j = gP σ q j) (hf : ∀ j, fv (kd (tyC c0 j)) σ' a j = updV (fun i => fv (kd (tyC c0 i)) σ a i) k v j)
    (hdg : decode cc pc = .ok (.putfield index, 3)) (kk : ∀ (H1 : Heap) (locs1 : List Loc), wS D cA z0 s σ' H1 locs1 → W p l e R s m args below meth c H1 locs1 cells slots Q (F0 m (pc + 3) ls rest)) : W p l e R s m args below meth c H locs cells slots Q (F0 m pc ls (v :: .ref a :: rest)) := by
  obtain ⟨⟨hx, hb, hml, hown, hts⟩, hK⟩ := X
  have hap := va_apart (own := own) hts K.2.1 (tyC c0) K.2.2.1 K.2.2.2.1 hK.1 K.1
  obtain ⟨hz0, hz1, cell, q1, q2, q3, q4⟩ := wd_obj hw.1 K hT
  obtain ⟨hS, hfc, kC, hkC, hkind⟩ := hK.1.1 c0 _ K.1
  obtain ⟨cf, kf, fi, f, hi, hsl⟩ := hS k hk
  have hlay := hts _ (K.2.1 _ (u_in_lay hk))
  unfold u_lay at hlay
  rw [if_pos hfin] at hlay
  have hst := (u_facts hfc hkC (u_lays hts K.2.1 hk) hi).1
  have hcf : m.cls = cf := by
    obtain ⟨_, _, c', _, _, _, -, -, hf', -, -, -, hown2, -⟩ := Cond.laysFinal_spec hlay
    have e1 : c' = cf := by have := hi.symm.trans hf'; simp at this; exact this.1.symm
    rw [hdecl] at hown2
    rw [← e1]; exact Option.some.inj (hown.symm.trans hown2)
  have h6 := u_fits hfc hkC hkind (Or.inr hlay) hi (K.2.2.1 k hk) hn hfit
  refine W.putFinK hx hb hown (hts _ hlink) (hsame _ hi) hst hcf hin2 (by rw [q2]; exact h6) q1 q3 (by rw [hsl]; exact k2_hasslot (q4 k hk)) rfl rfl hdg fun H' e1 e2 e3 => ?_
  rw [hsl] at e1 ⊢
  refine kk H' _ ⟨wd_set hw.1 hz hTT hNN hI hL hP e2 e3 ⟨fun h => ?_, fun h => ?_⟩, va_S_put hw.2 hz0 e2 e3⟩
  · rw [hTT, hT]
    exact ⟨_, K.1, t_OB.to (V := updV (fun i => fv (kd (tyC c0 i)) σ a i) k v) ⟨_, e1, q2, q3, t_set q4 hap hk v⟩ (fun j _ => (hf j).symm)⟩
  · rw [hTT, hT] at h
    have := K.2.2.2.2
    omega
theorem m_putI (X : Cx p m c cc nL s args own D cA) (hw : wS D cA z0 s σ H locs) (K : Cls c0 C T N) (hT : gT σ a = c0) (k : Nat) (hk : k < N) (hlink : Cond.fieldLink own index ref (T k).2.1 (T k).2.2.1 ∈ gTab) (hsame : ∀ x, s.fieldFound? (T k).1 (T k).2.1 (T k).2.2.1 = some x → s.fieldFound? ref (T k).2.1 (T k).2.2.1 = some x) (hfin : (T k).2.2.2 = false) {v : Int32} (hty : tyC c0 k = .int)
    (hdg : decode cc pc = .ok (.putfield index, 3)) (kk : ∀ (H1 : Heap) (locs1 : List Loc), wS D cA z0 s (sI σ a k v) H1 locs1 → W p l e R s m args below meth c H1 locs1 cells slots Q (F0 m (pc + 3) ls rest)) : W p l e R s m args below meth c H locs cells slots Q (F0 m pc ls (.int v :: .ref a :: rest)) :=
  m_put X hw K hT k hk hlink hsame hfin (by rw [hty]; rfl) (by rw [hty]; rfl) (σ' := sI σ a k v) rfl (fun _ => rfl) (fun _ => rfl) (fun _ _ h => up2_ne h) (fun _ _ _ => rfl) (fun _ _ _ => rfl) (fv_sI (κ := fun j => kd (tyC c0 j)) (by show kd (tyC c0 k) = 0; rw [hty]; rfl)) hdg kk
theorem m_putZ (X : Cx p m c cc nL s args own D cA) (hw : wS D cA z0 s σ H locs) (K : Cls c0 C T N) (hT : gT σ a = c0) (k : Nat) (hk : k < N) (hlink : Cond.fieldLink own index ref (T k).2.1 (T k).2.2.1 ∈ gTab) (hsame : ∀ x, s.fieldFound? (T k).1 (T k).2.1 (T k).2.2.1 = some x → s.fieldFound? ref (T k).2.1 (T k).2.2.1 = some x) (hfin : (T k).2.2.2 = false) {v : Int32} (hty : tyC c0 k = .boolean) (hv : v = 0 ∨ v = 1)
    (hdg : decode cc pc = .ok (.putfield index, 3)) (kk : ∀ (H1 : Heap) (locs1 : List Loc), wS D cA z0 s (sI σ a k v) H1 locs1 → W p l e R s m args below meth c H1 locs1 cells slots Q (F0 m (pc + 3) ls rest)) : W p l e R s m args below meth c H locs cells slots Q (F0 m pc ls (.int v :: .ref a :: rest)) :=
  m_put X hw K hT k hk hlink hsame hfin (by rw [hty]; rcases hv with rfl | rfl <;> decide) (by rw [hty]; rcases hv with rfl | rfl <;> decide) (σ' := sI σ a k v) rfl (fun _ => rfl) (fun _ => rfl) (fun _ _ h => up2_ne h) (fun _ _ _ => rfl) (fun _ _ _ => rfl) (fv_sI (κ := fun j => kd (tyC c0 j)) (by show kd (tyC c0 k) = 0; rw [hty]; rfl)) hdg kk
theorem m_putL (X : Cx p m c cc nL s args own D cA) (hw : wS D cA z0 s σ H locs) (K : Cls c0 C T N) (hT : gT σ a = c0) (k : Nat) (hk : k < N) (hlink : Cond.fieldLink own index ref (T k).2.1 (T k).2.2.1 ∈ gTab) (hsame : ∀ x, s.fieldFound? (T k).1 (T k).2.1 (T k).2.2.1 = some x → s.fieldFound? ref (T k).2.1 (T k).2.2.1 = some x) (hfin : (T k).2.2.2 = false) {v : Int64} (hty : tyC c0 k = .long)
    (hdg : decode cc pc = .ok (.putfield index, 3)) (kk : ∀ (H1 : Heap) (locs1 : List Loc), wS D cA z0 s (sL σ a k v) H1 locs1 → W p l e R s m args below meth c H1 locs1 cells slots Q (F0 m (pc + 3) ls rest)) : W p l e R s m args below meth c H locs cells slots Q (F0 m pc ls (.long v :: .ref a :: rest)) :=
  m_put X hw K hT k hk hlink hsame hfin (by rw [hty]; rfl) (by rw [hty]; rfl) (σ' := sL σ a k v) rfl (fun _ => rfl) (fun _ => rfl) (fun _ _ _ => rfl) (fun _ _ h => up2_ne h) (fun _ _ _ => rfl) (fv_sL (κ := fun j => kd (tyC c0 j)) (by show kd (tyC c0 k) = 1; rw [hty]; rfl)) hdg kk
theorem m_putP (X : Cx p m c cc nL s args own D cA) (hw : wS D cA z0 s σ H locs) (K : Cls c0 C T N) (hT : gT σ a = c0) (k : Nat) (hk : k < N) (hlink : Cond.fieldLink own index ref (T k).2.1 (T k).2.2.1 ∈ gTab) (hsame : ∀ x, s.fieldFound? (T k).1 (T k).2.1 (T k).2.2.1 = some x → s.fieldFound? ref (T k).2.1 (T k).2.2.1 = some x) (hfin : (T k).2.2.2 = false) {b : Nat} (hkd : kd (tyC c0 k) = 2) (hn : narrow (tyC c0 k) (.ref b) = .ref b) (hfit : fits (tyC c0 k) (.ref b) = true)
    (hdg : decode cc pc = .ok (.putfield index, 3)) (kk : ∀ (H1 : Heap) (locs1 : List Loc), wS D cA z0 s (sP σ a k (some b)) H1 locs1 → W p l e R s m args below meth c H1 locs1 cells slots Q (F0 m (pc + 3) ls rest)) : W p l e R s m args below meth c H locs cells slots Q (F0 m pc ls (.ref b :: .ref a :: rest)) :=
  m_put X hw K hT k hk hlink hsame hfin hn hfit (σ' := sP σ a k (some b)) rfl (fun _ => rfl) (fun _ => rfl) (fun _ _ _ => rfl) (fun _ _ _ => rfl) (fun _ _ h => up2_ne h) (fv_sP (κ := fun j => kd (tyC c0 j)) hkd) hdg kk
theorem m_putFI (X : Cx p m c cc nL s args own D cA) (hin2 : meth.name = "<init>") (hw : wS D cA z0 s σ H locs) (K : Cls c0 C T N) (hT : gT σ a = c0) (k : Nat) (hk : k < N) (hlink : Cond.fieldLink own index ref (T k).2.1 (T k).2.2.1 ∈ gTab) (hsame : ∀ x, s.fieldFound? (T k).1 (T k).2.1 (T k).2.2.1 = some x → s.fieldFound? ref (T k).2.1 (T k).2.2.1 = some x) (hfin : (T k).2.2.2 = true) (hdecl : (T k).1 = own) {v : Int32} (hty : tyC c0 k = .int)
    (hdg : decode cc pc = .ok (.putfield index, 3)) (kk : ∀ (H1 : Heap) (locs1 : List Loc), wS D cA z0 s (sI σ a k v) H1 locs1 → W p l e R s m args below meth c H1 locs1 cells slots Q (F0 m (pc + 3) ls rest)) : W p l e R s m args below meth c H locs cells slots Q (F0 m pc ls (.int v :: .ref a :: rest)) :=
  m_putF X hin2 hw K hT k hk hlink hsame hfin hdecl (by rw [hty]; rfl) (by rw [hty]; rfl) (σ' := sI σ a k v) rfl (fun _ => rfl) (fun _ => rfl) (fun _ _ h => up2_ne h) (fun _ _ _ => rfl) (fun _ _ _ => rfl) (fv_sI (κ := fun j => kd (tyC c0 j)) (by show kd (tyC c0 k) = 0; rw [hty]; rfl)) hdg kk
theorem m_putFP (X : Cx p m c cc nL s args own D cA) (hin2 : meth.name = "<init>") (hw : wS D cA z0 s σ H locs) (K : Cls c0 C T N) (hT : gT σ a = c0) (k : Nat) (hk : k < N) (hlink : Cond.fieldLink own index ref (T k).2.1 (T k).2.2.1 ∈ gTab) (hsame : ∀ x, s.fieldFound? (T k).1 (T k).2.1 (T k).2.2.1 = some x → s.fieldFound? ref (T k).2.1 (T k).2.2.1 = some x) (hfin : (T k).2.2.2 = true) (hdecl : (T k).1 = own) {b : Nat} (hkd : kd (tyC c0 k) = 2) (hn : narrow (tyC c0 k) (.ref b) = .ref b) (hfit : fits (tyC c0 k) (.ref b) = true)
    (hdg : decode cc pc = .ok (.putfield index, 3)) (kk : ∀ (H1 : Heap) (locs1 : List Loc), wS D cA z0 s (sP σ a k (some b)) H1 locs1 → W p l e R s m args below meth c H1 locs1 cells slots Q (F0 m (pc + 3) ls rest)) : W p l e R s m args below meth c H locs cells slots Q (F0 m pc ls (.ref b :: .ref a :: rest)) :=
  m_putF X hin2 hw K hT k hk hlink hsame hfin hdecl hn hfit (σ' := sP σ a k (some b)) rfl (fun _ => rfl) (fun _ => rfl) (fun _ _ _ => rfl) (fun _ _ _ => rfl) (fun _ _ h => up2_ne h) (fv_sP (κ := fun j => kd (tyC c0 j)) hkd) hdg kk
-- arrays
theorem arr_ty (hK : KN D cA s) : ∀ t, t < 7 → ArrOfT s (cA t) (tyA t) ∧ va_RA s (cA t) (tyA t)
  | 0, _ => hK.1.2 0 _ rfl
  | 1, _ => hK.1.2 1 _ rfl
  | 2, _ => hK.1.2 2 _ rfl
  | 3, _ => hK.1.2 3 _ rfl
  | 4, _ => hK.1.2 4 _ rfl
  | 5, _ => hK.1.2 5 _ rfl
  | 6, _ => hK.1.2 6 _ rfl
  | n + 7, h => absurd h (by omega)
theorem m_alen (X : Cx p m c cc nL s args own D cA) (hw : wS D cA z0 s σ H locs) {t : Nat} (ht : t < 7) (hT : gT σ a = 20 + t) (hdg : decode cc pc = .ok (.arraylength, 1))
    (kk : W p l e R s m args below meth c H locs cells slots Q (F0 m (pc + 1) ls (.int (nI (gN σ a)) :: rest))) : W p l e R s m args below meth c H locs cells slots Q (F0 m pc ls (.ref a :: rest)) := by
  obtain ⟨⟨hx, hb, hml, hown, hts⟩, hK⟩ := X
  obtain ⟨h1, h2, h3⟩ := wd_arr hw.1 hT (by omega)
  exact W.alen (n := nI (gN σ a)) hx hb h3 ((arr_ty hK t ht).1 _ _) (by rw [arrV_size] <;> rfl) rfl rfl hdg kk
theorem m_iald (X : Cx p m c cc nL s args own D cA) (hw : wS D cA z0 s σ H locs) (hT : gT σ a = 20) {i : Int32} (hin : vp_in i (gN σ a)) (hdg : decode cc pc = .ok (.iaload, 1))
    (kk : W p l e R s m args below meth c H locs cells slots Q (F0 m (pc + 1) ls (.int (gI σ a i.toNatClampNeg) :: rest))) : W p l e R s m args below meth c H locs cells slots Q (F0 m pc ls (.int i :: .ref a :: rest)) := by
  obtain ⟨⟨hx, hb, hml, hown, hts⟩, hK⟩ := X
  obtain ⟨h1, h2, h3⟩ := wd_arr (t := 0) hw.1 hT (by omega)
  have hlt : i.toNatClampNeg < gN σ a := Nat.not_le.mp fun q => hin (Or.inr q)
  exact W.iald (v := .int (gI σ a i.toNatClampNeg)) hx hb h3 ((arr_ty hK 0 (by omega)).1 _ _) (fun q => by cases q) (by rw [arrV_size]; exact hin) (by rw [arrV_read _ _ hlt]; rfl) rfl rfl hdg kk
theorem m_lald (X : Cx p m c cc nL s args own D cA) (hw : wS D cA z0 s σ H locs) (hT : gT σ a = 21) {i : Int32} (hin : vp_in i (gN σ a)) (hdg : decode cc pc = .ok (.laload, 1))
    (kk : W p l e R s m args below meth c H locs cells slots Q (F0 m (pc + 1) ls (.long (gL σ a i.toNatClampNeg) :: rest))) : W p l e R s m args below meth c H locs cells slots Q (F0 m pc ls (.int i :: .ref a :: rest)) := by
  obtain ⟨⟨hx, hb, hml, hown, hts⟩, hK⟩ := X
  obtain ⟨h1, h2, h3⟩ := wd_arr (t := 1) hw.1 hT (by omega)
  have hlt : i.toNatClampNeg < gN σ a := Nat.not_le.mp fun q => hin (Or.inr q)
  exact W.lald (v := .long (gL σ a i.toNatClampNeg)) hx hb h3 ((arr_ty hK 1 (by omega)).1 _ _) (fun q => by cases q) (by rw [arrV_size]; exact hin) (by rw [arrV_read _ _ hlt]; rfl) rfl rfl hdg kk
theorem m_zald (X : Cx p m c cc nL s args own D cA) (hw : wS D cA z0 s σ H locs) (hT : gT σ a = 22) {i : Int32} (hin : vp_in i (gN σ a)) (hdg : decode cc pc = .ok (.baload, 1))
    (kk : W p l e R s m args below meth c H locs cells slots Q (F0 m (pc + 1) ls (.int (gI σ a i.toNatClampNeg) :: rest))) : W p l e R s m args below meth c H locs cells slots Q (F0 m pc ls (.int i :: .ref a :: rest)) := by
  obtain ⟨⟨hx, hb, hml, hown, hts⟩, hK⟩ := X
  obtain ⟨h1, h2, h3⟩ := wd_arr (t := 2) hw.1 hT (by omega)
  have hlt : i.toNatClampNeg < gN σ a := Nat.not_le.mp fun q => hin (Or.inr q)
  exact W.zald (v := .int (gI σ a i.toNatClampNeg)) hx hb h3 ((arr_ty hK 2 (by omega)).1 _ _) (fun q => by cases q) (by rw [arrV_size]; exact hin) (by rw [arrV_read _ _ hlt]; rfl) rfl rfl hdg kk
theorem m_bald (X : Cx p m c cc nL s args own D cA) (hw : wS D cA z0 s σ H locs) (hT : gT σ a = 23) {i : Int32} (hin : vp_in i (gN σ a)) (hdg : decode cc pc = .ok (.baload, 1))
    (kk : W p l e R s m args below meth c H locs cells slots Q (F0 m (pc + 1) ls (.int (gI σ a i.toNatClampNeg) :: rest))) : W p l e R s m args below meth c H locs cells slots Q (F0 m pc ls (.int i :: .ref a :: rest)) := by
  obtain ⟨⟨hx, hb, hml, hown, hts⟩, hK⟩ := X
  obtain ⟨h1, h2, h3⟩ := wd_arr (t := 3) hw.1 hT (by omega)
  have hlt : i.toNatClampNeg < gN σ a := Nat.not_le.mp fun q => hin (Or.inr q)
  exact W.bald (v := .int (gI σ a i.toNatClampNeg)) hx hb h3 ((arr_ty hK 3 (by omega)).1 _ _) (fun q => by cases q) (by rw [arrV_size]; exact hin) (by rw [arrV_read _ _ hlt]; rfl) rfl rfl hdg kk
/-- a reference out of an array of Books (24), Rules (25), byte rows (26): perhaps null -/
theorem m_aald (X : Cx p m c cc nL s args own D cA) (hw : wS D cA z0 s σ H locs) {t : Nat} (ht : t = 4 ∨ t = 5 ∨ t = 6) (hT : gT σ a = 20 + t) {i : Int32} (hin : vp_in i (gN σ a)) (hdg : decode cc pc = .ok (.aaload, 1))
    (kk : W p l e R s m args below meth c H locs cells slots Q (F0 m (pc + 1) ls (va_rf (gP σ a i.toNatClampNeg) :: rest))) : W p l e R s m args below meth c H locs cells slots Q (F0 m pc ls (.int i :: .ref a :: rest)) := by
  obtain ⟨⟨hx, hb, hml, hown, hts⟩, hK⟩ := X
  obtain ⟨h1, h2, h3⟩ := wd_arr hw.1 hT (by omega)
  have hlt : i.toNatClampNeg < gN σ a := Nat.not_le.mp fun q => hin (Or.inr q)
  have e : fv (kd (tyA t)) σ a i.toNatClampNeg = va_rf (gP σ a i.toNatClampNeg) := by rcases ht with rfl | rfl | rfl <;> rfl
  exact W.aald (v := va_rf (gP σ a i.toNatClampNeg)) (ty := tyA t) hx hb h3 ((arr_ty hK t (by omega)).1 _ _) (by rcases ht with rfl | rfl | rfl <;> rfl) (fun q => by cases q) (by rw [arrV_size]; exact hin) (by rw [arrV_read _ _ hlt, e]) rfl rfl hdg kk
theorem wd_ast {t i : Nat} {v : Value} {H' : Heap} {σ' : Me} (hw : wS D cA z0 s σ H locs) (ht : t < 7) (hT : gT σ a = 20 + t)
    (hz : gz σ' = gz σ) (hTT : ∀ q, gT σ' q = gT σ q) (hNN : ∀ q, gN σ' q = gN σ q) (hI : ∀ q j, q ≠ a → gI σ' q j = gI σ q j) (hL : ∀ q j, q ≠ a → gL σ' q j = gL σ q j) (hP : ∀ q j, q ≠ a → gP σ' q j = gP σ q j) (hf : ∀ j, fv (kd (tyA t)) σ' a j = updV (fun j => fv (kd (tyA t)) σ a j) i v j)
    (e1 : H'[a]? = some ((arrV (cA t) (gN σ a) (fun k => fv (kd (tyA t)) σ a k)).setSlot i v)) (e2 : H'.size = H.size) (e3 : ∀ q, q ≠ a → H'[q]? = H[q]?) : wS D cA z0 s σ' H' (locs ++ [⟨a, i⟩]) := by
  obtain ⟨h1, h2, h3⟩ := wd_arr hw.1 hT (by omega)
  refine ⟨wd_set hw.1 hz hTT hNN hI hL hP e2 e3 ⟨fun h => ?_, fun h => ?_⟩, va_S_put hw.2 h1 e2 e3⟩
  · rw [hTT, hT] at h
    omega
  · rw [hTT, hT, hNN, Nat.add_sub_cancel_left, e1, arrV_store]
    congr 2
    funext j
    exact (hf j).symm
theorem m_iast (X : Cx p m c cc nL s args own D cA) (hw : wS D cA z0 s σ H locs) (hT : gT σ a = 20) {i x : Int32} (hin : vp_in i (gN σ a)) (hdg : decode cc pc = .ok (.iastore, 1))
    (kk : ∀ (H1 : Heap) (locs1 : List Loc), wS D cA z0 s (sI σ a i.toNatClampNeg x) H1 locs1 → W p l e R s m args below meth c H1 locs1 cells slots Q (F0 m (pc + 1) ls rest)) : W p l e R s m args below meth c H locs cells slots Q (F0 m pc ls (.int x :: .int i :: .ref a :: rest)) := by
  obtain ⟨⟨hx, hb, hml, hown, hts⟩, hK⟩ := X
  obtain ⟨h1, h2, h3⟩ := wd_arr (t := 0) hw.1 hT (by omega)
  refine W.iast hx hb h3 ((arr_ty hK 0 (by omega)).1 _ _) (fun q => by cases q) (by rw [arrV_size]; exact hin) rfl rfl hdg fun H' e1 e2 e3 => ?_
  exact kk H' _ (wd_ast (t := 0) hw (by omega) hT rfl (fun _ => rfl) (fun _ => rfl) (fun _ _ h => up2_ne h) (fun _ _ _ => rfl) (fun _ _ _ => rfl) (fv_sI (κ := fun _ => 0) rfl) e1 e2 e3)
theorem m_bast (X : Cx p m c cc nL s args own D cA) (hw : wS D cA z0 s σ H locs) (hT : gT σ a = 23) {i x : Int32} (hin : vp_in i (gN σ a)) (hdg : decode cc pc = .ok (.bastore, 1))
    (kk : ∀ (H1 : Heap) (locs1 : List Loc), wS D cA z0 s (sI σ a i.toNatClampNeg (vp_nar .byte x)) H1 locs1 → W p l e R s m args below meth c H1 locs1 cells slots Q (F0 m (pc + 1) ls rest)) : W p l e R s m args below meth c H locs cells slots Q (F0 m pc ls (.int x :: .int i :: .ref a :: rest)) := by
  obtain ⟨⟨hx, hb, hml, hown, hts⟩, hK⟩ := X
  obtain ⟨h1, h2, h3⟩ := wd_arr (t := 3) hw.1 hT (by omega)
  refine W.bast hx hb h3 ((arr_ty hK 3 (by omega)).1 _ _) (fun q => by cases q) (by rw [arrV_size]; exact hin) rfl rfl hdg fun H' e1 e2 e3 => ?_
  exact kk H' _ (wd_ast (t := 3) hw (by omega) hT rfl (fun _ => rfl) (fun _ => rfl) (fun _ _ h => up2_ne h) (fun _ _ _ => rfl) (fun _ _ _ => rfl) (fv_sI (κ := fun _ => 0) rfl) e1 e2 e3)
theorem m_zast (X : Cx p m c cc nL s args own D cA) (hw : wS D cA z0 s σ H locs) (hT : gT σ a = 22) {i x : Int32} (hin : vp_in i (gN σ a)) (hdg : decode cc pc = .ok (.bastore, 1))
    (kk : ∀ (H1 : Heap) (locs1 : List Loc), wS D cA z0 s (sI σ a i.toNatClampNeg (vp_nar .boolean x)) H1 locs1 → W p l e R s m args below meth c H1 locs1 cells slots Q (F0 m (pc + 1) ls rest)) : W p l e R s m args below meth c H locs cells slots Q (F0 m pc ls (.int x :: .int i :: .ref a :: rest)) := by
  obtain ⟨⟨hx, hb, hml, hown, hts⟩, hK⟩ := X
  obtain ⟨h1, h2, h3⟩ := wd_arr (t := 2) hw.1 hT (by omega)
  refine W.zast hx hb h3 ((arr_ty hK 2 (by omega)).1 _ _) (fun q => by cases q) (by rw [arrV_size]; exact hin) rfl rfl hdg fun H' e1 e2 e3 => ?_
  exact kk H' _ (wd_ast (t := 2) hw (by omega) hT rfl (fun _ => rfl) (fun _ => rfl) (fun _ _ h => up2_ne h) (fun _ _ _ => rfl) (fun _ _ _ => rfl) (fv_sI (κ := fun _ => 0) rfl) e1 e2 e3)
theorem m_last (X : Cx p m c cc nL s args own D cA) (hw : wS D cA z0 s σ H locs) (hT : gT σ a = 21) {i : Int32} {x : Int64} (hin : vp_in i (gN σ a)) (hdg : decode cc pc = .ok (.lastore, 1))
    (kk : ∀ (H1 : Heap) (locs1 : List Loc), wS D cA z0 s (sL σ a i.toNatClampNeg x) H1 locs1 → W p l e R s m args below meth c H1 locs1 cells slots Q (F0 m (pc + 1) ls rest)) : W p l e R s m args below meth c H locs cells slots Q (F0 m pc ls (.long x :: .int i :: .ref a :: rest)) := by
  obtain ⟨⟨hx, hb, hml, hown, hts⟩, hK⟩ := X
  obtain ⟨h1, h2, h3⟩ := wd_arr (t := 1) hw.1 hT (by omega)
  refine W.last hx hb h3 ((arr_ty hK 1 (by omega)).1 _ _) (fun q => by cases q) (by rw [arrV_size]; exact hin) rfl rfl hdg fun H' e1 e2 e3 => ?_
  exact kk H' _ (wd_ast (t := 1) hw (by omega) hT rfl (fun _ => rfl) (fun _ => rfl) (fun _ _ _ => rfl) (fun _ _ h => up2_ne h) (fun _ _ _ => rfl) (fv_sL (κ := fun _ => 1) rfl) e1 e2 e3)
end MR
end
section
/-! New cells, references, calls, ends. -/
theorem gT_nw_self (σ : Me) (t n : Nat) : gT (nw σ t n) (gz σ) = t := by simp [gT, gz, nw, va_up]
theorem gN_nw_self (σ : Me) (t n : Nat) : gN (nw σ t n) (gz σ) = n := by simp [gN, gz, nw, va_up]
theorem gT_nw {σ : Me} {t n q : Nat} (h : q ≠ gz σ) : gT (nw σ t n) q = gT σ q := by simp only [gz] at h; simp [gT, nw, va_up, h]
theorem gN_nw {σ : Me} {t n q : Nat} (h : q ≠ gz σ) : gN (nw σ t n) q = gN σ q := by simp only [gz] at h; simp [gN, nw, va_up, h]
theorem gI_nw {σ : Me} {t n q : Nat} (h : q ≠ gz σ) (j : Nat) : gI (nw σ t n) q j = gI σ q j := by simp only [gz] at h; simp [gI, nw, va_up, h]
theorem gL_nw {σ : Me} {t n q : Nat} (h : q ≠ gz σ) (j : Nat) : gL (nw σ t n) q j = gL σ q j := by simp only [gz] at h; simp [gL, nw, va_up, h]
theorem gP_nw {σ : Me} {t n q : Nat} (h : q ≠ gz σ) (j : Nat) : gP (nw σ t n) q j = gP σ q j := by simp only [gz] at h; simp [gP, nw, va_up, h]
theorem gI_nw_self (σ : Me) (t n j : Nat) : gI (nw σ t n) (gz σ) j = 0 := by simp [gI, gz, nw, va_up]
theorem gL_nw_self (σ : Me) (t n j : Nat) : gL (nw σ t n) (gz σ) j = 0 := by simp [gL, gz, nw, va_up]
theorem gP_nw_self (σ : Me) (t n j : Nat) : gP (nw σ t n) (gz σ) j = none := by simp [gP, gz, nw, va_up]
theorem gz_nw (σ : Me) (t n : Nat) : gz (nw σ t n) = gz σ + 1 := rfl
theorem fv_zero (t : FieldType) (h : kd t < 3) (σ : Me) (c n k : Nat) : fv (kd t) (nw σ c n) (gz σ) k = defaultValue t := by
  cases t <;> first | (simp [kd] at h; done) | (simp [kd, fv, gI_nw_self, gL_nw_self, gP_nw_self, va_rf, defaultValue]; done) | (simp [kd, fv, gI_nw_self, gL_nw_self, gP_nw_self, va_rf, defaultValue]; rfl)
theorem wd_new {D : va_G} {cA : Nat → ClassId} {z0 t n : Nat} {σ : Me} {H H' : Heap} (hw : wd D cA z0 σ H) (hz : H'.size = H.size + 1) (ho : ∀ q, q < H.size → H'[q]? = H[q]?) (hc : cel D cA (nw σ t n) (gz σ) H') : wd D cA z0 (nw σ t n) H' := by
  refine ⟨by rw [hz, hw.1]; rfl, by rw [gz_nw]; have := hw.2.1; omega, fun q hq => ?_⟩
  by_cases e : q = gz σ
  · subst e
    exact ⟨hw.2.1, by rw [gz_nw]; omega, hc⟩
  · rw [gT_nw e] at hq
    obtain ⟨h1, h2, h3⟩ := hw.2.2 q hq
    exact ⟨h1, by rw [gz_nw]; omega, cel_same h3 (gT_nw e) (gN_nw e) (gI_nw e) (gL_nw e) (gP_nw e) (ho q (by rw [hw.1]; exact h2))⟩
theorem va_S_new {z0 : Nat} {H0 H H' : Heap} {locs : List Loc} (h : va_S (fun q => z0 ≤ q) H0 H locs) (hz : H'.size = H.size + 1) (ho : ∀ q, q < H.size → H'[q]? = H[q]?) : va_S (fun q => z0 ≤ q) H0 H' locs :=
  ⟨by rw [hz]; have := h.1; omega, fun q h1 h2 => (ho q (Nat.lt_of_lt_of_le h1 h.1)).trans (h.2.1 q h1 h2), h.2.2⟩
/-- a method's start and ends over a memory -/
def PcM (D : va_G) (cA : Nat → ClassId) (z0 : Nat) (σ : Me) (av : List Value) : Array Value → State → Prop := va_Pc av (fun U => wd D cA z0 σ U.heap ∧ KN D cA U)
abbrev BM (D : va_G) (cA : Nat → ClassId) (z0 : Nat) : Me → State → Prop := fun σ' t => wd D cA z0 σ' t.heap
abbrev AM (z0 : Nat) : Nat → Prop := fun q => z0 ≤ q
theorem KN_same {D : va_G} {cA : Nat → ClassId} {u U : State} (hv : u.vm = U.vm) (h : KN D cA u) : KN D cA U := by
  obtain ⟨h1, h2, h3, h4, h5, h6⟩ := h
  have ha : u.vm.Alike U.vm := by rw [hv]; exact Vm.Alike.refl _
  have n1 : ∀ w ∈ nestW, w.onTables = true := by unfold nestW; simp [Cond.onTables]
  have n2 : ∀ w ∈ declW, w.onTables = true := by unfold declW; simp [Cond.onTables]
  have n3 : ∀ w ∈ castW, w.onTables = true := by unfold castW; simp [Cond.onTables]
  exact ⟨va_K.moved ha h1, fun w hw => va_Nw.same (n1 w hw) hv (h2 w hw), fun w hw => va_Nw.same (n2 w hw) hv (h3 w hw), fun w hw => va_Nw.same (n3 w hw) hv (h4 w hw), fun q hq => va_Nc.moved ha (h5 q hq), by rw [← hv]; exact h6⟩
theorem PcM.blind {D : va_G} {cA : Nat → ClassId} {z0 : Nat} {σ : Me} {av : List Value} : FrameBlind (PcM D cA z0 σ av) := by
  intro a U g mk q
  obtain ⟨q0, q1, q2⟩ := q
  exact ⟨q0, q1, KN_same (u := U) (U := U.calling g mk a) rfl q2⟩
/-- a method that is called: its code is among the words, its class is ready -/
def Mth (y : MethodName) (bytes : ByteArray) (maxL : Nat) (ret : Option FieldType) (n : Nat) : Prop := Cond.code y bytes maxL ret ∈ gTab ∧ Cond.initialized y.cls ∈ gTab ∧ (y.cls ≠ "java/lang/invoke/MethodHandle" ∧ y.cls ≠ "java/lang/invoke/VarHandle" ∧ (parseMethodDescriptor y.desc).map (fun d => d.parameters.length) = some n)
def fitR (rm R : Room) (maxL mc ms cells slots : Nat) : Prop := (rm.cells = mc ∧ rm.slots = ms ∧ rm.frames + 1 ≤ R.frames ∧ 8 + (maxL + 11) + rm.locals ≤ R.locals) ∧ cells + mc ≤ R.cells ∧ slots + ms ≤ R.slots
section MC
variable {p : Program} {l : Launch} {e : Env} {R : Room} {s : State} {m : MethodId} {args : Array Value} {below : List Frame} {meth : Method} {c : Code} {H : Heap} {locs : List Loc} {cells slots : Nat} {Q : State → Prop}
variable {cc : ByteArray} {pc nL : Nat} {ls : Array Slot} {rest : List Value} {D : va_G} {cA : Nat → ClassId} {a z0 c0 N index : Nat} {σ : Me} {own ref C : String} {T : u_T}
theorem m_new (X : Cx p m c cc nL s args own D cA) (hw : wS D cA z0 s σ H locs) (K : Cls c0 C T N) (hkd : ∀ k, k < N → kd (tyC c0 k) < 3) (hcl : Cond.classLink own index C ∈ gTab) (hinst : Cond.instantiable C N ∈ gTab) (hini : Cond.initialized C ∈ gTab) (hcells : cells + 1 ≤ R.cells ∧ slots + N ≤ R.slots) (hdg : decode cc pc = .ok (.new index, 3))
    (kk : ∀ (H1 : Heap), wS D cA z0 s (nw σ c0 0) H1 locs → W p l e R s m args below meth c H1 locs (cells + 1) (slots + N) Q (F0 m (pc + 3) ls (.ref (gz σ) :: rest))) : W p l e R s m args below meth c H locs cells slots Q (F0 m pc ls rest) := by
  obtain ⟨⟨hx, hb, hml, hown, hts⟩, hK⟩ := X
  have hKn := hK.1.1 c0 _ K.1
  refine W.newcK hx hb hown (hts _ hcl) (hts _ hinst) (hts _ hini) rfl hdg hcells.1 hcells.2 hKn.2.1 hw.1.1 fun H1 kC hkC e1 z1 o1 => ?_
  refine kk H1 ⟨wd_new hw.1 (by rw [z1, hw.1.1]) (fun q hq => o1 q (by rw [← hw.1.1]; exact hq)) ⟨fun h => ?_, fun h => ?_⟩, va_S_new hw.2 (by rw [z1, hw.1.1]) (fun q hq => o1 q (by rw [← hw.1.1]; exact hq))⟩
  · rw [gT_nw_self]
    exact ⟨_, K.1, (u_born (tyC c0) hts K.2.1 hKn hkC e1 K.2.2.1).to (fun j hj => (fv_zero _ (hkd j hj) σ c0 0 j).symm)⟩
  · rw [gT_nw_self] at h
    have := K.2.2.2.2
    omega
theorem m_newa (X : Cx p m c cc nL s args own D cA) (hw : wS D cA z0 s σ H locs) {t : Nat} (ht : t < 4) {atype : ArrayType} (hty : newarray.typeOf atype = tyA t) (harr : Cond.arrayClass (tyA t) ∈ gTab) {n : Int32} {N' : Nat} (hn : ¬ n < 0) (hN : n.toNatClampNeg = N') (hbytes : N' * componentBytes (tyA t) ≤ 536870912) (hcells : cells + 1 ≤ R.cells ∧ slots + N' ≤ R.slots) (hdg : decode cc pc = .ok (.newarray atype, 2))
    (kk : ∀ (H1 : Heap), wS D cA z0 s (nw σ (20 + t) N') H1 locs → W p l e R s m args below meth c H1 locs (cells + 1) (slots + N') Q (F0 m (pc + 2) ls (.ref (gz σ) :: rest))) : W p l e R s m args below meth c H locs cells slots Q (F0 m pc ls (.int n :: rest)) := by
  obtain ⟨⟨hx, hb, hml, hown, hts⟩, hK⟩ := X
  refine va_newaK hx hb (by rw [hty]; exact hts _ harr) rfl hdg rfl hn hN (by rw [hty]; exact hbytes) hcells.1 hcells.2 hw.1.1 fun H1 cA1 e1 z1 o1 hAr hNm => ?_
  have hcA : cA1 = cA t := by
    have h := (arr_ty hK t (by omega)).2
    rw [hty] at hNm
    have h2 : s.vm.findClass ("[" ++ (tyA t).toString) = some (cA t) := by
      match t, ht, h with
      | 0, _, h => exact h
      | 1, _, h => exact h
      | 2, _, h => exact h
      | 3, _, h => exact h
    exact Option.some.inj (hNm.symm.trans h2)
  subst hcA
  refine kk H1 ⟨wd_new hw.1 (by rw [z1, hw.1.1]) (fun q hq => o1 q (by rw [← hw.1.1]; exact hq)) ⟨fun h => ?_, fun h => ?_⟩, va_S_new hw.2 (by rw [z1, hw.1.1]) (fun q hq => o1 q (by rw [← hw.1.1]; exact hq))⟩
  · rw [gT_nw_self] at h
    omega
  · rw [gT_nw_self, gN_nw_self, Nat.add_sub_cancel_left, e1, hty]
    congr 2
    funext k
    refine (fv_zero (tyA t) ?_ σ _ _ k).symm
    match t, ht with
    | 0, _ => decide
    | 1, _ => decide
    | 2, _ => decide
    | 3, _ => decide
theorem m_newq (X : Cx p m c cc nL s args own D cA) (hw : wS D cA z0 s σ H locs) {t : Nat} (ht : tyA t = .object C) (ht7 : t < 7) (hcl : Cond.classLink own index C ∈ gTab) (hover : va_AO C s) {n : Int32} {N' : Nat} (hn : ¬ n < 0) (hN : n.toNatClampNeg = N') (hbytes : N' * 4 ≤ 536870912) (hcells : cells + 1 ≤ R.cells ∧ slots + N' ≤ R.slots) (hdg : decode cc pc = .ok (.anewarray index, 3))
    (kk : ∀ (H1 : Heap), wS D cA z0 s (nw σ (20 + t) N') H1 locs → W p l e R s m args below meth c H1 locs (cells + 1) (slots + N') Q (F0 m (pc + 3) ls (.ref (gz σ) :: rest))) : W p l e R s m args below meth c H locs cells slots Q (F0 m pc ls (.int n :: rest)) := by
  obtain ⟨⟨hx, hb, hml, hown, hts⟩, hK⟩ := X
  subst hN
  refine W.anew hx hb hown (hts _ hcl) (va_AO.use hover) rfl hdg rfl hn hbytes hcells.1 hcells.2 fun cA1 kA comp f1 f2 f3 f4 => ?_
  have hcA : cA1 = cA t := by
    have h := (arr_ty hK t ht7).2
    rw [ht] at h
    obtain ⟨_, _, _, _, _, h4⟩ := h
    exact Option.some.inj (f1.symm.trans h4)
  subst hcA
  generalize hH1 : H.push ({ cls := cA t, slots := Array.replicate n.toNatClampNeg .null, vm := .none } : Cell) = H1
  have z1 : H1.size = H.size + 1 := by rw [← hH1, Array.size_push]
  have e1 : H1[H.size]? = some (arrV (cA t) n.toNatClampNeg (fun _ => .null)) := by rw [← hH1, Array.getElem?_push_size, ← arrV_new]
  have o1 : ∀ q : Nat, q < H.size → H1[q]? = H[q]? := fun q hq => by rw [← hH1, Array.getElem?_push, if_neg (Nat.ne_of_lt hq)]
  rw [hw.1.1] at e1 ⊢
  refine kk H1 ⟨wd_new hw.1 z1 o1 ⟨fun h => ?_, fun h => ?_⟩, va_S_new hw.2 z1 o1⟩
  · rw [gT_nw_self] at h
    omega
  · rw [gT_nw_self, gN_nw_self, Nat.add_sub_cancel_left, e1]
    congr 2
    funext k
    have := fv_zero (tyA t) (by rw [ht]; show (2 : Nat) < 3; omega) σ (20 + t) n.toNatClampNeg k
    rw [this, ht]
    rfl
/-- the cell of a known class, as a receiver -/
theorem m_recv (hK : KN D cA s) (hw : wS D cA z0 s σ H locs) (K : Cls c0 C T N) (hT : gT σ a = c0) : ∃ cell : Cell, H[a]? = some cell ∧ cell.vm.isStatics = false ∧ s.vm.findClass C = some cell.cls := by
  obtain ⟨-, -, cell, q1, q2, q3, q4⟩ := wd_obj hw.1 K hT
  exact ⟨cell, q1, by rw [q3]; rfl, by rw [q2]; exact (hK.1.1 c0 _ K.1).2.1⟩
theorem m_pre {av : List Value} (hK : KN D cA s) (hw : wS D cA z0 s σ H locs) : ∀ U : State, U.heap = H → s.WarmedH U.vm → PcM D cA z0 σ av av.toArray U := fun U hU hW => ⟨rfl, by rw [hU]; exact hw.1, KN.warm hW hK⟩
variable {y : MethodName} {bytes : ByteArray} {maxL mc ms n : Nat} {ret : Option FieldType} {rm : Room} {As st0 : List Value} {b : Nat}
theorem m_callB (X : Cx p m c cc nL s args own D cA) (M : Mth y bytes maxL ret n) (hl : Cond.methodLink own index y ∈ gTab) (hR : fitR rm R maxL mc ms cells slots) : CallB R s args own index y bytes maxL ret (Cond.code y bytes maxL ret :: gTab) rm mc ms n :=
  callB_of n X.1.2.2.2.2 (gTab_call M.1) rfl hR.1.1 hR.1.2.1 (X.1.2.2.2.2 _ M.2.1) (X.1.2.2.2.2 _ hl) M.2.2 ⟨hR.1.2.2.1, hR.1.2.2.2⟩
theorem m_runS {Qc : Array Value → State → Outcome → State → Prop} (X : Cx p m c cc nL s args own D cA) (hw : wS D cA z0 s σ H locs) (hM : Met l y (Cond.code y bytes maxL ret :: gTab) rm (PcM D cA z0 σ As) Qc mc ms (AM z0)) (M : Mth y bytes maxL ret n) (hl : Cond.methodLink own index y ∈ gTab) (hst : Cond.static y ∈ gTab) (hR : fitR rm R maxL mc ms cells slots) (hn : As.length = n) (hsz : ls.size = nL) (hstk : st0 = As.reverse ++ rest) (hW : (rest.map fun v => v.category).sum ≤ 8) (hdg : decode cc pc = .ok (.invokestatic index, 3)) :
    va_Run p l e R s m args below meth c H locs cells slots mc ms (F0 m pc ls st0) rest (Qc As.toArray) (AM z0) :=
  va_runS X.1 hM ⟨m_callB X M hl hR, X.1.2.2.2.2 _ hst⟩ ⟨PcM.blind, m_pre X.2 hw⟩ rfl hn hsz hstk (lv_room hW) hdg hR.2
theorem m_runV {Qc : Array Value → State → Outcome → State → Prop} (X : Cx p m c cc nL s args own D cA) (hw : wS D cA z0 s σ H locs) (hM : Met l y (Cond.code y bytes maxL ret :: gTab) rm (PcM D cA z0 σ (.ref b :: As)) Qc mc ms (AM z0)) (M : Mth y bytes maxL ret n) (hl : Cond.methodLink own index y ∈ gTab) (hin : Cond.instanceMethod y ∈ gTab ∧ Cond.selects C y y ∈ gTab) (K : Cls c0 C T N) (hT : gT σ b = c0) (hR : fitR rm R maxL mc ms cells slots) (hn : As.length = n) (hsz : ls.size = nL) (hstk : st0 = As.reverse ++ .ref b :: rest) (hW : (rest.map fun v => v.category).sum ≤ 8) (hdg : decode cc pc = .ok (.invokevirtual index, 3)) :
    va_Run p l e R s m args below meth c H locs cells slots mc ms (F0 m pc ls st0) rest (Qc (Value.ref b :: As).toArray) (AM z0) :=
  va_runV (C := C) X.1 hM ⟨m_callB X M hl hR, X.1.2.2.2.2 _ hin.1, X.1.2.2.2.2 _ hin.2⟩ ⟨PcM.blind, m_recv X.2 hw K hT, m_pre X.2 hw⟩ rfl hn hsz hstk (lv_room hW) hdg hR.2
theorem m_runI {Qc : Array Value → State → Outcome → State → Prop} (X : Cx p m c cc nL s args own D cA) (hw : wS D cA z0 s σ H locs) (hM : Met l y (Cond.code y bytes maxL none :: gTab) rm (PcM D cA z0 σ (.ref b :: As)) Qc mc ms (AM z0)) (M : Mth y bytes maxL none n) (hl : Cond.methodLink own index y ∈ gTab) (hin : Cond.instanceMethod y ∈ gTab) (hy1 : y.name = "<init>") (hR : fitR rm R maxL mc ms cells slots) (hn : As.length = n) (hsz : ls.size = nL) (hstk : st0 = As.reverse ++ .ref b :: rest) (hW : (rest.map fun v => v.category).sum ≤ 8) (hdg : decode cc pc = .ok (.invokespecial index, 3)) :
    va_Run p l e R s m args below meth c H locs cells slots mc ms (F0 m pc ls st0) rest (Qc (Value.ref b :: As).toArray) (AM z0) :=
  va_runI X.1 hM ⟨m_callB X M hl hR, hy1, X.1.2.2.2.2 _ hin⟩ ⟨PcM.blind, m_pre X.2 hw⟩ rfl hn hsz hstk (lv_room hW) hdg hR.2
theorem m_callN {host : String} (X : Cx p m c cc nL s args own D cA) (M : Mth y bytes maxL ret n) (hl : Cond.methodLinkNest own index y host ∈ nestW) (hR : fitR rm R maxL mc ms cells slots) : va_CN R s args own index y host bytes maxL ret (Cond.code y bytes maxL ret :: gTab) rm mc ms n :=
  va_cnB n X.1.2.2.2.2 (gTab_call M.1) rfl hR.1.1 hR.1.2.1 (X.2.2.1 _ hl) (X.1.2.2.2.2 _ M.2.1) M.2.2 ⟨hR.1.2.2.1, hR.1.2.2.2⟩
theorem m_runSN {host : String} {Qc : Array Value → State → Outcome → State → Prop} (X : Cx p m c cc nL s args own D cA) (hw : wS D cA z0 s σ H locs) (hM : Met l y (Cond.code y bytes maxL ret :: gTab) rm (PcM D cA z0 σ As) Qc mc ms (AM z0)) (M : Mth y bytes maxL ret n) (hl : Cond.methodLinkNest own index y host ∈ nestW) (hst : Cond.static y ∈ gTab) (hR : fitR rm R maxL mc ms cells slots) (hn : As.length = n) (hsz : ls.size = nL) (hstk : st0 = As.reverse ++ rest) (hW : (rest.map fun v => v.category).sum ≤ 8) (hdg : decode cc pc = .ok (.invokestatic index, 3)) :
    va_Run p l e R s m args below meth c H locs cells slots mc ms (F0 m pc ls st0) rest (Qc As.toArray) (AM z0) :=
  va_runSN X.1 hM ⟨m_callN X M hl hR, X.1.2.2.2.2 _ hst, trivial⟩ ⟨PcM.blind, m_pre X.2 hw⟩ rfl hn hsz hstk (lv_room hW) hdg hR.2
theorem m_runIN {host : String} {Qc : Array Value → State → Outcome → State → Prop} (X : Cx p m c cc nL s args own D cA) (hw : wS D cA z0 s σ H locs) (hM : Met l y (Cond.code y bytes maxL none :: gTab) rm (PcM D cA z0 σ (.ref b :: As)) Qc mc ms (AM z0)) (M : Mth y bytes maxL none n) (hl : Cond.methodLinkNest own index y host ∈ nestW) (hin : Cond.instanceMethod y ∈ gTab) (hy1 : y.name = "<init>") (hR : fitR rm R maxL mc ms cells slots) (hn : As.length = n) (hsz : ls.size = nL) (hstk : st0 = As.reverse ++ .ref b :: rest) (hW : (rest.map fun v => v.category).sum ≤ 8) (hdg : decode cc pc = .ok (.invokespecial index, 3)) :
    va_Run p l e R s m args below meth c H locs cells slots mc ms (F0 m pc ls st0) rest (Qc (Value.ref b :: As).toArray) (AM z0) :=
  va_runIN X.1 hM ⟨m_callN X M hl hR, hy1, X.1.2.2.2.2 _ hin⟩ ⟨PcM.blind, m_pre X.2 hw⟩ rfl hn hsz hstk (lv_room hW) hdg hR.2
theorem m_ci {post : Int32 → Me → Prop} {av : Array Value} (hr : va_Run p l e R s m args below meth c H locs cells slots mc ms (F0 m pc ls st0) rest (va_Qi post (BM D cA z0) (AM z0) av) (AM z0)) (hw : wS D cA z0 s σ H locs)
    (kk : ∀ (r : Int32) (σ' : Me) (H1 : Heap) (locs1 : List Loc), post r σ' → wS D cA z0 s σ' H1 locs1 → W p l e R s m args below meth c H1 locs1 (cells + mc) (slots + ms) Q (F0 m (pc + 3) ls (.int r :: rest))) : W p l e R s m args below meth c H locs cells slots Q (F0 m pc ls st0) :=
  va_calli hr hw.2 (fun _ _ h => h) (fun _ h => h) fun r u t H1 locs1 ht _ hp hB _ _ hS => kk r u H1 locs1 hp ⟨by rw [← ht]; exact hB, hS⟩
theorem m_cl {post : Int64 → Me → Prop} {av : Array Value} (hr : va_Run p l e R s m args below meth c H locs cells slots mc ms (F0 m pc ls st0) rest (va_Ql post (BM D cA z0) (AM z0) av) (AM z0)) (hw : wS D cA z0 s σ H locs)
    (kk : ∀ (r : Int64) (σ' : Me) (H1 : Heap) (locs1 : List Loc), post r σ' → wS D cA z0 s σ' H1 locs1 → W p l e R s m args below meth c H1 locs1 (cells + mc) (slots + ms) Q (F0 m (pc + 3) ls (.long r :: rest))) : W p l e R s m args below meth c H locs cells slots Q (F0 m pc ls st0) :=
  va_calll hr hw.2 (fun _ _ h => h) (fun _ h => h) fun r u t H1 locs1 ht _ hp hB _ _ hS => kk r u H1 locs1 hp ⟨by rw [← ht]; exact hB, hS⟩
theorem m_cv {post : Me → Prop} {av : Array Value} (hr : va_Run p l e R s m args below meth c H locs cells slots mc ms (F0 m pc ls st0) rest (va_Qv post (BM D cA z0) (AM z0) av) (AM z0)) (hw : wS D cA z0 s σ H locs)
    (kk : ∀ (σ' : Me) (H1 : Heap) (locs1 : List Loc), post σ' → wS D cA z0 s σ' H1 locs1 → W p l e R s m args below meth c H1 locs1 (cells + mc) (slots + ms) Q (F0 m (pc + 3) ls rest)) : W p l e R s m args below meth c H locs cells slots Q (F0 m pc ls st0) :=
  va_callv hr hw.2 (fun _ _ h => h) (fun _ h => h) fun u t H1 locs1 ht _ hp hB _ _ hS => kk u H1 locs1 hp ⟨by rw [← ht]; exact hB, hS⟩
-- null or not
theorem m_aloadQ_n (X : Cx p m c cc nL s args own D cA) {k : Fin 4} {i : Nat} {x : Option Nat} (hdg : decode cc pc = .ok (.aload_n k, 1)) (hi : (k : Nat) = i) (hl : ls[i]? = some (.val (va_rf x))) (kk : W p l e R s m args below meth c H locs cells slots Q (F0 m (pc + 1) ls (va_rf x :: rest))) : W p l e R s m args below meth c H locs cells slots Q (F0 m pc ls rest) := by
  cases x with
  | none => exact lv_aload_nN X.1.1 X.1.2.1 hdg hi hl kk
  | some b => exact lv_aload_n X.1.1 X.1.2.1 hdg hi hl kk
theorem m_aloadQ (X : Cx p m c cc nL s args own D cA) {i : Nat} {x : Option Nat} (hdg : decode cc pc = .ok (.aload i, 2)) (hl : ls[i]? = some (.val (va_rf x))) (kk : W p l e R s m args below meth c H locs cells slots Q (F0 m (pc + 2) ls (va_rf x :: rest))) : W p l e R s m args below meth c H locs cells slots Q (F0 m pc ls rest) := by
  cases x with
  | none => exact lv_aloadN X.1.1 X.1.2.1 hdg hl kk
  | some b => exact lv_aload X.1.1 X.1.2.1 hdg hl kk
theorem m_astoreQ_n (X : Cx p m c cc nL s args own D cA) {k : Fin 4} {i nL' : Nat} {x : Option Nat} {lv lv' : List (Nat × Value)} (hdg : decode cc pc = .ok (.astore_n k, 1)) (hi : (k : Nat) = i) (h : lv_has ls nL' lv) (hn : i < nL') (hl : (i, va_rf x) :: lv.filter (fun q => !(q.1 == i) && !(q.1 + 1 == i && q.2.category == 2)) = lv') (kk : ∀ ls' : Array Slot, lv_has ls' nL' lv' → W p l e R s m args below meth c H locs cells slots Q (F0 m (pc + 1) ls' rest)) : W p l e R s m args below meth c H locs cells slots Q (F0 m pc ls (va_rf x :: rest)) := by
  cases x with
  | none => exact lv_astore_nN X.1.1 X.1.2.1 hdg hi h hn hl kk
  | some b => exact lv_astore_n X.1.1 X.1.2.1 hdg hi h hn hl kk
theorem m_ifnonnull (X : Cx p m c cc nL s args own D cA) {x : Option Nat} {off : Int} {tgt : Nat} (hdg : decode cc pc = .ok (.ifnonnull off, 3)) (ht : (pc : Int) + off = (tgt : Int)) (ks : ∀ b, x = some b → W p l e R s m args below meth c H locs cells slots Q (F0 m tgt ls rest)) (kn : x = none → W p l e R s m args below meth c H locs cells slots Q (F0 m (pc + 3) ls rest)) : W p l e R s m args below meth c H locs cells slots Q (F0 m pc ls (va_rf x :: rest)) := by
  cases x with
  | none => exact lv_ifnonnullN X.1.1 X.1.2.1 hdg (kn rfl)
  | some b => exact lv_ifnonnull X.1.1 X.1.2.1 hdg ht (ks b rfl)
theorem m_ifnull (X : Cx p m c cc nL s args own D cA) {x : Option Nat} {off : Int} {tgt : Nat} (hdg : decode cc pc = .ok (.ifnull off, 3)) (ht : (pc : Int) + off = (tgt : Int)) (kn : x = none → W p l e R s m args below meth c H locs cells slots Q (F0 m tgt ls rest)) (ks : ∀ b, x = some b → W p l e R s m args below meth c H locs cells slots Q (F0 m (pc + 3) ls rest)) : W p l e R s m args below meth c H locs cells slots Q (F0 m pc ls (va_rf x :: rest)) := by
  cases x with
  | none => exact lv_ifnullN X.1.1 X.1.2.1 hdg ht (kn rfl)
  | some b => exact lv_ifnull X.1.1 X.1.2.1 hdg (ks b rfl)
/-- a store of an object of the array's own class (Books: 24, class 1) -/
theorem m_aastB (X : Cx p m c cc nL s args own D cA) (hw : wS D cA z0 s σ H locs) (hT : gT σ a = 24) {i : Int32} {v : Nat} (hv : gT σ v = 1) (hin : vp_in i (gN σ a)) (hdg : decode cc pc = .ok (.aastore, 1))
    (kk : ∀ (H1 : Heap) (locs1 : List Loc), wS D cA z0 s (sP σ a i.toNatClampNeg (some v)) H1 locs1 → W p l e R s m args below meth c H1 locs1 cells slots Q (F0 m (pc + 1) ls rest)) : W p l e R s m args below meth c H locs cells slots Q (F0 m pc ls (.ref v :: .int i :: .ref a :: rest)) := by
  obtain ⟨⟨hx, hb, hml, hown, hts⟩, hK⟩ := X
  obtain ⟨h1, h2, h3⟩ := wd_arr (t := 4) hw.1 hT (by omega)
  have hlt : i.toNatClampNeg < gN σ a := Nat.not_le.mp fun q => hin (Or.inr q)
  have h0 : ¬ i < 0 := fun q => hin (Or.inl q)
  obtain ⟨-, -, cellV, g1, g2, g3, -⟩ := wd_obj hw.1 cl1 hv
  have hcls := (hK.1.1 1 _ cl1.1).2
  obtain ⟨kA, comp, k1, k2, k3, -⟩ := (arr_ty hK 4 (by omega)).2
  have hcomp : comp = D.1 1 := Option.some.inj (k3.symm.trans hcls.1)
  subst hcomp
  obtain ⟨kC, hkC, -⟩ := hcls.2
  refine W.aast hx hb h3 (fun q h => by cases h) (fun h => by cases h) k1 k2 rfl hkC ⟨h0, by rw [arrV_size]; exact hlt⟩ g1 (fun q h => by rw [g3] at h; cases h) (by rw [g2]; exact hkC) (by rw [g2]; exact va_assign hcls) rfl rfl hdg fun H' e1 e2 e3 => ?_
  exact kk H' _ (wd_ast (t := 4) hw (by omega) hT rfl (fun _ => rfl) (fun _ => rfl) (fun _ _ _ => rfl) (fun _ _ _ => rfl) (fun _ _ h => up2_ne h) (fv_sP (κ := fun _ => 2) rfl) e1 e2 e3)
theorem m_aastN (X : Cx p m c cc nL s args own D cA) (hw : wS D cA z0 s σ H locs) (hT : gT σ a = 25) {i : Int32} (hin : vp_in i (gN σ a)) (hdg : decode cc pc = .ok (.aastore, 1))
    (kk : ∀ (H1 : Heap) (locs1 : List Loc), wS D cA z0 s (sP σ a i.toNatClampNeg none) H1 locs1 → W p l e R s m args below meth c H1 locs1 cells slots Q (F0 m (pc + 1) ls rest)) : W p l e R s m args below meth c H locs cells slots Q (F0 m pc ls (.null :: .int i :: .ref a :: rest)) := by
  obtain ⟨⟨hx, hb, hml, hown, hts⟩, hK⟩ := X
  obtain ⟨h1, h2, h3⟩ := wd_arr (t := 5) hw.1 hT (by omega)
  refine va_WaastN (C := "SendForMore$Rule") hx hb h3 ((arr_ty hK 5 (by omega)).1 _ _) (fun h => by cases h) (by rw [arrV_size]; exact hin) rfl rfl hdg fun H' e1 e2 e3 => ?_
  exact kk H' _ (wd_ast (t := 5) (v := .null) hw (by omega) hT rfl (fun _ => rfl) (fun _ => rfl) (fun _ _ _ => rfl) (fun _ _ _ => rfl) (fun _ _ h => up2_ne h) (fv_sP (κ := fun _ => 2) (v := none) rfl) e1 e2 e3)
/-- a store of a Rule (Base 0, Lot 2, Pair 3, Table 9) -/
theorem m_aastR (X : Cx p m c cc nL s args own D cA) (hw : wS D cA z0 s σ H locs) (hT : gT σ a = 25) {i : Int32} {v : Nat} (K : Cls c0 C T N) (hc : Cond.castable C "SendForMore$Rule" ∈ castW) (hv : gT σ v = c0) (hin : vp_in i (gN σ a)) (hdg : decode cc pc = .ok (.aastore, 1))
    (kk : ∀ (H1 : Heap) (locs1 : List Loc), wS D cA z0 s (sP σ a i.toNatClampNeg (some v)) H1 locs1 → W p l e R s m args below meth c H1 locs1 cells slots Q (F0 m (pc + 1) ls rest)) : W p l e R s m args below meth c H locs cells slots Q (F0 m pc ls (.ref v :: .int i :: .ref a :: rest)) := by
  obtain ⟨⟨hx, hb, hml, hown, hts⟩, hK⟩ := X
  obtain ⟨h1, h2, h3⟩ := wd_arr (t := 5) hw.1 hT (by omega)
  have hlt : i.toNatClampNeg < gN σ a := Nat.not_le.mp fun q => hin (Or.inr q)
  have h0 : ¬ i < 0 := fun q => hin (Or.inl q)
  obtain ⟨-, -, cellV, g1, g2, g3, -⟩ := wd_obj hw.1 K hv
  have hcls := (hK.1.1 c0 _ K.1).2
  obtain ⟨kA, comp, k1, k2, k3, -⟩ := (arr_ty hK 5 (by omega)).2
  obtain ⟨cS, cT, f1, f2, f3⟩ := Cond.castable_spec (va_Nw.use (A := args) rfl (hK.2.2.2.1 _ hc))
  have e1 : cS = D.1 c0 := Option.some.inj (f1.symm.trans hcls.1)
  have e2 : cT = comp := Option.some.inj (f2.symm.trans k3)
  subst e1; subst e2
  obtain ⟨kC, hkC, -⟩ := hcls.2
  obtain ⟨cR, kR, hcR, hkR⟩ := hK.2.2.2.2.2
  have eR : cR = cT := Option.some.inj (hcR.symm.trans k3)
  refine W.aast hx hb h3 (fun q h => by cases h) (fun h => by cases h) k1 k2 rfl (by rw [← eR]; exact hkR) ⟨h0, by rw [arrV_size]; exact hlt⟩ g1 (fun q h => by rw [g3] at h; cases h) (by rw [g2]; exact hkC) (by rw [g2]; exact f3) rfl rfl hdg fun H' e1 e2 e3 => ?_
  exact kk H' _ (wd_ast (t := 5) hw (by omega) hT rfl (fun _ => rfl) (fun _ => rfl) (fun _ _ _ => rfl) (fun _ _ _ => rfl) (fun _ _ h => up2_ne h) (fv_sP (κ := fun _ => 2) rfl) e1 e2 e3)
end MC
end
section
theorem tt2 : (1:Nat) = 1 := rfl
end
