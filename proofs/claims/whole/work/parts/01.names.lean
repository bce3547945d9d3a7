/-! The tables' words (begun from the kit's skeleton, part A); then classes, fields, methods, links, by program (wip/whole/gen1.py) -/
/-- a private method of a class that the tables say can be made, by its rows of tables_1 -/
def lw_okq (q : MethodName × Nat) : Prop := (q.1.cls ≠ "java/lang/invoke/MethodHandle" ∧ q.1.cls ≠ "java/lang/invoke/VarHandle") ∧ Cond.instantiable q.1.cls q.2 ∈ tables_1 ∧ Cond.privateMethod q.1 ∈ tables_1 ∧ Cond.instanceMethod q.1 ∈ tables_1
theorem lw_p0 : lw_okq (⟨"TownSundays", "refused", "(I)I"⟩, 18) := ⟨⟨by decide +kernel, by decide +kernel⟩, List.mem_of_getElem? (i := 23) (by decide +kernel), List.mem_of_getElem? (i := 432) (by decide +kernel), List.mem_of_getElem? (i := 433) (by decide +kernel)⟩
theorem lw_p1 : lw_okq (⟨"TownSundays", "taken", "(I)I"⟩, 18) := ⟨⟨by decide +kernel, by decide +kernel⟩, List.mem_of_getElem? (i := 23) (by decide +kernel), List.mem_of_getElem? (i := 440) (by decide +kernel), List.mem_of_getElem? (i := 441) (by decide +kernel)⟩
theorem lw_p2 : lw_okq (⟨"TownSundays$Judge", "setWords", "(LTownSundays$Land;III)V"⟩, 2) := ⟨⟨by decide +kernel, by decide +kernel⟩, List.mem_of_getElem? (i := 230) (by decide +kernel), List.mem_of_getElem? (i := 464) (by decide +kernel), List.mem_of_getElem? (i := 465) (by decide +kernel)⟩
theorem lw_p3 : lw_okq (⟨"TownSundays$Judge", "lastTold", "(LTownSundays$Text;I)I"⟩, 2) := ⟨⟨by decide +kernel, by decide +kernel⟩, List.mem_of_getElem? (i := 230) (by decide +kernel), List.mem_of_getElem? (i := 472) (by decide +kernel), List.mem_of_getElem? (i := 473) (by decide +kernel)⟩
theorem lw_p4 : lw_okq (⟨"TownSundays", "isRoadTold", "(I)Z"⟩, 18) := ⟨⟨by decide +kernel, by decide +kernel⟩, List.mem_of_getElem? (i := 23) (by decide +kernel), List.mem_of_getElem? (i := 558) (by decide +kernel), List.mem_of_getElem? (i := 559) (by decide +kernel)⟩
theorem lw_p5 : lw_okq (⟨"TownSundays$Reader", "nextToken", "()V"⟩, 10) := ⟨⟨by decide +kernel, by decide +kernel⟩, List.mem_of_getElem? (i := 146) (by decide +kernel), List.mem_of_getElem? (i := 582) (by decide +kernel), List.mem_of_getElem? (i := 583) (by decide +kernel)⟩
theorem lw_p6 : lw_okq (⟨"TownSundays$Reader", "wordUpTo", "(I)I"⟩, 10) := ⟨⟨by decide +kernel, by decide +kernel⟩, List.mem_of_getElem? (i := 146) (by decide +kernel), List.mem_of_getElem? (i := 586) (by decide +kernel), List.mem_of_getElem? (i := 587) (by decide +kernel)⟩
theorem lw_p7 : lw_okq (⟨"TownSundays$Reader", "readClause", "()V"⟩, 10) := ⟨⟨by decide +kernel, by decide +kernel⟩, List.mem_of_getElem? (i := 146) (by decide +kernel), List.mem_of_getElem? (i := 639) (by decide +kernel), List.mem_of_getElem? (i := 640) (by decide +kernel)⟩
theorem lw_p8 : lw_okq (⟨"TownSundays$Reader", "fail", "()V"⟩, 10) := ⟨⟨by decide +kernel, by decide +kernel⟩, List.mem_of_getElem? (i := 146) (by decide +kernel), List.mem_of_getElem? (i := 643) (by decide +kernel), List.mem_of_getElem? (i := 644) (by decide +kernel)⟩
theorem lw_p9 : lw_okq (⟨"TownSundays$Reader", "readOrder", "(I)V"⟩, 10) := ⟨⟨by decide +kernel, by decide +kernel⟩, List.mem_of_getElem? (i := 146) (by decide +kernel), List.mem_of_getElem? (i := 647) (by decide +kernel), List.mem_of_getElem? (i := 648) (by decide +kernel)⟩
theorem lw_p10 : lw_okq (⟨"TownSundays$Reader", "take", "(I)Z"⟩, 10) := ⟨⟨by decide +kernel, by decide +kernel⟩, List.mem_of_getElem? (i := 146) (by decide +kernel), List.mem_of_getElem? (i := 651) (by decide +kernel), List.mem_of_getElem? (i := 652) (by decide +kernel)⟩
theorem lw_p11 : lw_okq (⟨"TownSundays$Reader", "readSums", "(III)V"⟩, 10) := ⟨⟨by decide +kernel, by decide +kernel⟩, List.mem_of_getElem? (i := 146) (by decide +kernel), List.mem_of_getElem? (i := 655) (by decide +kernel), List.mem_of_getElem? (i := 656) (by decide +kernel)⟩
theorem lw_p12 : lw_okq (⟨"TownSundays$Reader", "readSum", "(I)V"⟩, 10) := ⟨⟨by decide +kernel, by decide +kernel⟩, List.mem_of_getElem? (i := 146) (by decide +kernel), List.mem_of_getElem? (i := 659) (by decide +kernel), List.mem_of_getElem? (i := 660) (by decide +kernel)⟩
theorem lw_p13 : lw_okq (⟨"TownSundays$Reader", "readTerm", "(I)V"⟩, 10) := ⟨⟨by decide +kernel, by decide +kernel⟩, List.mem_of_getElem? (i := 146) (by decide +kernel), List.mem_of_getElem? (i := 663) (by decide +kernel), List.mem_of_getElem? (i := 664) (by decide +kernel)⟩
theorem lw_p14 : lw_okq (⟨"TownSundays$Reader", "readPart", "(I)V"⟩, 10) := ⟨⟨by decide +kernel, by decide +kernel⟩, List.mem_of_getElem? (i := 146) (by decide +kernel), List.mem_of_getElem? (i := 667) (by decide +kernel), List.mem_of_getElem? (i := 668) (by decide +kernel)⟩
theorem lw_p15 : lw_okq (⟨"TownSundays$Reader", "isNumber", "(II)Z"⟩, 10) := ⟨⟨by decide +kernel, by decide +kernel⟩, List.mem_of_getElem? (i := 146) (by decide +kernel), List.mem_of_getElem? (i := 671) (by decide +kernel), List.mem_of_getElem? (i := 672) (by decide +kernel)⟩
def lw_privs_1 : List (MethodName × Nat) := [(⟨"TownSundays", "refused", "(I)I"⟩, 18), (⟨"TownSundays", "taken", "(I)I"⟩, 18), (⟨"TownSundays$Judge", "setWords", "(LTownSundays$Land;III)V"⟩, 2), (⟨"TownSundays$Judge", "lastTold", "(LTownSundays$Text;I)I"⟩, 2), (⟨"TownSundays", "isRoadTold", "(I)Z"⟩, 18), (⟨"TownSundays$Reader", "nextToken", "()V"⟩, 10), (⟨"TownSundays$Reader", "wordUpTo", "(I)I"⟩, 10), (⟨"TownSundays$Reader", "readClause", "()V"⟩, 10), (⟨"TownSundays$Reader", "fail", "()V"⟩, 10), (⟨"TownSundays$Reader", "readOrder", "(I)V"⟩, 10), (⟨"TownSundays$Reader", "take", "(I)Z"⟩, 10), (⟨"TownSundays$Reader", "readSums", "(III)V"⟩, 10), (⟨"TownSundays$Reader", "readSum", "(I)V"⟩, 10), (⟨"TownSundays$Reader", "readTerm", "(I)V"⟩, 10), (⟨"TownSundays$Reader", "readPart", "(I)V"⟩, 10), (⟨"TownSundays$Reader", "isNumber", "(II)Z"⟩, 10)]
theorem lw_r1 : ∀ q ∈ lw_privs_1, lw_okq q := List.forall_mem_cons.mpr ⟨lw_p0, List.forall_mem_cons.mpr ⟨lw_p1, List.forall_mem_cons.mpr ⟨lw_p2, List.forall_mem_cons.mpr ⟨lw_p3, List.forall_mem_cons.mpr ⟨lw_p4, List.forall_mem_cons.mpr ⟨lw_p5, List.forall_mem_cons.mpr ⟨lw_p6, List.forall_mem_cons.mpr ⟨lw_p7, List.forall_mem_cons.mpr ⟨lw_p8, List.forall_mem_cons.mpr ⟨lw_p9, List.forall_mem_cons.mpr ⟨lw_p10, List.forall_mem_cons.mpr ⟨lw_p11, List.forall_mem_cons.mpr ⟨lw_p12, List.forall_mem_cons.mpr ⟨lw_p13, List.forall_mem_cons.mpr ⟨lw_p14, List.forall_mem_cons.mpr ⟨lw_p15, fun _ h => absurd h List.not_mem_nil⟩⟩⟩⟩⟩⟩⟩⟩⟩⟩⟩⟩⟩⟩⟩⟩
theorem lw_p16 : lw_okq (⟨"TownSundays$Reader", "ordersWord", "()I"⟩, 10) := ⟨⟨by decide +kernel, by decide +kernel⟩, List.mem_of_getElem? (i := 146) (by decide +kernel), List.mem_of_getElem? (i := 675) (by decide +kernel), List.mem_of_getElem? (i := 676) (by decide +kernel)⟩
theorem lw_p17 : lw_okq (⟨"TownSundays$Reader", "lawWord", "()I"⟩, 10) := ⟨⟨by decide +kernel, by decide +kernel⟩, List.mem_of_getElem? (i := 146) (by decide +kernel), List.mem_of_getElem? (i := 679) (by decide +kernel), List.mem_of_getElem? (i := 680) (by decide +kernel)⟩
theorem lw_p18 : lw_okq (⟨"TownSundays$Reader", "readTimes", "(I)V"⟩, 10) := ⟨⟨by decide +kernel, by decide +kernel⟩, List.mem_of_getElem? (i := 146) (by decide +kernel), List.mem_of_getElem? (i := 691) (by decide +kernel), List.mem_of_getElem? (i := 692) (by decide +kernel)⟩
theorem lw_p19 : lw_okq (⟨"TownSundays$Reader", "readRule", "(I)V"⟩, 10) := ⟨⟨by decide +kernel, by decide +kernel⟩, List.mem_of_getElem? (i := 146) (by decide +kernel), List.mem_of_getElem? (i := 695) (by decide +kernel), List.mem_of_getElem? (i := 696) (by decide +kernel)⟩
theorem lw_p20 : lw_okq (⟨"TownSundays$Reader", "readTest", "(I)V"⟩, 10) := ⟨⟨by decide +kernel, by decide +kernel⟩, List.mem_of_getElem? (i := 146) (by decide +kernel), List.mem_of_getElem? (i := 699) (by decide +kernel), List.mem_of_getElem? (i := 700) (by decide +kernel)⟩
theorem lw_p21 : lw_okq (⟨"TownSundays$Reader", "readBoth", "(I)V"⟩, 10) := ⟨⟨by decide +kernel, by decide +kernel⟩, List.mem_of_getElem? (i := 146) (by decide +kernel), List.mem_of_getElem? (i := 703) (by decide +kernel), List.mem_of_getElem? (i := 704) (by decide +kernel)⟩
theorem lw_p22 : lw_okq (⟨"TownSundays$Reader", "readPlain", "(I)V"⟩, 10) := ⟨⟨by decide +kernel, by decide +kernel⟩, List.mem_of_getElem? (i := 146) (by decide +kernel), List.mem_of_getElem? (i := 707) (by decide +kernel), List.mem_of_getElem? (i := 708) (by decide +kernel)⟩
theorem lw_p23 : lw_okq (⟨"TownSundays$Runner", "runOnce", "(LTownSundays$Text;ILTownSundays$Land;LTownSundays$Past;)Z"⟩, 5) := ⟨⟨by decide +kernel, by decide +kernel⟩, List.mem_of_getElem? (i := 268) (by decide +kernel), List.mem_of_getElem? (i := 743) (by decide +kernel), List.mem_of_getElem? (i := 744) (by decide +kernel)⟩
theorem lw_p24 : lw_okq (⟨"TownSundays$Runner", "setWords", "(LTownSundays$Land;)V"⟩, 5) := ⟨⟨by decide +kernel, by decide +kernel⟩, List.mem_of_getElem? (i := 268) (by decide +kernel), List.mem_of_getElem? (i := 747) (by decide +kernel), List.mem_of_getElem? (i := 748) (by decide +kernel)⟩
theorem lw_p25 : lw_okq (⟨"TownSundays", "moved", "(I)I"⟩, 18) := ⟨⟨by decide +kernel, by decide +kernel⟩, List.mem_of_getElem? (i := 23) (by decide +kernel), List.mem_of_getElem? (i := 818) (by decide +kernel), List.mem_of_getElem? (i := 819) (by decide +kernel)⟩
theorem lw_p26 : lw_okq (⟨"TownSundays", "ringCount", "()I"⟩, 18) := ⟨⟨by decide +kernel, by decide +kernel⟩, List.mem_of_getElem? (i := 23) (by decide +kernel), List.mem_of_getElem? (i := 852) (by decide +kernel), List.mem_of_getElem? (i := 853) (by decide +kernel)⟩
theorem lw_p27 : lw_okq (⟨"TownSundays", "ringLength", "(I)I"⟩, 18) := ⟨⟨by decide +kernel, by decide +kernel⟩, List.mem_of_getElem? (i := 23) (by decide +kernel), List.mem_of_getElem? (i := 856) (by decide +kernel), List.mem_of_getElem? (i := 857) (by decide +kernel)⟩
theorem lw_p28 : lw_okq (⟨"TownSundays$Paper", "weighRest", "(II)V"⟩, 6) := ⟨⟨by decide +kernel, by decide +kernel⟩, List.mem_of_getElem? (i := 312) (by decide +kernel), List.mem_of_getElem? (i := 895) (by decide +kernel), List.mem_of_getElem? (i := 896) (by decide +kernel)⟩
theorem lw_p29 : lw_okq (⟨"TownSundays$Paper", "worthThrough", "(III)I"⟩, 6) := ⟨⟨by decide +kernel, by decide +kernel⟩, List.mem_of_getElem? (i := 312) (by decide +kernel), List.mem_of_getElem? (i := 905) (by decide +kernel), List.mem_of_getElem? (i := 906) (by decide +kernel)⟩
theorem lw_p30 : lw_okq (⟨"TownSundays$Paper", "firstOfBest", "(III)I"⟩, 6) := ⟨⟨by decide +kernel, by decide +kernel⟩, List.mem_of_getElem? (i := 312) (by decide +kernel), List.mem_of_getElem? (i := 910) (by decide +kernel), List.mem_of_getElem? (i := 911) (by decide +kernel)⟩
theorem lw_p31 : lw_okq (⟨"TownSundays$WayHome", "fillSendable", "(LTownSundays$Land;LTownSundays$Judge;)V"⟩, 9) := ⟨⟨by decide +kernel, by decide +kernel⟩, List.mem_of_getElem? (i := 337) (by decide +kernel), List.mem_of_getElem? (i := 937) (by decide +kernel), List.mem_of_getElem? (i := 938) (by decide +kernel)⟩
def lw_privs_2 : List (MethodName × Nat) := [(⟨"TownSundays$Reader", "ordersWord", "()I"⟩, 10), (⟨"TownSundays$Reader", "lawWord", "()I"⟩, 10), (⟨"TownSundays$Reader", "readTimes", "(I)V"⟩, 10), (⟨"TownSundays$Reader", "readRule", "(I)V"⟩, 10), (⟨"TownSundays$Reader", "readTest", "(I)V"⟩, 10), (⟨"TownSundays$Reader", "readBoth", "(I)V"⟩, 10), (⟨"TownSundays$Reader", "readPlain", "(I)V"⟩, 10), (⟨"TownSundays$Runner", "runOnce", "(LTownSundays$Text;ILTownSundays$Land;LTownSundays$Past;)Z"⟩, 5), (⟨"TownSundays$Runner", "setWords", "(LTownSundays$Land;)V"⟩, 5), (⟨"TownSundays", "moved", "(I)I"⟩, 18), (⟨"TownSundays", "ringCount", "()I"⟩, 18), (⟨"TownSundays", "ringLength", "(I)I"⟩, 18), (⟨"TownSundays$Paper", "weighRest", "(II)V"⟩, 6), (⟨"TownSundays$Paper", "worthThrough", "(III)I"⟩, 6), (⟨"TownSundays$Paper", "firstOfBest", "(III)I"⟩, 6), (⟨"TownSundays$WayHome", "fillSendable", "(LTownSundays$Land;LTownSundays$Judge;)V"⟩, 9)]
theorem lw_r2 : ∀ q ∈ lw_privs_2, lw_okq q := List.forall_mem_cons.mpr ⟨lw_p16, List.forall_mem_cons.mpr ⟨lw_p17, List.forall_mem_cons.mpr ⟨lw_p18, List.forall_mem_cons.mpr ⟨lw_p19, List.forall_mem_cons.mpr ⟨lw_p20, List.forall_mem_cons.mpr ⟨lw_p21, List.forall_mem_cons.mpr ⟨lw_p22, List.forall_mem_cons.mpr ⟨lw_p23, List.forall_mem_cons.mpr ⟨lw_p24, List.forall_mem_cons.mpr ⟨lw_p25, List.forall_mem_cons.mpr ⟨lw_p26, List.forall_mem_cons.mpr ⟨lw_p27, List.forall_mem_cons.mpr ⟨lw_p28, List.forall_mem_cons.mpr ⟨lw_p29, List.forall_mem_cons.mpr ⟨lw_p30, List.forall_mem_cons.mpr ⟨lw_p31, fun _ h => absurd h List.not_mem_nil⟩⟩⟩⟩⟩⟩⟩⟩⟩⟩⟩⟩⟩⟩⟩⟩
theorem lw_p32 : lw_okq (⟨"TownSundays$WayHome", "isFound", "(II)Z"⟩, 9) := ⟨⟨by decide +kernel, by decide +kernel⟩, List.mem_of_getElem? (i := 337) (by decide +kernel), List.mem_of_getElem? (i := 943) (by decide +kernel), List.mem_of_getElem? (i := 944) (by decide +kernel)⟩
theorem lw_p33 : lw_okq (⟨"TownSundays$WayHome", "search", "(III)I"⟩, 9) := ⟨⟨by decide +kernel, by decide +kernel⟩, List.mem_of_getElem? (i := 337) (by decide +kernel), List.mem_of_getElem? (i := 948) (by decide +kernel), List.mem_of_getElem? (i := 949) (by decide +kernel)⟩
theorem lw_p34 : lw_okq (⟨"TownSundays$WayHome", "makeRoom", "()V"⟩, 9) := ⟨⟨by decide +kernel, by decide +kernel⟩, List.mem_of_getElem? (i := 337) (by decide +kernel), List.mem_of_getElem? (i := 952) (by decide +kernel), List.mem_of_getElem? (i := 953) (by decide +kernel)⟩
theorem lw_p35 : lw_okq (⟨"TownSundays$WayHome", "markSeen", "(I)Z"⟩, 9) := ⟨⟨by decide +kernel, by decide +kernel⟩, List.mem_of_getElem? (i := 337) (by decide +kernel), List.mem_of_getElem? (i := 959) (by decide +kernel), List.mem_of_getElem? (i := 960) (by decide +kernel)⟩
theorem lw_p36 : lw_okq (⟨"TownSundays$WayHome", "addNext", "(IIII)I"⟩, 9) := ⟨⟨by decide +kernel, by decide +kernel⟩, List.mem_of_getElem? (i := 337) (by decide +kernel), List.mem_of_getElem? (i := 964) (by decide +kernel), List.mem_of_getElem? (i := 965) (by decide +kernel)⟩
theorem lw_p37 : lw_okq (⟨"TownSundays$WayHome", "stepsTo", "(I)I"⟩, 9) := ⟨⟨by decide +kernel, by decide +kernel⟩, List.mem_of_getElem? (i := 337) (by decide +kernel), List.mem_of_getElem? (i := 969) (by decide +kernel), List.mem_of_getElem? (i := 970) (by decide +kernel)⟩
theorem lw_p38 : lw_okq (⟨"TownSundays$Paper", "setWishes", "(LTownSundays$Land;I)V"⟩, 6) := ⟨⟨by decide +kernel, by decide +kernel⟩, List.mem_of_getElem? (i := 312) (by decide +kernel), List.mem_of_getElem? (i := 987) (by decide +kernel), List.mem_of_getElem? (i := 988) (by decide +kernel)⟩
theorem lw_p39 : lw_okq (⟨"TownSundays$Paper", "wishOf", "(LTownSundays$Land;II)I"⟩, 6) := ⟨⟨by decide +kernel, by decide +kernel⟩, List.mem_of_getElem? (i := 312) (by decide +kernel), List.mem_of_getElem? (i := 991) (by decide +kernel), List.mem_of_getElem? (i := 992) (by decide +kernel)⟩
theorem lw_p40 : lw_okq (⟨"TownSundays$Paper", "inRings", "(LTownSundays$Land;I)I"⟩, 6) := ⟨⟨by decide +kernel, by decide +kernel⟩, List.mem_of_getElem? (i := 312) (by decide +kernel), List.mem_of_getElem? (i := 995) (by decide +kernel), List.mem_of_getElem? (i := 996) (by decide +kernel)⟩
theorem lw_p41 : lw_okq (⟨"TownSundays$Paper", "gains", "(LTownSundays$Land;II)Z"⟩, 6) := ⟨⟨by decide +kernel, by decide +kernel⟩, List.mem_of_getElem? (i := 312) (by decide +kernel), List.mem_of_getElem? (i := 1007) (by decide +kernel), List.mem_of_getElem? (i := 1008) (by decide +kernel)⟩
theorem lw_p42 : lw_okq (⟨"TownSundaysModel", "refuses", "(I)I"⟩, 57) := ⟨⟨by decide +kernel, by decide +kernel⟩, List.mem_of_getElem? (i := 1099) (by decide +kernel), List.mem_of_getElem? (i := 1285) (by decide +kernel), List.mem_of_getElem? (i := 1286) (by decide +kernel)⟩
theorem lw_p43 : lw_okq (⟨"TownSundaysModel", "good", "(I)I"⟩, 57) := ⟨⟨by decide +kernel, by decide +kernel⟩, List.mem_of_getElem? (i := 1099) (by decide +kernel), List.mem_of_getElem? (i := 1289) (by decide +kernel), List.mem_of_getElem? (i := 1290) (by decide +kernel)⟩
theorem lw_p44 : lw_okq (⟨"TownSundaysModel", "settled", "(I)I"⟩, 57) := ⟨⟨by decide +kernel, by decide +kernel⟩, List.mem_of_getElem? (i := 1099) (by decide +kernel), List.mem_of_getElem? (i := 1297) (by decide +kernel), List.mem_of_getElem? (i := 1298) (by decide +kernel)⟩
theorem lw_p45 : lw_okq (⟨"TownSundaysModel", "townMany", "()I"⟩, 57) := ⟨⟨by decide +kernel, by decide +kernel⟩, List.mem_of_getElem? (i := 1099) (by decide +kernel), List.mem_of_getElem? (i := 1305) (by decide +kernel), List.mem_of_getElem? (i := 1306) (by decide +kernel)⟩
theorem lw_p46 : lw_okq (⟨"TownSundaysModel", "isTown", "(I)Z"⟩, 57) := ⟨⟨by decide +kernel, by decide +kernel⟩, List.mem_of_getElem? (i := 1099) (by decide +kernel), List.mem_of_getElem? (i := 1313) (by decide +kernel), List.mem_of_getElem? (i := 1314) (by decide +kernel)⟩
theorem lw_p47 : lw_okq (⟨"TownSundaysModel", "likesOf", "(II)I"⟩, 57) := ⟨⟨by decide +kernel, by decide +kernel⟩, List.mem_of_getElem? (i := 1099) (by decide +kernel), List.mem_of_getElem? (i := 1317) (by decide +kernel), List.mem_of_getElem? (i := 1318) (by decide +kernel)⟩
def lw_privs_3 : List (MethodName × Nat) := [(⟨"TownSundays$WayHome", "isFound", "(II)Z"⟩, 9), (⟨"TownSundays$WayHome", "search", "(III)I"⟩, 9), (⟨"TownSundays$WayHome", "makeRoom", "()V"⟩, 9), (⟨"TownSundays$WayHome", "markSeen", "(I)Z"⟩, 9), (⟨"TownSundays$WayHome", "addNext", "(IIII)I"⟩, 9), (⟨"TownSundays$WayHome", "stepsTo", "(I)I"⟩, 9), (⟨"TownSundays$Paper", "setWishes", "(LTownSundays$Land;I)V"⟩, 6), (⟨"TownSundays$Paper", "wishOf", "(LTownSundays$Land;II)I"⟩, 6), (⟨"TownSundays$Paper", "inRings", "(LTownSundays$Land;I)I"⟩, 6), (⟨"TownSundays$Paper", "gains", "(LTownSundays$Land;II)Z"⟩, 6), (⟨"TownSundaysModel", "refuses", "(I)I"⟩, 57), (⟨"TownSundaysModel", "good", "(I)I"⟩, 57), (⟨"TownSundaysModel", "settled", "(I)I"⟩, 57), (⟨"TownSundaysModel", "townMany", "()I"⟩, 57), (⟨"TownSundaysModel", "isTown", "(I)Z"⟩, 57), (⟨"TownSundaysModel", "likesOf", "(II)I"⟩, 57)]
theorem lw_r3 : ∀ q ∈ lw_privs_3, lw_okq q := List.forall_mem_cons.mpr ⟨lw_p32, List.forall_mem_cons.mpr ⟨lw_p33, List.forall_mem_cons.mpr ⟨lw_p34, List.forall_mem_cons.mpr ⟨lw_p35, List.forall_mem_cons.mpr ⟨lw_p36, List.forall_mem_cons.mpr ⟨lw_p37, List.forall_mem_cons.mpr ⟨lw_p38, List.forall_mem_cons.mpr ⟨lw_p39, List.forall_mem_cons.mpr ⟨lw_p40, List.forall_mem_cons.mpr ⟨lw_p41, List.forall_mem_cons.mpr ⟨lw_p42, List.forall_mem_cons.mpr ⟨lw_p43, List.forall_mem_cons.mpr ⟨lw_p44, List.forall_mem_cons.mpr ⟨lw_p45, List.forall_mem_cons.mpr ⟨lw_p46, List.forall_mem_cons.mpr ⟨lw_p47, fun _ h => absurd h List.not_mem_nil⟩⟩⟩⟩⟩⟩⟩⟩⟩⟩⟩⟩⟩⟩⟩⟩
theorem lw_p48 : lw_okq (⟨"TownSundaysModel", "milesFor", "(II)I"⟩, 57) := ⟨⟨by decide +kernel, by decide +kernel⟩, List.mem_of_getElem? (i := 1099) (by decide +kernel), List.mem_of_getElem? (i := 1321) (by decide +kernel), List.mem_of_getElem? (i := 1322) (by decide +kernel)⟩
theorem lw_p49 : lw_okq (⟨"TownSundaysModel", "whereIs", "(I)I"⟩, 57) := ⟨⟨by decide +kernel, by decide +kernel⟩, List.mem_of_getElem? (i := 1099) (by decide +kernel), List.mem_of_getElem? (i := 1325) (by decide +kernel), List.mem_of_getElem? (i := 1326) (by decide +kernel)⟩
theorem lw_p50 : lw_okq (⟨"TownSundaysModel", "milesOf", "(II)I"⟩, 57) := ⟨⟨by decide +kernel, by decide +kernel⟩, List.mem_of_getElem? (i := 1099) (by decide +kernel), List.mem_of_getElem? (i := 1329) (by decide +kernel), List.mem_of_getElem? (i := 1330) (by decide +kernel)⟩
theorem lw_p51 : lw_okq (⟨"TownSundaysModel", "setsAsked", "(III)V"⟩, 57) := ⟨⟨by decide +kernel, by decide +kernel⟩, List.mem_of_getElem? (i := 1099) (by decide +kernel), List.mem_of_getElem? (i := 1336) (by decide +kernel), List.mem_of_getElem? (i := 1337) (by decide +kernel)⟩
theorem lw_p52 : lw_okq (⟨"TownSundaysModel", "tells", "(III)I"⟩, 57) := ⟨⟨by decide +kernel, by decide +kernel⟩, List.mem_of_getElem? (i := 1099) (by decide +kernel), List.mem_of_getElem? (i := 1340) (by decide +kernel), List.mem_of_getElem? (i := 1341) (by decide +kernel)⟩
theorem lw_p53 : lw_okq (⟨"TownSundaysModel", "codeAt", "(I)I"⟩, 57) := ⟨⟨by decide +kernel, by decide +kernel⟩, List.mem_of_getElem? (i := 1099) (by decide +kernel), List.mem_of_getElem? (i := 1344) (by decide +kernel), List.mem_of_getElem? (i := 1345) (by decide +kernel)⟩
theorem lw_p54 : lw_okq (⟨"TownSundaysModel", "sumOf", "(Z)J"⟩, 57) := ⟨⟨by decide +kernel, by decide +kernel⟩, List.mem_of_getElem? (i := 1099) (by decide +kernel), List.mem_of_getElem? (i := 1348) (by decide +kernel), List.mem_of_getElem? (i := 1349) (by decide +kernel)⟩
theorem lw_p55 : lw_okq (⟨"TownSundaysModel", "termOf", "(Z)J"⟩, 57) := ⟨⟨by decide +kernel, by decide +kernel⟩, List.mem_of_getElem? (i := 1099) (by decide +kernel), List.mem_of_getElem? (i := 1352) (by decide +kernel), List.mem_of_getElem? (i := 1353) (by decide +kernel)⟩
theorem lw_p56 : lw_okq (⟨"TownSundaysModel", "partOf", "(Z)J"⟩, 57) := ⟨⟨by decide +kernel, by decide +kernel⟩, List.mem_of_getElem? (i := 1099) (by decide +kernel), List.mem_of_getElem? (i := 1356) (by decide +kernel), List.mem_of_getElem? (i := 1357) (by decide +kernel)⟩
theorem lw_p57 : lw_okq (⟨"TownSundaysModel", "passes0", "(I)Z"⟩, 57) := ⟨⟨by decide +kernel, by decide +kernel⟩, List.mem_of_getElem? (i := 1099) (by decide +kernel), List.mem_of_getElem? (i := 1363) (by decide +kernel), List.mem_of_getElem? (i := 1364) (by decide +kernel)⟩
theorem lw_p58 : lw_okq (⟨"TownSundaysModel", "orderValue", "(II)I"⟩, 57) := ⟨⟨by decide +kernel, by decide +kernel⟩, List.mem_of_getElem? (i := 1099) (by decide +kernel), List.mem_of_getElem? (i := 1367) (by decide +kernel), List.mem_of_getElem? (i := 1368) (by decide +kernel)⟩
theorem lw_p59 : lw_okq (⟨"TownSundaysModel", "homeMany", "()I"⟩, 57) := ⟨⟨by decide +kernel, by decide +kernel⟩, List.mem_of_getElem? (i := 1099) (by decide +kernel), List.mem_of_getElem? (i := 1371) (by decide +kernel), List.mem_of_getElem? (i := 1372) (by decide +kernel)⟩
theorem lw_p60 : lw_okq (⟨"TownSundaysModel", "bounded", "(JZ)J"⟩, 57) := ⟨⟨by decide +kernel, by decide +kernel⟩, List.mem_of_getElem? (i := 1099) (by decide +kernel), List.mem_of_getElem? (i := 1375) (by decide +kernel), List.mem_of_getElem? (i := 1376) (by decide +kernel)⟩
theorem lw_p61 : lw_okq (⟨"TownSundaysModel", "testOf", "(Z)Z"⟩, 57) := ⟨⟨by decide +kernel, by decide +kernel⟩, List.mem_of_getElem? (i := 1099) (by decide +kernel), List.mem_of_getElem? (i := 1381) (by decide +kernel), List.mem_of_getElem? (i := 1382) (by decide +kernel)⟩
theorem lw_p62 : lw_okq (⟨"TownSundaysModel", "bothOf", "(Z)Z"⟩, 57) := ⟨⟨by decide +kernel, by decide +kernel⟩, List.mem_of_getElem? (i := 1099) (by decide +kernel), List.mem_of_getElem? (i := 1385) (by decide +kernel), List.mem_of_getElem? (i := 1386) (by decide +kernel)⟩
theorem lw_p63 : lw_okq (⟨"TownSundaysModel", "plainOf", "(Z)Z"⟩, 57) := ⟨⟨by decide +kernel, by decide +kernel⟩, List.mem_of_getElem? (i := 1099) (by decide +kernel), List.mem_of_getElem? (i := 1389) (by decide +kernel), List.mem_of_getElem? (i := 1390) (by decide +kernel)⟩
def lw_privs_4 : List (MethodName × Nat) := [(⟨"TownSundaysModel", "milesFor", "(II)I"⟩, 57), (⟨"TownSundaysModel", "whereIs", "(I)I"⟩, 57), (⟨"TownSundaysModel", "milesOf", "(II)I"⟩, 57), (⟨"TownSundaysModel", "setsAsked", "(III)V"⟩, 57), (⟨"TownSundaysModel", "tells", "(III)I"⟩, 57), (⟨"TownSundaysModel", "codeAt", "(I)I"⟩, 57), (⟨"TownSundaysModel", "sumOf", "(Z)J"⟩, 57), (⟨"TownSundaysModel", "termOf", "(Z)J"⟩, 57), (⟨"TownSundaysModel", "partOf", "(Z)J"⟩, 57), (⟨"TownSundaysModel", "passes0", "(I)Z"⟩, 57), (⟨"TownSundaysModel", "orderValue", "(II)I"⟩, 57), (⟨"TownSundaysModel", "homeMany", "()I"⟩, 57), (⟨"TownSundaysModel", "bounded", "(JZ)J"⟩, 57), (⟨"TownSundaysModel", "testOf", "(Z)Z"⟩, 57), (⟨"TownSundaysModel", "bothOf", "(Z)Z"⟩, 57), (⟨"TownSundaysModel", "plainOf", "(Z)Z"⟩, 57)]
theorem lw_r4 : ∀ q ∈ lw_privs_4, lw_okq q := List.forall_mem_cons.mpr ⟨lw_p48, List.forall_mem_cons.mpr ⟨lw_p49, List.forall_mem_cons.mpr ⟨lw_p50, List.forall_mem_cons.mpr ⟨lw_p51, List.forall_mem_cons.mpr ⟨lw_p52, List.forall_mem_cons.mpr ⟨lw_p53, List.forall_mem_cons.mpr ⟨lw_p54, List.forall_mem_cons.mpr ⟨lw_p55, List.forall_mem_cons.mpr ⟨lw_p56, List.forall_mem_cons.mpr ⟨lw_p57, List.forall_mem_cons.mpr ⟨lw_p58, List.forall_mem_cons.mpr ⟨lw_p59, List.forall_mem_cons.mpr ⟨lw_p60, List.forall_mem_cons.mpr ⟨lw_p61, List.forall_mem_cons.mpr ⟨lw_p62, List.forall_mem_cons.mpr ⟨lw_p63, fun _ h => absurd h List.not_mem_nil⟩⟩⟩⟩⟩⟩⟩⟩⟩⟩⟩⟩⟩⟩⟩⟩
theorem lw_p64 : lw_okq (⟨"TownSundaysModel", "positiveOf", "(Z)Z"⟩, 57) := ⟨⟨by decide +kernel, by decide +kernel⟩, List.mem_of_getElem? (i := 1099) (by decide +kernel), List.mem_of_getElem? (i := 1393) (by decide +kernel), List.mem_of_getElem? (i := 1394) (by decide +kernel)⟩
theorem lw_p65 : lw_okq (⟨"TownSundaysModel", "canHave", "(II)Z"⟩, 57) := ⟨⟨by decide +kernel, by decide +kernel⟩, List.mem_of_getElem? (i := 1099) (by decide +kernel), List.mem_of_getElem? (i := 1397) (by decide +kernel), List.mem_of_getElem? (i := 1398) (by decide +kernel)⟩
theorem lw_p66 : lw_okq (⟨"TownSundaysModel", "canSend", "(III)Z"⟩, 57) := ⟨⟨by decide +kernel, by decide +kernel⟩, List.mem_of_getElem? (i := 1099) (by decide +kernel), List.mem_of_getElem? (i := 1401) (by decide +kernel), List.mem_of_getElem? (i := 1402) (by decide +kernel)⟩
theorem lw_p67 : lw_okq (⟨"TownSundaysModel", "isOpen", "(II)Z"⟩, 57) := ⟨⟨by decide +kernel, by decide +kernel⟩, List.mem_of_getElem? (i := 1099) (by decide +kernel), List.mem_of_getElem? (i := 1405) (by decide +kernel), List.mem_of_getElem? (i := 1406) (by decide +kernel)⟩
theorem lw_p68 : lw_okq (⟨"TownSundaysModel", "barredFrom", "(III)Z"⟩, 57) := ⟨⟨by decide +kernel, by decide +kernel⟩, List.mem_of_getElem? (i := 1099) (by decide +kernel), List.mem_of_getElem? (i := 1409) (by decide +kernel), List.mem_of_getElem? (i := 1410) (by decide +kernel)⟩
theorem lw_p69 : lw_okq (⟨"TownSundaysModel", "altersOf", "(II)I"⟩, 57) := ⟨⟨by decide +kernel, by decide +kernel⟩, List.mem_of_getElem? (i := 1099) (by decide +kernel), List.mem_of_getElem? (i := 1417) (by decide +kernel), List.mem_of_getElem? (i := 1418) (by decide +kernel)⟩
theorem lw_p70 : lw_okq (⟨"TownSundaysModel", "areTwo", "(II)Z"⟩, 57) := ⟨⟨by decide +kernel, by decide +kernel⟩, List.mem_of_getElem? (i := 1099) (by decide +kernel), List.mem_of_getElem? (i := 1425) (by decide +kernel), List.mem_of_getElem? (i := 1426) (by decide +kernel)⟩
theorem lw_p71 : lw_okq (⟨"TownSundaysModel", "laysRoad", "(III)V"⟩, 57) := ⟨⟨by decide +kernel, by decide +kernel⟩, List.mem_of_getElem? (i := 1099) (by decide +kernel), List.mem_of_getElem? (i := 1429) (by decide +kernel), List.mem_of_getElem? (i := 1430) (by decide +kernel)⟩
theorem lw_p72 : lw_okq (⟨"TownSundaysModel", "readsAs", "(Z)Z"⟩, 57) := ⟨⟨by decide +kernel, by decide +kernel⟩, List.mem_of_getElem? (i := 1099) (by decide +kernel), List.mem_of_getElem? (i := 1467) (by decide +kernel), List.mem_of_getElem? (i := 1468) (by decide +kernel)⟩
theorem lw_p73 : lw_okq (⟨"TownSundaysModel", "reads", "()Z"⟩, 57) := ⟨⟨by decide +kernel, by decide +kernel⟩, List.mem_of_getElem? (i := 1099) (by decide +kernel), List.mem_of_getElem? (i := 1471) (by decide +kernel), List.mem_of_getElem? (i := 1472) (by decide +kernel)⟩
theorem lw_p74 : lw_okq (⟨"TownSundaysModel", "splits", "(I)V"⟩, 57) := ⟨⟨by decide +kernel, by decide +kernel⟩, List.mem_of_getElem? (i := 1099) (by decide +kernel), List.mem_of_getElem? (i := 1475) (by decide +kernel), List.mem_of_getElem? (i := 1476) (by decide +kernel)⟩
theorem lw_p75 : lw_okq (⟨"TownSundaysModel", "wordOf", "(II)I"⟩, 57) := ⟨⟨by decide +kernel, by decide +kernel⟩, List.mem_of_getElem? (i := 1099) (by decide +kernel), List.mem_of_getElem? (i := 1485) (by decide +kernel), List.mem_of_getElem? (i := 1486) (by decide +kernel)⟩
theorem lw_p76 : lw_okq (⟨"TownSundaysModel", "readOne", "()V"⟩, 57) := ⟨⟨by decide +kernel, by decide +kernel⟩, List.mem_of_getElem? (i := 1099) (by decide +kernel), List.mem_of_getElem? (i := 1490) (by decide +kernel), List.mem_of_getElem? (i := 1491) (by decide +kernel)⟩
theorem lw_p77 : lw_okq (⟨"TownSundaysModel", "readOrder", "()V"⟩, 57) := ⟨⟨by decide +kernel, by decide +kernel⟩, List.mem_of_getElem? (i := 1099) (by decide +kernel), List.mem_of_getElem? (i := 1494) (by decide +kernel), List.mem_of_getElem? (i := 1495) (by decide +kernel)⟩
theorem lw_p78 : lw_okq (⟨"TownSundaysModel", "takes0", "(I)Z"⟩, 57) := ⟨⟨by decide +kernel, by decide +kernel⟩, List.mem_of_getElem? (i := 1099) (by decide +kernel), List.mem_of_getElem? (i := 1498) (by decide +kernel), List.mem_of_getElem? (i := 1499) (by decide +kernel)⟩
theorem lw_p79 : lw_okq (⟨"TownSundaysModel", "fine", "()Z"⟩, 57) := ⟨⟨by decide +kernel, by decide +kernel⟩, List.mem_of_getElem? (i := 1099) (by decide +kernel), List.mem_of_getElem? (i := 1502) (by decide +kernel), List.mem_of_getElem? (i := 1503) (by decide +kernel)⟩
def lw_privs_5 : List (MethodName × Nat) := [(⟨"TownSundaysModel", "positiveOf", "(Z)Z"⟩, 57), (⟨"TownSundaysModel", "canHave", "(II)Z"⟩, 57), (⟨"TownSundaysModel", "canSend", "(III)Z"⟩, 57), (⟨"TownSundaysModel", "isOpen", "(II)Z"⟩, 57), (⟨"TownSundaysModel", "barredFrom", "(III)Z"⟩, 57), (⟨"TownSundaysModel", "altersOf", "(II)I"⟩, 57), (⟨"TownSundaysModel", "areTwo", "(II)Z"⟩, 57), (⟨"TownSundaysModel", "laysRoad", "(III)V"⟩, 57), (⟨"TownSundaysModel", "readsAs", "(Z)Z"⟩, 57), (⟨"TownSundaysModel", "reads", "()Z"⟩, 57), (⟨"TownSundaysModel", "splits", "(I)V"⟩, 57), (⟨"TownSundaysModel", "wordOf", "(II)I"⟩, 57), (⟨"TownSundaysModel", "readOne", "()V"⟩, 57), (⟨"TownSundaysModel", "readOrder", "()V"⟩, 57), (⟨"TownSundaysModel", "takes0", "(I)Z"⟩, 57), (⟨"TownSundaysModel", "fine", "()Z"⟩, 57)]
theorem lw_r5 : ∀ q ∈ lw_privs_5, lw_okq q := List.forall_mem_cons.mpr ⟨lw_p64, List.forall_mem_cons.mpr ⟨lw_p65, List.forall_mem_cons.mpr ⟨lw_p66, List.forall_mem_cons.mpr ⟨lw_p67, List.forall_mem_cons.mpr ⟨lw_p68, List.forall_mem_cons.mpr ⟨lw_p69, List.forall_mem_cons.mpr ⟨lw_p70, List.forall_mem_cons.mpr ⟨lw_p71, List.forall_mem_cons.mpr ⟨lw_p72, List.forall_mem_cons.mpr ⟨lw_p73, List.forall_mem_cons.mpr ⟨lw_p74, List.forall_mem_cons.mpr ⟨lw_p75, List.forall_mem_cons.mpr ⟨lw_p76, List.forall_mem_cons.mpr ⟨lw_p77, List.forall_mem_cons.mpr ⟨lw_p78, List.forall_mem_cons.mpr ⟨lw_p79, fun _ h => absurd h List.not_mem_nil⟩⟩⟩⟩⟩⟩⟩⟩⟩⟩⟩⟩⟩⟩⟩⟩
theorem lw_p80 : lw_okq (⟨"TownSundaysModel", "readSum", "(I)V"⟩, 57) := ⟨⟨by decide +kernel, by decide +kernel⟩, List.mem_of_getElem? (i := 1099) (by decide +kernel), List.mem_of_getElem? (i := 1506) (by decide +kernel), List.mem_of_getElem? (i := 1507) (by decide +kernel)⟩
theorem lw_p81 : lw_okq (⟨"TownSundaysModel", "readTerm", "(I)V"⟩, 57) := ⟨⟨by decide +kernel, by decide +kernel⟩, List.mem_of_getElem? (i := 1099) (by decide +kernel), List.mem_of_getElem? (i := 1510) (by decide +kernel), List.mem_of_getElem? (i := 1511) (by decide +kernel)⟩
theorem lw_p82 : lw_okq (⟨"TownSundaysModel", "readPart", "(I)V"⟩, 57) := ⟨⟨by decide +kernel, by decide +kernel⟩, List.mem_of_getElem? (i := 1099) (by decide +kernel), List.mem_of_getElem? (i := 1514) (by decide +kernel), List.mem_of_getElem? (i := 1515) (by decide +kernel)⟩
theorem lw_p83 : lw_okq (⟨"TownSundaysModel", "faults", "()V"⟩, 57) := ⟨⟨by decide +kernel, by decide +kernel⟩, List.mem_of_getElem? (i := 1099) (by decide +kernel), List.mem_of_getElem? (i := 1518) (by decide +kernel), List.mem_of_getElem? (i := 1519) (by decide +kernel)⟩
theorem lw_p84 : lw_okq (⟨"TownSundaysModel", "must", "(I)V"⟩, 57) := ⟨⟨by decide +kernel, by decide +kernel⟩, List.mem_of_getElem? (i := 1099) (by decide +kernel), List.mem_of_getElem? (i := 1522) (by decide +kernel), List.mem_of_getElem? (i := 1523) (by decide +kernel)⟩
theorem lw_p85 : lw_okq (⟨"TownSundaysModel", "leaf", "()V"⟩, 57) := ⟨⟨by decide +kernel, by decide +kernel⟩, List.mem_of_getElem? (i := 1099) (by decide +kernel), List.mem_of_getElem? (i := 1526) (by decide +kernel), List.mem_of_getElem? (i := 1527) (by decide +kernel)⟩
theorem lw_p86 : lw_okq (⟨"TownSundaysModel", "mustNumber", "(II)V"⟩, 57) := ⟨⟨by decide +kernel, by decide +kernel⟩, List.mem_of_getElem? (i := 1099) (by decide +kernel), List.mem_of_getElem? (i := 1530) (by decide +kernel), List.mem_of_getElem? (i := 1531) (by decide +kernel)⟩
theorem lw_p87 : lw_okq (⟨"TownSundaysModel", "readBehind", "(I)V"⟩, 57) := ⟨⟨by decide +kernel, by decide +kernel⟩, List.mem_of_getElem? (i := 1099) (by decide +kernel), List.mem_of_getElem? (i := 1534) (by decide +kernel), List.mem_of_getElem? (i := 1535) (by decide +kernel)⟩
theorem lw_p88 : lw_okq (⟨"TownSundaysModel", "readTest", "(I)V"⟩, 57) := ⟨⟨by decide +kernel, by decide +kernel⟩, List.mem_of_getElem? (i := 1099) (by decide +kernel), List.mem_of_getElem? (i := 1538) (by decide +kernel), List.mem_of_getElem? (i := 1539) (by decide +kernel)⟩
theorem lw_p89 : lw_okq (⟨"TownSundaysModel", "readBoth", "(I)V"⟩, 57) := ⟨⟨by decide +kernel, by decide +kernel⟩, List.mem_of_getElem? (i := 1099) (by decide +kernel), List.mem_of_getElem? (i := 1542) (by decide +kernel), List.mem_of_getElem? (i := 1543) (by decide +kernel)⟩
theorem lw_p90 : lw_okq (⟨"TownSundaysModel", "readPlain", "(I)V"⟩, 57) := ⟨⟨by decide +kernel, by decide +kernel⟩, List.mem_of_getElem? (i := 1099) (by decide +kernel), List.mem_of_getElem? (i := 1546) (by decide +kernel), List.mem_of_getElem? (i := 1547) (by decide +kernel)⟩
theorem lw_p91 : lw_okq (⟨"TownSundaysModel", "readClause", "()V"⟩, 57) := ⟨⟨by decide +kernel, by decide +kernel⟩, List.mem_of_getElem? (i := 1099) (by decide +kernel), List.mem_of_getElem? (i := 1550) (by decide +kernel), List.mem_of_getElem? (i := 1551) (by decide +kernel)⟩
theorem lw_p92 : lw_okq (⟨"TownSundaysModel", "lays", "(I)V"⟩, 57) := ⟨⟨by decide +kernel, by decide +kernel⟩, List.mem_of_getElem? (i := 1099) (by decide +kernel), List.mem_of_getElem? (i := 1554) (by decide +kernel), List.mem_of_getElem? (i := 1555) (by decide +kernel)⟩
theorem lw_p93 : lw_okq (⟨"TownSundaysModel", "isLaw", "(I)Z"⟩, 57) := ⟨⟨by decide +kernel, by decide +kernel⟩, List.mem_of_getElem? (i := 1099) (by decide +kernel), List.mem_of_getElem? (i := 1566) (by decide +kernel), List.mem_of_getElem? (i := 1567) (by decide +kernel)⟩
theorem lw_p94 : lw_okq (⟨"TownSundaysModel", "swapsKept", "(II)I"⟩, 57) := ⟨⟨by decide +kernel, by decide +kernel⟩, List.mem_of_getElem? (i := 1099) (by decide +kernel), List.mem_of_getElem? (i := 1578) (by decide +kernel), List.mem_of_getElem? (i := 1579) (by decide +kernel)⟩
theorem lw_p95 : lw_okq (⟨"TownSundaysModel", "canSwap", "(II)Z"⟩, 57) := ⟨⟨by decide +kernel, by decide +kernel⟩, List.mem_of_getElem? (i := 1099) (by decide +kernel), List.mem_of_getElem? (i := 1582) (by decide +kernel), List.mem_of_getElem? (i := 1583) (by decide +kernel)⟩
def lw_privs_6 : List (MethodName × Nat) := [(⟨"TownSundaysModel", "readSum", "(I)V"⟩, 57), (⟨"TownSundaysModel", "readTerm", "(I)V"⟩, 57), (⟨"TownSundaysModel", "readPart", "(I)V"⟩, 57), (⟨"TownSundaysModel", "faults", "()V"⟩, 57), (⟨"TownSundaysModel", "must", "(I)V"⟩, 57), (⟨"TownSundaysModel", "leaf", "()V"⟩, 57), (⟨"TownSundaysModel", "mustNumber", "(II)V"⟩, 57), (⟨"TownSundaysModel", "readBehind", "(I)V"⟩, 57), (⟨"TownSundaysModel", "readTest", "(I)V"⟩, 57), (⟨"TownSundaysModel", "readBoth", "(I)V"⟩, 57), (⟨"TownSundaysModel", "readPlain", "(I)V"⟩, 57), (⟨"TownSundaysModel", "readClause", "()V"⟩, 57), (⟨"TownSundaysModel", "lays", "(I)V"⟩, 57), (⟨"TownSundaysModel", "isLaw", "(I)Z"⟩, 57), (⟨"TownSundaysModel", "swapsKept", "(II)I"⟩, 57), (⟨"TownSundaysModel", "canSwap", "(II)Z"⟩, 57)]
theorem lw_r6 : ∀ q ∈ lw_privs_6, lw_okq q := List.forall_mem_cons.mpr ⟨lw_p80, List.forall_mem_cons.mpr ⟨lw_p81, List.forall_mem_cons.mpr ⟨lw_p82, List.forall_mem_cons.mpr ⟨lw_p83, List.forall_mem_cons.mpr ⟨lw_p84, List.forall_mem_cons.mpr ⟨lw_p85, List.forall_mem_cons.mpr ⟨lw_p86, List.forall_mem_cons.mpr ⟨lw_p87, List.forall_mem_cons.mpr ⟨lw_p88, List.forall_mem_cons.mpr ⟨lw_p89, List.forall_mem_cons.mpr ⟨lw_p90, List.forall_mem_cons.mpr ⟨lw_p91, List.forall_mem_cons.mpr ⟨lw_p92, List.forall_mem_cons.mpr ⟨lw_p93, List.forall_mem_cons.mpr ⟨lw_p94, List.forall_mem_cons.mpr ⟨lw_p95, fun _ h => absurd h List.not_mem_nil⟩⟩⟩⟩⟩⟩⟩⟩⟩⟩⟩⟩⟩⟩⟩⟩
theorem lw_p96 : lw_okq (⟨"TownSundaysModel", "keeps", "(I)V"⟩, 57) := ⟨⟨by decide +kernel, by decide +kernel⟩, List.mem_of_getElem? (i := 1099) (by decide +kernel), List.mem_of_getElem? (i := 1586) (by decide +kernel), List.mem_of_getElem? (i := 1587) (by decide +kernel)⟩
theorem lw_p97 : lw_okq (⟨"TownSundaysModel", "swaps", "(II)V"⟩, 57) := ⟨⟨by decide +kernel, by decide +kernel⟩, List.mem_of_getElem? (i := 1099) (by decide +kernel), List.mem_of_getElem? (i := 1590) (by decide +kernel), List.mem_of_getElem? (i := 1591) (by decide +kernel)⟩
theorem lw_p98 : lw_okq (⟨"TownSundaysModel", "goodOr", "(I)I"⟩, 57) := ⟨⟨by decide +kernel, by decide +kernel⟩, List.mem_of_getElem? (i := 1099) (by decide +kernel), List.mem_of_getElem? (i := 1594) (by decide +kernel), List.mem_of_getElem? (i := 1595) (by decide +kernel)⟩
theorem lw_p99 : lw_okq (⟨"TownSundaysModel", "roundsKept", "(III)I"⟩, 57) := ⟨⟨by decide +kernel, by decide +kernel⟩, List.mem_of_getElem? (i := 1099) (by decide +kernel), List.mem_of_getElem? (i := 1602) (by decide +kernel), List.mem_of_getElem? (i := 1603) (by decide +kernel)⟩
theorem lw_p100 : lw_okq (⟨"TownSundaysModel", "canRound", "(III)Z"⟩, 57) := ⟨⟨by decide +kernel, by decide +kernel⟩, List.mem_of_getElem? (i := 1099) (by decide +kernel), List.mem_of_getElem? (i := 1606) (by decide +kernel), List.mem_of_getElem? (i := 1607) (by decide +kernel)⟩
theorem lw_p101 : lw_okq (⟨"TownSundaysModel", "goesRound", "(III)V"⟩, 57) := ⟨⟨by decide +kernel, by decide +kernel⟩, List.mem_of_getElem? (i := 1099) (by decide +kernel), List.mem_of_getElem? (i := 1610) (by decide +kernel), List.mem_of_getElem? (i := 1611) (by decide +kernel)⟩
theorem lw_p102 : lw_okq (⟨"TownSundaysModel", "closesKept", "(II)I"⟩, 57) := ⟨⟨by decide +kernel, by decide +kernel⟩, List.mem_of_getElem? (i := 1099) (by decide +kernel), List.mem_of_getElem? (i := 1618) (by decide +kernel), List.mem_of_getElem? (i := 1619) (by decide +kernel)⟩
theorem lw_p103 : lw_okq (⟨"TownSundaysModel", "passesKept", "()I"⟩, 57) := ⟨⟨by decide +kernel, by decide +kernel⟩, List.mem_of_getElem? (i := 1099) (by decide +kernel), List.mem_of_getElem? (i := 1626) (by decide +kernel), List.mem_of_getElem? (i := 1627) (by decide +kernel)⟩
theorem lw_p104 : lw_okq (⟨"TownSundaysModel", "likedTogether", "()I"⟩, 57) := ⟨⟨by decide +kernel, by decide +kernel⟩, List.mem_of_getElem? (i := 1099) (by decide +kernel), List.mem_of_getElem? (i := 1630) (by decide +kernel), List.mem_of_getElem? (i := 1631) (by decide +kernel)⟩
theorem lw_p105 : lw_okq (⟨"TownSundaysModel", "yearPasses", "()V"⟩, 57) := ⟨⟨by decide +kernel, by decide +kernel⟩, List.mem_of_getElem? (i := 1099) (by decide +kernel), List.mem_of_getElem? (i := 1634) (by decide +kernel), List.mem_of_getElem? (i := 1635) (by decide +kernel)⟩
theorem lw_p106 : lw_okq (⟨"TownSundaysModel", "ringOf", "(I)I"⟩, 57) := ⟨⟨by decide +kernel, by decide +kernel⟩, List.mem_of_getElem? (i := 1099) (by decide +kernel), List.mem_of_getElem? (i := 1645) (by decide +kernel), List.mem_of_getElem? (i := 1646) (by decide +kernel)⟩
theorem lw_p107 : lw_okq (⟨"TownSundaysModel", "isLowest", "(I)Z"⟩, 57) := ⟨⟨by decide +kernel, by decide +kernel⟩, List.mem_of_getElem? (i := 1099) (by decide +kernel), List.mem_of_getElem? (i := 1649) (by decide +kernel), List.mem_of_getElem? (i := 1650) (by decide +kernel)⟩
theorem lw_p108 : lw_okq (⟨"TownSundaysModel", "laysWorths", "(Z)V"⟩, 57) := ⟨⟨by decide +kernel, by decide +kernel⟩, List.mem_of_getElem? (i := 1099) (by decide +kernel), List.mem_of_getElem? (i := 1664) (by decide +kernel), List.mem_of_getElem? (i := 1665) (by decide +kernel)⟩
theorem lw_p109 : lw_okq (⟨"TownSundaysModel", "goesThrough", "()V"⟩, 57) := ⟨⟨by decide +kernel, by decide +kernel⟩, List.mem_of_getElem? (i := 1099) (by decide +kernel), List.mem_of_getElem? (i := 1668) (by decide +kernel), List.mem_of_getElem? (i := 1669) (by decide +kernel)⟩
theorem lw_p110 : lw_okq (⟨"TownSundaysModel", "weighsRow", "()V"⟩, 57) := ⟨⟨by decide +kernel, by decide +kernel⟩, List.mem_of_getElem? (i := 1099) (by decide +kernel), List.mem_of_getElem? (i := 1673) (by decide +kernel), List.mem_of_getElem? (i := 1674) (by decide +kernel)⟩
theorem lw_p111 : lw_okq (⟨"TownSundaysModel", "nextFor", "(I)I"⟩, 57) := ⟨⟨by decide +kernel, by decide +kernel⟩, List.mem_of_getElem? (i := 1099) (by decide +kernel), List.mem_of_getElem? (i := 1677) (by decide +kernel), List.mem_of_getElem? (i := 1678) (by decide +kernel)⟩
def lw_privs_7 : List (MethodName × Nat) := [(⟨"TownSundaysModel", "keeps", "(I)V"⟩, 57), (⟨"TownSundaysModel", "swaps", "(II)V"⟩, 57), (⟨"TownSundaysModel", "goodOr", "(I)I"⟩, 57), (⟨"TownSundaysModel", "roundsKept", "(III)I"⟩, 57), (⟨"TownSundaysModel", "canRound", "(III)Z"⟩, 57), (⟨"TownSundaysModel", "goesRound", "(III)V"⟩, 57), (⟨"TownSundaysModel", "closesKept", "(II)I"⟩, 57), (⟨"TownSundaysModel", "passesKept", "()I"⟩, 57), (⟨"TownSundaysModel", "likedTogether", "()I"⟩, 57), (⟨"TownSundaysModel", "yearPasses", "()V"⟩, 57), (⟨"TownSundaysModel", "ringOf", "(I)I"⟩, 57), (⟨"TownSundaysModel", "isLowest", "(I)Z"⟩, 57), (⟨"TownSundaysModel", "laysWorths", "(Z)V"⟩, 57), (⟨"TownSundaysModel", "goesThrough", "()V"⟩, 57), (⟨"TownSundaysModel", "weighsRow", "()V"⟩, 57), (⟨"TownSundaysModel", "nextFor", "(I)I"⟩, 57)]
theorem lw_r7 : ∀ q ∈ lw_privs_7, lw_okq q := List.forall_mem_cons.mpr ⟨lw_p96, List.forall_mem_cons.mpr ⟨lw_p97, List.forall_mem_cons.mpr ⟨lw_p98, List.forall_mem_cons.mpr ⟨lw_p99, List.forall_mem_cons.mpr ⟨lw_p100, List.forall_mem_cons.mpr ⟨lw_p101, List.forall_mem_cons.mpr ⟨lw_p102, List.forall_mem_cons.mpr ⟨lw_p103, List.forall_mem_cons.mpr ⟨lw_p104, List.forall_mem_cons.mpr ⟨lw_p105, List.forall_mem_cons.mpr ⟨lw_p106, List.forall_mem_cons.mpr ⟨lw_p107, List.forall_mem_cons.mpr ⟨lw_p108, List.forall_mem_cons.mpr ⟨lw_p109, List.forall_mem_cons.mpr ⟨lw_p110, List.forall_mem_cons.mpr ⟨lw_p111, fun _ h => absurd h List.not_mem_nil⟩⟩⟩⟩⟩⟩⟩⟩⟩⟩⟩⟩⟩⟩⟩⟩
theorem lw_p112 : lw_okq (⟨"TownSundaysModel", "comesHome", "()Z"⟩, 57) := ⟨⟨by decide +kernel, by decide +kernel⟩, List.mem_of_getElem? (i := 1099) (by decide +kernel), List.mem_of_getElem? (i := 1693) (by decide +kernel), List.mem_of_getElem? (i := 1694) (by decide +kernel)⟩
theorem lw_p113 : lw_okq (⟨"TownSundaysModel", "laysSends", "()V"⟩, 57) := ⟨⟨by decide +kernel, by decide +kernel⟩, List.mem_of_getElem? (i := 1099) (by decide +kernel), List.mem_of_getElem? (i := 1697) (by decide +kernel), List.mem_of_getElem? (i := 1698) (by decide +kernel)⟩
theorem lw_p114 : lw_okq (⟨"TownSundaysModel", "numberOf", "()I"⟩, 57) := ⟨⟨by decide +kernel, by decide +kernel⟩, List.mem_of_getElem? (i := 1099) (by decide +kernel), List.mem_of_getElem? (i := 1701) (by decide +kernel), List.mem_of_getElem? (i := 1702) (by decide +kernel)⟩
theorem lw_p115 : lw_okq (⟨"TownSundaysModel", "goesOn", "(II)I"⟩, 57) := ⟨⟨by decide +kernel, by decide +kernel⟩, List.mem_of_getElem? (i := 1099) (by decide +kernel), List.mem_of_getElem? (i := 1705) (by decide +kernel), List.mem_of_getElem? (i := 1706) (by decide +kernel)⟩
theorem lw_p116 : lw_okq (⟨"TownSundaysModel", "laysOrder", "(I)V"⟩, 57) := ⟨⟨by decide +kernel, by decide +kernel⟩, List.mem_of_getElem? (i := 1099) (by decide +kernel), List.mem_of_getElem? (i := 1709) (by decide +kernel), List.mem_of_getElem? (i := 1710) (by decide +kernel)⟩
theorem lw_p117 : lw_okq (⟨"TownSundaysModel", "canExchange", "(II)Z"⟩, 57) := ⟨⟨by decide +kernel, by decide +kernel⟩, List.mem_of_getElem? (i := 1099) (by decide +kernel), List.mem_of_getElem? (i := 1713) (by decide +kernel), List.mem_of_getElem? (i := 1714) (by decide +kernel)⟩
theorem lw_p118 : lw_okq (⟨"TownSundaysModel", "exchanges", "(II)V"⟩, 57) := ⟨⟨by decide +kernel, by decide +kernel⟩, List.mem_of_getElem? (i := 1099) (by decide +kernel), List.mem_of_getElem? (i := 1717) (by decide +kernel), List.mem_of_getElem? (i := 1718) (by decide +kernel)⟩
theorem lw_p119 : lw_okq (⟨"TownSundaysModel", "askedBy", "(II)I"⟩, 57) := ⟨⟨by decide +kernel, by decide +kernel⟩, List.mem_of_getElem? (i := 1099) (by decide +kernel), List.mem_of_getElem? (i := 1728) (by decide +kernel), List.mem_of_getElem? (i := 1729) (by decide +kernel)⟩
theorem lw_p120 : lw_okq (⟨"TownSundaysModel", "isRound", "(I)Z"⟩, 57) := ⟨⟨by decide +kernel, by decide +kernel⟩, List.mem_of_getElem? (i := 1099) (by decide +kernel), List.mem_of_getElem? (i := 1732) (by decide +kernel), List.mem_of_getElem? (i := 1733) (by decide +kernel)⟩
theorem lw_p121 : lw_okq (⟨"TownSundaysModel", "isBargain", "(II)Z"⟩, 57) := ⟨⟨by decide +kernel, by decide +kernel⟩, List.mem_of_getElem? (i := 1099) (by decide +kernel), List.mem_of_getElem? (i := 1740) (by decide +kernel), List.mem_of_getElem? (i := 1741) (by decide +kernel)⟩
theorem lw_p122 : lw_okq (⟨"TownSundaysModel", "isSo", "(I)Z"⟩, 57) := ⟨⟨by decide +kernel, by decide +kernel⟩, List.mem_of_getElem? (i := 1099) (by decide +kernel), List.mem_of_getElem? (i := 1760) (by decide +kernel), List.mem_of_getElem? (i := 1761) (by decide +kernel)⟩
theorem lw_p123 : lw_okq (⟨"TownSundaysModel", "mostAlike", "(II)I"⟩, 57) := ⟨⟨by decide +kernel, by decide +kernel⟩, List.mem_of_getElem? (i := 1099) (by decide +kernel), List.mem_of_getElem? (i := 1769) (by decide +kernel), List.mem_of_getElem? (i := 1770) (by decide +kernel)⟩
theorem lw_p124 : lw_okq (⟨"TownSundaysModel", "laysAside", "(I)V"⟩, 57) := ⟨⟨by decide +kernel, by decide +kernel⟩, List.mem_of_getElem? (i := 1099) (by decide +kernel), List.mem_of_getElem? (i := 1795) (by decide +kernel), List.mem_of_getElem? (i := 1796) (by decide +kernel)⟩
theorem lw_p125 : lw_okq (⟨"TownSundaysModel", "runs", "(I)Z"⟩, 57) := ⟨⟨by decide +kernel, by decide +kernel⟩, List.mem_of_getElem? (i := 1099) (by decide +kernel), List.mem_of_getElem? (i := 1799) (by decide +kernel), List.mem_of_getElem? (i := 1800) (by decide +kernel)⟩
theorem lw_p126 : lw_okq (⟨"TownSundaysModel", "goesAlong", "(IZ)V"⟩, 57) := ⟨⟨by decide +kernel, by decide +kernel⟩, List.mem_of_getElem? (i := 1099) (by decide +kernel), List.mem_of_getElem? (i := 1803) (by decide +kernel), List.mem_of_getElem? (i := 1804) (by decide +kernel)⟩
theorem lw_p127 : lw_okq (⟨"TownSundaysModel", "obeys", "()I"⟩, 57) := ⟨⟨by decide +kernel, by decide +kernel⟩, List.mem_of_getElem? (i := 1099) (by decide +kernel), List.mem_of_getElem? (i := 1807) (by decide +kernel), List.mem_of_getElem? (i := 1808) (by decide +kernel)⟩
def lw_privs_8 : List (MethodName × Nat) := [(⟨"TownSundaysModel", "comesHome", "()Z"⟩, 57), (⟨"TownSundaysModel", "laysSends", "()V"⟩, 57), (⟨"TownSundaysModel", "numberOf", "()I"⟩, 57), (⟨"TownSundaysModel", "goesOn", "(II)I"⟩, 57), (⟨"TownSundaysModel", "laysOrder", "(I)V"⟩, 57), (⟨"TownSundaysModel", "canExchange", "(II)Z"⟩, 57), (⟨"TownSundaysModel", "exchanges", "(II)V"⟩, 57), (⟨"TownSundaysModel", "askedBy", "(II)I"⟩, 57), (⟨"TownSundaysModel", "isRound", "(I)Z"⟩, 57), (⟨"TownSundaysModel", "isBargain", "(II)Z"⟩, 57), (⟨"TownSundaysModel", "isSo", "(I)Z"⟩, 57), (⟨"TownSundaysModel", "mostAlike", "(II)I"⟩, 57), (⟨"TownSundaysModel", "laysAside", "(I)V"⟩, 57), (⟨"TownSundaysModel", "runs", "(I)Z"⟩, 57), (⟨"TownSundaysModel", "goesAlong", "(IZ)V"⟩, 57), (⟨"TownSundaysModel", "obeys", "()I"⟩, 57)]
theorem lw_r8 : ∀ q ∈ lw_privs_8, lw_okq q := List.forall_mem_cons.mpr ⟨lw_p112, List.forall_mem_cons.mpr ⟨lw_p113, List.forall_mem_cons.mpr ⟨lw_p114, List.forall_mem_cons.mpr ⟨lw_p115, List.forall_mem_cons.mpr ⟨lw_p116, List.forall_mem_cons.mpr ⟨lw_p117, List.forall_mem_cons.mpr ⟨lw_p118, List.forall_mem_cons.mpr ⟨lw_p119, List.forall_mem_cons.mpr ⟨lw_p120, List.forall_mem_cons.mpr ⟨lw_p121, List.forall_mem_cons.mpr ⟨lw_p122, List.forall_mem_cons.mpr ⟨lw_p123, List.forall_mem_cons.mpr ⟨lw_p124, List.forall_mem_cons.mpr ⟨lw_p125, List.forall_mem_cons.mpr ⟨lw_p126, List.forall_mem_cons.mpr ⟨lw_p127, fun _ h => absurd h List.not_mem_nil⟩⟩⟩⟩⟩⟩⟩⟩⟩⟩⟩⟩⟩⟩⟩⟩
theorem lw_p128 : lw_okq (⟨"TownSundaysModel", "takesBack", "(I)V"⟩, 57) := ⟨⟨by decide +kernel, by decide +kernel⟩, List.mem_of_getElem? (i := 1099) (by decide +kernel), List.mem_of_getElem? (i := 1815) (by decide +kernel), List.mem_of_getElem? (i := 1816) (by decide +kernel)⟩
theorem lw_p129 : lw_okq (⟨"TownSundaysModel", "drawnAct", "()V"⟩, 57) := ⟨⟨by decide +kernel, by decide +kernel⟩, List.mem_of_getElem? (i := 1099) (by decide +kernel), List.mem_of_getElem? (i := 1823) (by decide +kernel), List.mem_of_getElem? (i := 1824) (by decide +kernel)⟩
theorem lw_p130 : lw_okq (⟨"TownSundaysModel", "draws", "(I)I"⟩, 57) := ⟨⟨by decide +kernel, by decide +kernel⟩, List.mem_of_getElem? (i := 1099) (by decide +kernel), List.mem_of_getElem? (i := 1827) (by decide +kernel), List.mem_of_getElem? (i := 1828) (by decide +kernel)⟩
theorem lw_p131 : lw_okq (⟨"TownSundaysModel", "roadMany", "(Z)I"⟩, 57) := ⟨⟨by decide +kernel, by decide +kernel⟩, List.mem_of_getElem? (i := 1099) (by decide +kernel), List.mem_of_getElem? (i := 1842) (by decide +kernel), List.mem_of_getElem? (i := 1843) (by decide +kernel)⟩
def lw_privs_9 : List (MethodName × Nat) := [(⟨"TownSundaysModel", "takesBack", "(I)V"⟩, 57), (⟨"TownSundaysModel", "drawnAct", "()V"⟩, 57), (⟨"TownSundaysModel", "draws", "(I)I"⟩, 57), (⟨"TownSundaysModel", "roadMany", "(Z)I"⟩, 57)]
theorem lw_r9 : ∀ q ∈ lw_privs_9, lw_okq q := List.forall_mem_cons.mpr ⟨lw_p128, List.forall_mem_cons.mpr ⟨lw_p129, List.forall_mem_cons.mpr ⟨lw_p130, List.forall_mem_cons.mpr ⟨lw_p131, fun _ h => absurd h List.not_mem_nil⟩⟩⟩⟩
def lw_privs : List (MethodName × Nat) := lw_privs_1 ++ (lw_privs_2 ++ (lw_privs_3 ++ (lw_privs_4 ++ (lw_privs_5 ++ (lw_privs_6 ++ (lw_privs_7 ++ (lw_privs_8 ++ (lw_privs_9))))))))
def lw_tbl : List Cond := k2_sels lw_privs ++ tables_1
theorem lw_privs_ok : ∀ q ∈ lw_privs, lw_okq q := by
  show ∀ q ∈ lw_privs_1 ++ (lw_privs_2 ++ (lw_privs_3 ++ (lw_privs_4 ++ (lw_privs_5 ++ (lw_privs_6 ++ (lw_privs_7 ++ (lw_privs_8 ++ (lw_privs_9)))))))), lw_okq q
  exact List.forall_mem_append.mpr ⟨lw_r1, List.forall_mem_append.mpr ⟨lw_r2, List.forall_mem_append.mpr ⟨lw_r3, List.forall_mem_append.mpr ⟨lw_r4, List.forall_mem_append.mpr ⟨lw_r5, List.forall_mem_append.mpr ⟨lw_r6, List.forall_mem_append.mpr ⟨lw_r7, List.forall_mem_append.mpr ⟨lw_r8, lw_r9⟩⟩⟩⟩⟩⟩⟩⟩
theorem am_mem (ws : List Cond) (ps : List Nat) (h : ps.map (fun i => lw_tbl[i]?) = ws.map some) : ∀ w ∈ ws, w ∈ lw_tbl := by
  intro w hw
  have h1 : some w ∈ ws.map some := List.mem_map.mpr ⟨w, hw, rfl⟩
  rw [← h] at h1
  obtain ⟨i, -, hi⟩ := List.mem_map.mp h1
  exact List.mem_of_getElem? hi
def am_ow : List String := ["TownSundays$Judge", "TownSundays$Land", "TownSundays$Mover", "TownSundays$Paper", "TownSundays$Past", "TownSundays$Reader", "TownSundays$Reckoner", "TownSundays$Runner", "TownSundays$Tape", "TownSundays$Text", "TownSundays$WayHome", "TownSundays", "TownSundaysModel", "TownSundaysLaw", "java/lang/Integer", "java/lang/Math", "java/lang/String", "java/lang/StringLatin1", "java/lang/StringUTF16", "java/lang/System", "java/util/Arrays", "jdk/internal/util/Preconditions"]
def am_own (k : Nat) : String := am_ow.getD k ""
def F_0 : u_T := fun k => match k with
  | 0 => ("TownSundays$Judge", "words", "[I", true)
  | _ => ("TownSundays$Judge", "reckoner", "LTownSundays$Reckoner;", true)
def t_0 : Nat → FieldType := fun k => match k with
  | 0 => .array (.int)
  | _ => .object "TownSundays$Reckoner"
theorem n_0 : ∀ a, a < 2 → ∀ b, b < 2 → a ≠ b → (F_0 a).2.1 ≠ (F_0 b).2.1 := by decide +kernel
theorem p_0 : ∀ k, k < 2 → parseFieldDescriptor (F_0 k).2.2.1 = some (t_0 k) := by decide +kernel
theorem i_0 : ∀ w ∈ u_ws "TownSundays$Judge" F_0 2, w ∈ lw_tbl := am_mem _ [379, 381] (by decide +kernel)
def F_1 : u_T := fun k => match k with
  | 0 => ("TownSundays$Land", "towns", "I", false)
  | 1 => ("TownSundays$Land", "has", "[I", true)
  | 2 => ("TownSundays$Land", "at", "[I", true)
  | 3 => ("TownSundays$Land", "bells", "[I", true)
  | 4 => ("TownSundays$Land", "hats", "[I", true)
  | 5 => ("TownSundays$Land", "had", "[I", true)
  | 6 => ("TownSundays$Land", "miles", "[I", true)
  | 7 => ("TownSundays$Land", "closed", "[I", true)
  | 8 => ("TownSundays$Land", "term", "[I", true)
  | 9 => ("TownSundays$Land", "heardOf", "[I", true)
  | 10 => ("TownSundays$Land", "heardBy", "[I", true)
  | 11 => ("TownSundays$Land", "heardCount", "I", false)
  | 12 => ("TownSundays$Land", "laws", "[LTownSundays$Text;", true)
  | 13 => ("TownSundays$Land", "lawCount", "I", false)
  | _ => ("TownSundays$Land", "inForce", "I", false)
def t_1 : Nat → FieldType := fun k => match k with
  | 0 => .int
  | 1 => .array (.int)
  | 2 => .array (.int)
  | 3 => .array (.int)
  | 4 => .array (.int)
  | 5 => .array (.int)
  | 6 => .array (.int)
  | 7 => .array (.int)
  | 8 => .array (.int)
  | 9 => .array (.int)
  | 10 => .array (.int)
  | 11 => .int
  | 12 => .array (.object "TownSundays$Text")
  | 13 => .int
  | _ => .int
theorem n_1 : ∀ a, a < 15 → ∀ b, b < 15 → a ≠ b → (F_1 a).2.1 ≠ (F_1 b).2.1 := by decide +kernel
theorem p_1 : ∀ k, k < 15 → parseFieldDescriptor (F_1 k).2.2.1 = some (t_1 k) := by decide +kernel
theorem i_1 : ∀ w ∈ u_ws "TownSundays$Land" F_1 15, w ∈ lw_tbl := am_mem _ [229, 231, 233, 235, 237, 239, 241, 243, 245, 247, 249, 251, 253, 255, 257] (by decide +kernel)
def F_2 : u_T := fun k => match k with
  | 0 => ("TownSundays$Mover", "judge", "LTownSundays$Judge;", true)
  | _ => ("TownSundays$Mover", "bellsThen", "[I", true)
def t_2 : Nat → FieldType := fun k => match k with
  | 0 => .object "TownSundays$Judge"
  | _ => .array (.int)
theorem n_2 : ∀ a, a < 2 → ∀ b, b < 2 → a ≠ b → (F_2 a).2.1 ≠ (F_2 b).2.1 := by decide +kernel
theorem p_2 : ∀ k, k < 2 → parseFieldDescriptor (F_2 k).2.2.1 = some (t_2 k) := by decide +kernel
theorem i_2 : ∀ w ∈ u_ws "TownSundays$Mover" F_2 2, w ∈ lw_tbl := am_mem _ [394, 396] (by decide +kernel)
def F_3 : u_T := fun k => match k with
  | 0 => ("TownSundays$Paper", "likings", "[I", true)
  | 1 => ("TownSundays$Paper", "may", "[I", true)
  | 2 => ("TownSundays$Paper", "worth", "[I", true)
  | 3 => ("TownSundays$Paper", "best", "[I", true)
  | 4 => ("TownSundays$Paper", "ways", "[I", true)
  | _ => ("TownSundays$Paper", "wishes", "[I", true)
def t_3 : Nat → FieldType := fun k => match k with
  | 0 => .array (.int)
  | 1 => .array (.int)
  | 2 => .array (.int)
  | 3 => .array (.int)
  | 4 => .array (.int)
  | _ => .array (.int)
theorem n_3 : ∀ a, a < 6 → ∀ b, b < 6 → a ≠ b → (F_3 a).2.1 ≠ (F_3 b).2.1 := by decide +kernel
theorem p_3 : ∀ k, k < 6 → parseFieldDescriptor (F_3 k).2.2.1 = some (t_3 k) := by decide +kernel
theorem i_3 : ∀ w ∈ u_ws "TownSundays$Paper" F_3 6, w ∈ lw_tbl := am_mem _ [455, 457, 459, 461, 463, 465] (by decide +kernel)
def F_4 : u_T := fun k => match k with
  | 0 => ("TownSundays$Past", "kept", "I", false)
  | 1 => ("TownSundays$Past", "next", "I", false)
  | _ => ("TownSundays$Past", "rows", "[I", true)
def t_4 : Nat → FieldType := fun k => match k with
  | 0 => .int
  | 1 => .int
  | _ => .array (.int)
theorem n_4 : ∀ a, a < 3 → ∀ b, b < 3 → a ≠ b → (F_4 a).2.1 ≠ (F_4 b).2.1 := by decide +kernel
theorem p_4 : ∀ k, k < 3 → parseFieldDescriptor (F_4 k).2.2.1 = some (t_4 k) := by decide +kernel
theorem i_4 : ∀ w ∈ u_ws "TownSundays$Past" F_4 3, w ∈ lw_tbl := am_mem _ [436, 438, 440] (by decide +kernel)
def F_5 : u_T := fun k => match k with
  | 0 => ("TownSundays$Reader", "text", "LTownSundays$Text;", true)
  | 1 => ("TownSundays$Reader", "fault", "I", false)
  | 2 => ("TownSundays$Reader", "bytes", "[I", false)
  | 3 => ("TownSundays$Reader", "length", "I", false)
  | 4 => ("TownSundays$Reader", "ofOrders", "Z", false)
  | 5 => ("TownSundays$Reader", "token", "I", false)
  | 6 => ("TownSundays$Reader", "tokenFrom", "I", false)
  | 7 => ("TownSundays$Reader", "tokenTo", "I", false)
  | 8 => ("TownSundays$Reader", "tokenNumber", "I", false)
  | _ => ("TownSundays$Reader", "parts", "I", false)
def t_5 : Nat → FieldType := fun k => match k with
  | 0 => .object "TownSundays$Text"
  | 1 => .int
  | 2 => .array (.int)
  | 3 => .int
  | 4 => .boolean
  | 5 => .int
  | 6 => .int
  | 7 => .int
  | 8 => .int
  | _ => .int
theorem n_5 : ∀ a, a < 10 → ∀ b, b < 10 → a ≠ b → (F_5 a).2.1 ≠ (F_5 b).2.1 := by decide +kernel
theorem p_5 : ∀ k, k < 10 → parseFieldDescriptor (F_5 k).2.2.1 = some (t_5 k) := by decide +kernel
theorem i_5 : ∀ w ∈ u_ws "TownSundays$Reader" F_5 10, w ∈ lw_tbl := am_mem _ [340, 342, 344, 346, 348, 350, 352, 354, 356, 358] (by decide +kernel)
def F_6 : u_T := fun k => match k with
  | _ => ("TownSundays$Reckoner", "stack", "[I", true)
def t_6 : Nat → FieldType := fun k => match k with
  | _ => .array (.int)
theorem n_6 : ∀ a, a < 1 → ∀ b, b < 1 → a ≠ b → (F_6 a).2.1 ≠ (F_6 b).2.1 := by decide +kernel
theorem p_6 : ∀ k, k < 1 → parseFieldDescriptor (F_6 k).2.2.1 = some (t_6 k) := by decide +kernel
theorem i_6 : ∀ w ∈ u_ws "TownSundays$Reckoner" F_6 1, w ∈ lw_tbl := am_mem _ [374] (by decide +kernel)
def F_7 : u_T := fun k => match k with
  | 0 => ("TownSundays$Runner", "done", "I", false)
  | 1 => ("TownSundays$Runner", "latest", "I", false)
  | 2 => ("TownSundays$Runner", "mover", "LTownSundays$Mover;", true)
  | 3 => ("TownSundays$Runner", "words", "[I", true)
  | _ => ("TownSundays$Runner", "reckoner", "LTownSundays$Reckoner;", true)
def t_7 : Nat → FieldType := fun k => match k with
  | 0 => .int
  | 1 => .int
  | 2 => .object "TownSundays$Mover"
  | 3 => .array (.int)
  | _ => .object "TownSundays$Reckoner"
theorem n_7 : ∀ a, a < 5 → ∀ b, b < 5 → a ≠ b → (F_7 a).2.1 ≠ (F_7 b).2.1 := by decide +kernel
theorem p_7 : ∀ k, k < 5 → parseFieldDescriptor (F_7 k).2.2.1 = some (t_7 k) := by decide +kernel
theorem i_7 : ∀ w ∈ u_ws "TownSundays$Runner" F_7 5, w ∈ lw_tbl := am_mem _ [415, 417, 419, 421, 423] (by decide +kernel)
def F_8 : u_T := fun k => match k with
  | 0 => ("TownSundays$Tape", "bytes", "[I", true)
  | _ => ("TownSundays$Tape", "length", "I", false)
def t_8 : Nat → FieldType := fun k => match k with
  | 0 => .array (.int)
  | _ => .int
theorem n_8 : ∀ a, a < 2 → ∀ b, b < 2 → a ≠ b → (F_8 a).2.1 ≠ (F_8 b).2.1 := by decide +kernel
theorem p_8 : ∀ k, k < 2 → parseFieldDescriptor (F_8 k).2.2.1 = some (t_8 k) := by decide +kernel
theorem i_8 : ∀ w ∈ u_ws "TownSundays$Tape" F_8 2, w ∈ lw_tbl := am_mem _ [272, 274] (by decide +kernel)
def F_9 : u_T := fun k => match k with
  | 0 => ("TownSundays$Text", "step", "[I", true)
  | 1 => ("TownSundays$Text", "with", "[I", true)
  | 2 => ("TownSundays$Text", "kind", "[I", true)
  | 3 => ("TownSundays$Text", "times", "[I", true)
  | 4 => ("TownSundays$Text", "from", "[I", true)
  | 5 => ("TownSundays$Text", "to", "[I", true)
  | 6 => ("TownSundays$Text", "steps", "I", false)
  | _ => ("TownSundays$Text", "clauses", "I", false)
def t_9 : Nat → FieldType := fun k => match k with
  | 0 => .array (.int)
  | 1 => .array (.int)
  | 2 => .array (.int)
  | 3 => .array (.int)
  | 4 => .array (.int)
  | 5 => .array (.int)
  | 6 => .int
  | _ => .int
theorem n_9 : ∀ a, a < 8 → ∀ b, b < 8 → a ≠ b → (F_9 a).2.1 ≠ (F_9 b).2.1 := by decide +kernel
theorem p_9 : ∀ k, k < 8 → parseFieldDescriptor (F_9 k).2.2.1 = some (t_9 k) := by decide +kernel
theorem i_9 : ∀ w ∈ u_ws "TownSundays$Text" F_9 8, w ∈ lw_tbl := am_mem _ [311, 313, 315, 317, 319, 321, 323, 325] (by decide +kernel)
def F_10 : u_T := fun k => match k with
  | 0 => ("TownSundays$WayHome", "swaps", "I", false)
  | 1 => ("TownSundays$WayHome", "goal", "I", false)
  | 2 => ("TownSundays$WayHome", "foundTowns", "I", false)
  | 3 => ("TownSundays$WayHome", "foundStart", "I", false)
  | 4 => ("TownSundays$WayHome", "sendable", "[I", true)
  | 5 => ("TownSundays$WayHome", "foundSendable", "[I", true)
  | 6 => ("TownSundays$WayHome", "queue", "[I", false)
  | 7 => ("TownSundays$WayHome", "parents", "[I", false)
  | _ => ("TownSundays$WayHome", "seen", "[J", false)
def t_10 : Nat → FieldType := fun k => match k with
  | 0 => .int
  | 1 => .int
  | 2 => .int
  | 3 => .int
  | 4 => .array (.int)
  | 5 => .array (.int)
  | 6 => .array (.int)
  | 7 => .array (.int)
  | _ => .array (.long)
theorem n_10 : ∀ a, a < 9 → ∀ b, b < 9 → a ≠ b → (F_10 a).2.1 ≠ (F_10 b).2.1 := by decide +kernel
theorem p_10 : ∀ k, k < 9 → parseFieldDescriptor (F_10 k).2.2.1 = some (t_10 k) := by decide +kernel
theorem i_10 : ∀ w ∈ u_ws "TownSundays$WayHome" F_10 9, w ∈ lw_tbl := am_mem _ [484, 486, 488, 490, 492, 494, 496, 498, 500] (by decide +kernel)
def F_11 : u_T := fun k => match k with
  | 0 => ("TownSundays", "now", "LTownSundays$Land;", true)
  | 1 => ("TownSundays", "ahead", "LTownSundays$Land;", true)
  | 2 => ("TownSundays", "century", "LTownSundays$Land;", true)
  | 3 => ("TownSundays", "images", "[LTownSundays$Land;", true)
  | 4 => ("TownSundays", "tape", "LTownSundays$Tape;", true)
  | 5 => ("TownSundays", "reader", "LTownSundays$Reader;", true)
  | 6 => ("TownSundays", "judge", "LTownSundays$Judge;", true)
  | 7 => ("TownSundays", "mover", "LTownSundays$Mover;", true)
  | 8 => ("TownSundays", "runner", "LTownSundays$Runner;", true)
  | 9 => ("TownSundays", "past", "LTownSundays$Past;", true)
  | 10 => ("TownSundays", "pastAhead", "LTownSundays$Past;", true)
  | 11 => ("TownSundays", "paper", "LTownSundays$Paper;", true)
  | 12 => ("TownSundays", "wayHome", "LTownSundays$WayHome;", true)
  | 13 => ("TownSundays", "chances", "[J", true)
  | 14 => ("TownSundays", "refusals", "[I", true)
  | 15 => ("TownSundays", "latestRefusal", "I", false)
  | 16 => ("TownSundays", "latestSidings", "I", false)
  | _ => ("TownSundays", "stoppedClause", "I", false)
def t_11 : Nat → FieldType := fun k => match k with
  | 0 => .object "TownSundays$Land"
  | 1 => .object "TownSundays$Land"
  | 2 => .object "TownSundays$Land"
  | 3 => .array (.object "TownSundays$Land")
  | 4 => .object "TownSundays$Tape"
  | 5 => .object "TownSundays$Reader"
  | 6 => .object "TownSundays$Judge"
  | 7 => .object "TownSundays$Mover"
  | 8 => .object "TownSundays$Runner"
  | 9 => .object "TownSundays$Past"
  | 10 => .object "TownSundays$Past"
  | 11 => .object "TownSundays$Paper"
  | 12 => .object "TownSundays$WayHome"
  | 13 => .array (.long)
  | 14 => .array (.int)
  | 15 => .int
  | 16 => .int
  | _ => .int
theorem n_11 : ∀ a, a < 18 → ∀ b, b < 18 → a ≠ b → (F_11 a).2.1 ≠ (F_11 b).2.1 := by decide +kernel
theorem p_11 : ∀ k, k < 18 → parseFieldDescriptor (F_11 k).2.2.1 = some (t_11 k) := by decide +kernel
theorem i_11 : ∀ w ∈ u_ws "TownSundays" F_11 18, w ∈ lw_tbl := am_mem _ [521, 523, 525, 527, 529, 531, 533, 535, 537, 539, 541, 543, 545, 547, 549, 551, 553, 555] (by decide +kernel)
def F_12 : u_T := fun k => match k with
  | 0 => ("TownSundaysModel", "status", "I", false)
  | 1 => ("TownSundaysModel", "refused", "[I", true)
  | 2 => ("TownSundaysModel", "kept", "[I", true)
  | 3 => ("TownSundaysModel", "images", "[I", true)
  | 4 => ("TownSundaysModel", "hasImage", "[Z", true)
  | 5 => ("TownSundaysModel", "aside", "[I", true)
  | 6 => ("TownSundaysModel", "sidings0", "I", false)
  | 7 => ("TownSundaysModel", "words", "[B", true)
  | 8 => ("TownSundaysModel", "firstWord", "I", false)
  | 9 => ("TownSundaysModel", "lastWord", "I", false)
  | 10 => ("TownSundaysModel", "isOrders", "Z", false)
  | 11 => ("TownSundaysModel", "tape", "[B", true)
  | 12 => ("TownSundaysModel", "five", "[I", true)
  | 13 => ("TownSundaysModel", "taped", "I", false)
  | 14 => ("TownSundaysModel", "fault", "I", false)
  | 15 => ("TownSundaysModel", "code", "[I", true)
  | 16 => ("TownSundaysModel", "value", "[I", true)
  | 17 => ("TownSundaysModel", "placed", "[I", true)
  | 18 => ("TownSundaysModel", "tokens", "I", false)
  | 19 => ("TownSundaysModel", "token", "I", false)
  | 20 => ("TownSundaysModel", "leaves", "I", false)
  | 21 => ("TownSundaysModel", "bad", "I", false)
  | 22 => ("TownSundaysModel", "go", "I", false)
  | 23 => ("TownSundaysModel", "goEnd", "I", false)
  | 24 => ("TownSundaysModel", "broken", "Z", false)
  | 25 => ("TownSundaysModel", "inOrders", "Z", false)
  | 26 => ("TownSundaysModel", "asked", "[I", true)
  | 27 => ("TownSundaysModel", "orderDone", "I", false)
  | 28 => ("TownSundaysModel", "orderLatest", "I", false)
  | 29 => ("TownSundaysModel", "left0", "[I", true)
  | 30 => ("TownSundaysModel", "leftAhead", "[I", true)
  | 31 => ("TownSundaysModel", "undoMany", "I", false)
  | 32 => ("TownSundaysModel", "altered", "[I", true)
  | 33 => ("TownSundaysModel", "row0", "[I", true)
  | 34 => ("TownSundaysModel", "best0", "[I", true)
  | 35 => ("TownSundaysModel", "worth", "[I", true)
  | 36 => ("TownSundaysModel", "may", "[Z", true)
  | 37 => ("TownSundaysModel", "bestSum", "I", false)
  | 38 => ("TownSundaysModel", "rowMany", "I", false)
  | 39 => ("TownSundaysModel", "cameBy", "[I", true)
  | 40 => ("TownSundaysModel", "cameFrom", "[I", true)
  | 41 => ("TownSundaysModel", "queue", "[I", true)
  | 42 => ("TownSundaysModel", "order", "[I", true)
  | 43 => ("TownSundaysModel", "sends", "[Z", true)
  | 44 => ("TownSundaysModel", "asks", "[I", true)
  | 45 => ("TownSundaysModel", "gets", "[I", true)
  | 46 => ("TownSundaysModel", "shares", "[J", true)
  | 47 => ("TownSundaysModel", "stopped0", "I", false)
  | 48 => ("TownSundaysModel", "orderAt", "I", false)
  | 49 => ("TownSundaysModel", "howOften", "I", false)
  | 50 => ("TownSundaysModel", "head", "I", false)
  | 51 => ("TownSundaysModel", "sumsAre", "Z", false)
  | 52 => ("TownSundaysModel", "testIs", "Z", false)
  | 53 => ("TownSundaysModel", "sums", "[J", true)
  | 54 => ("TownSundaysModel", "drawnMoved", "[I", true)
  | 55 => ("TownSundaysModel", "drawnMany", "I", false)
  | _ => ("TownSundaysModel", "latest", "I", false)
def t_12 : Nat → FieldType := fun k => match k with
  | 0 => .int
  | 1 => .array (.int)
  | 2 => .array (.int)
  | 3 => .array (.int)
  | 4 => .array (.boolean)
  | 5 => .array (.int)
  | 6 => .int
  | 7 => .array (.byte)
  | 8 => .int
  | 9 => .int
  | 10 => .boolean
  | 11 => .array (.byte)
  | 12 => .array (.int)
  | 13 => .int
  | 14 => .int
  | 15 => .array (.int)
  | 16 => .array (.int)
  | 17 => .array (.int)
  | 18 => .int
  | 19 => .int
  | 20 => .int
  | 21 => .int
  | 22 => .int
  | 23 => .int
  | 24 => .boolean
  | 25 => .boolean
  | 26 => .array (.int)
  | 27 => .int
  | 28 => .int
  | 29 => .array (.int)
  | 30 => .array (.int)
  | 31 => .int
  | 32 => .array (.int)
  | 33 => .array (.int)
  | 34 => .array (.int)
  | 35 => .array (.int)
  | 36 => .array (.boolean)
  | 37 => .int
  | 38 => .int
  | 39 => .array (.int)
  | 40 => .array (.int)
  | 41 => .array (.int)
  | 42 => .array (.int)
  | 43 => .array (.boolean)
  | 44 => .array (.int)
  | 45 => .array (.int)
  | 46 => .array (.long)
  | 47 => .int
  | 48 => .int
  | 49 => .int
  | 50 => .int
  | 51 => .boolean
  | 52 => .boolean
  | 53 => .array (.long)
  | 54 => .array (.int)
  | 55 => .int
  | _ => .int
theorem n_12 : ∀ a, a < 57 → ∀ b, b < 57 → a ≠ b → (F_12 a).2.1 ≠ (F_12 b).2.1 := by decide +kernel
theorem p_12 : ∀ k, k < 57 → parseFieldDescriptor (F_12 k).2.2.1 = some (t_12 k) := by decide +kernel
theorem i_12 : ∀ w ∈ u_ws "TownSundaysModel" F_12 57, w ∈ lw_tbl := am_mem _ [1293, 1295, 1297, 1299, 1301, 1303, 1305, 1307, 1309, 1311, 1313, 1315, 1317, 1319, 1321, 1323, 1325, 1327, 1329, 1331, 1333, 1335, 1337, 1339, 1341, 1343, 1345, 1347, 1349, 1351, 1353, 1355, 1357, 1359, 1361, 1363, 1365, 1367, 1369, 1371, 1373, 1375, 1377, 1379, 1381, 1383, 1385, 1387, 1389, 1391, 1393, 1395, 1397, 1399, 1401, 1403, 1405] (by decide +kernel)
abbrev am_cl : List vw_C := [("TownSundays$Judge", F_0, 2), ("TownSundays$Land", F_1, 15), ("TownSundays$Mover", F_2, 2), ("TownSundays$Paper", F_3, 6), ("TownSundays$Past", F_4, 3), ("TownSundays$Reader", F_5, 10), ("TownSundays$Reckoner", F_6, 1), ("TownSundays$Runner", F_7, 5), ("TownSundays$Tape", F_8, 2), ("TownSundays$Text", F_9, 8), ("TownSundays$WayHome", F_10, 9), ("TownSundays", F_11, 18), ("TownSundaysModel", F_12, 57)]
def am_tl : List (Nat → FieldType) := [t_0, t_1, t_2, t_3, t_4, t_5, t_6, t_7, t_8, t_9, t_10, t_11, t_12]
def am_fty (ci k : Nat) : FieldType := am_tl.getD ci (fun _ => .int) k
def am_nf (ci : Nat) : Nat := (am_cl.getD ci ("", F_0, 0)).2.2
abbrev MT : Type := MethodName × Nat × ByteArray × Nat × Option FieldType
def am_mt : List MT := [
  (⟨"TownSundays$Judge", "<init>", "()V"⟩, 0, prog_2_method_1_code, 1, none),
  (⟨"TownSundays$Judge", "likingOf", "(LTownSundays$Land;LTownSundays$Text;II)I"⟩, 0, prog_2_method_2_code, 6, (some (.int))),
  (⟨"TownSundays$Judge", "alteredBells", "(LTownSundays$Land;I)I"⟩, 0, prog_2_method_3_code, 5, (some (.int))),
  (⟨"TownSundays$Judge", "canSend", "(LTownSundays$Land;III)Z"⟩, 0, prog_2_method_4_code, 6, (some (.boolean))),
  (⟨"TownSundays$Judge", "canHave", "(LTownSundays$Land;II)Z"⟩, 0, prog_2_method_5_code, 4, (some (.boolean))),
  (⟨"TownSundays$Judge", "setWords", "(LTownSundays$Land;III)V"⟩, 0, prog_2_method_6_code, 5, none),
  (⟨"TownSundays$Judge", "lastTold", "(LTownSundays$Text;I)I"⟩, 0, prog_2_method_7_code, 6, (some (.int))),
  (⟨"TownSundays$Judge", "nearest", "(II)I"⟩, 0, prog_2_method_8_code, 2, (some (.int))),
  (⟨"TownSundays$Land", "<init>", "()V"⟩, 1, prog_3_method_1_code, 2, none),
  (⟨"TownSundays$Land", "copyFrom", "(LTownSundays$Land;)V"⟩, 1, prog_3_method_2_code, 3, none),
  (⟨"TownSundays$Land", "isTown", "(I)Z"⟩, 1, prog_3_method_3_code, 2, (some (.boolean))),
  (⟨"TownSundays$Land", "isLaw", "(I)Z"⟩, 1, prog_3_method_4_code, 2, (some (.boolean))),
  (⟨"TownSundays$Land", "lawInForce", "()LTownSundays$Text;"⟩, 1, prog_3_method_5_code, 1, (some (.object "TownSundays$Text"))),
  (⟨"TownSundays$Land", "milesBetween", "(II)I"⟩, 1, prog_3_method_6_code, 3, (some (.int))),
  (⟨"TownSundays$Land", "closedBetween", "(II)I"⟩, 1, prog_3_method_7_code, 3, (some (.int))),
  (⟨"TownSundays$Land", "setRoad", "(III)V"⟩, 1, prog_3_method_8_code, 4, none),
  (⟨"TownSundays$Land", "turnClosed", "(II)V"⟩, 1, prog_3_method_9_code, 3, none),
  (⟨"TownSundays$Land", "put", "(II)V"⟩, 1, prog_3_method_10_code, 3, none),
  (⟨"TownSundays$Land", "countHome", "()I"⟩, 1, prog_3_method_11_code, 3, (some (.int))),
  (⟨"TownSundays$Land", "countRoads", "(Z)I"⟩, 1, prog_3_method_12_code, 6, (some (.int))),
  (⟨"TownSundays$Mover", "<init>", "()V"⟩, 2, prog_4_method_1_code, 1, none),
  (⟨"TownSundays$Mover", "trySwap", "(LTownSundays$Land;II)I"⟩, 2, prog_4_method_2_code, 6, (some (.int))),
  (⟨"TownSundays$Mover", "tryRound", "(LTownSundays$Land;III)I"⟩, 2, prog_4_method_3_code, 8, (some (.int))),
  (⟨"TownSundays$Mover", "tryClose", "(LTownSundays$Land;II)I"⟩, 2, prog_4_method_4_code, 4, (some (.int))),
  (⟨"TownSundays$Mover", "tryPass", "(LTownSundays$Land;)I"⟩, 2, prog_4_method_5_code, 6, (some (.int))),
  (⟨"TownSundays$Mover", "drawYear", "(LTownSundays$Land;I)I"⟩, 2, prog_4_method_6_code, 11, (some (.int))),
  (⟨"TownSundays$Mover", "nextDrawn", "(I)I"⟩, 2, prog_4_method_7_code, 1, (some (.int))),
  (⟨"TownSundays$Paper", "<init>", "()V"⟩, 3, prog_5_method_1_code, 1, none),
  (⟨"TownSundays$Paper", "fillLikings", "(LTownSundays$Land;LTownSundays$Judge;)V"⟩, 3, prog_5_method_2_code, 6, none),
  (⟨"TownSundays$Paper", "fillMay", "(LTownSundays$Land;LTownSundays$Judge;)V"⟩, 3, prog_5_method_3_code, 5, none),
  (⟨"TownSundays$Paper", "weighLikings", "(LTownSundays$Land;LTownSundays$Judge;)V"⟩, 3, prog_5_method_4_code, 6, none),
  (⟨"TownSundays$Paper", "weighMiles", "(LTownSundays$Land;LTownSundays$Judge;)V"⟩, 3, prog_5_method_5_code, 7, none),
  (⟨"TownSundays$Paper", "countWays", "(I)I"⟩, 3, prog_5_method_6_code, 4, (some (.int))),
  (⟨"TownSundays$Paper", "weighRest", "(II)V"⟩, 3, prog_5_method_7_code, 8, none),
  (⟨"TownSundays$Paper", "worthThrough", "(III)I"⟩, 3, prog_5_method_8_code, 6, (some (.int))),
  (⟨"TownSundays$Paper", "arranged", "(II)I"⟩, 3, prog_5_method_9_code, 6, (some (.int))),
  (⟨"TownSundays$Paper", "firstOfBest", "(III)I"⟩, 3, prog_5_method_10_code, 5, (some (.int))),
  (⟨"TownSundays$Paper", "marketed", "(LTownSundays$Land;I)I"⟩, 3, prog_5_method_11_code, 5, (some (.int))),
  (⟨"TownSundays$Paper", "setWishes", "(LTownSundays$Land;I)V"⟩, 3, prog_5_method_12_code, 4, none),
  (⟨"TownSundays$Paper", "wishOf", "(LTownSundays$Land;II)I"⟩, 3, prog_5_method_13_code, 9, (some (.int))),
  (⟨"TownSundays$Paper", "inRings", "(LTownSundays$Land;I)I"⟩, 3, prog_5_method_14_code, 7, (some (.int))),
  (⟨"TownSundays$Paper", "bargain", "(LTownSundays$Land;I)I"⟩, 3, prog_5_method_15_code, 6, (some (.int))),
  (⟨"TownSundays$Paper", "gains", "(LTownSundays$Land;II)Z"⟩, 3, prog_5_method_16_code, 6, (some (.boolean))),
  (⟨"TownSundays$Paper", "possible", "(LTownSundays$Land;)I"⟩, 3, prog_5_method_17_code, 6, (some (.int))),
  (⟨"TownSundays$Paper", "bestQuestion", "(II)I"⟩, 3, prog_5_method_18_code, 5, (some (.int))),
  (⟨"TownSundays$Paper", "mostAlike", "(III)I"⟩, 3, prog_5_method_19_code, 9, (some (.int))),
  (⟨"TownSundays$Past", "<init>", "()V"⟩, 4, prog_6_method_1_code, 1, none),
  (⟨"TownSundays$Past", "clear", "()V"⟩, 4, prog_6_method_2_code, 1, none),
  (⟨"TownSundays$Past", "copyFrom", "(LTownSundays$Past;)V"⟩, 4, prog_6_method_3_code, 2, none),
  (⟨"TownSundays$Past", "prepare", "(LTownSundays$Land;I)V"⟩, 4, prog_6_method_4_code, 4, none),
  (⟨"TownSundays$Past", "keepPrepared", "()V"⟩, 4, prog_6_method_5_code, 1, none),
  (⟨"TownSundays$Past", "takeBack", "(LTownSundays$Land;)I"⟩, 4, prog_6_method_6_code, 4, (some (.int))),
  (⟨"TownSundays$Reader", "<init>", "()V"⟩, 5, prog_7_method_1_code, 1, none),
  (⟨"TownSundays$Reader", "readText", "([IIZ)Z"⟩, 5, prog_7_method_2_code, 5, (some (.boolean))),
  (⟨"TownSundays$Reader", "nextToken", "()V"⟩, 5, prog_7_method_3_code, 2, none),
  (⟨"TownSundays$Reader", "wordUpTo", "(I)I"⟩, 5, prog_7_method_4_code, 7, (some (.int))),
  (⟨"TownSundays$Reader", "fail", "()V"⟩, 5, prog_7_method_5_code, 1, none),
  (⟨"TownSundays$Reader", "take", "(I)Z"⟩, 5, prog_7_method_6_code, 3, (some (.boolean))),
  (⟨"TownSundays$Reader", "isNumber", "(II)Z"⟩, 5, prog_7_method_7_code, 3, (some (.boolean))),
  (⟨"TownSundays$Reader", "readClause", "()V"⟩, 5, prog_7_method_8_code, 3, none),
  (⟨"TownSundays$Reader", "readRule", "(I)V"⟩, 5, prog_7_method_9_code, 2, none),
  (⟨"TownSundays$Reader", "readOrder", "(I)V"⟩, 5, prog_7_method_10_code, 2, none),
  (⟨"TownSundays$Reader", "readSums", "(III)V"⟩, 5, prog_7_method_11_code, 6, none),
  (⟨"TownSundays$Reader", "readTimes", "(I)V"⟩, 5, prog_7_method_12_code, 2, none),
  (⟨"TownSundays$Reader", "readTest", "(I)V"⟩, 5, prog_7_method_13_code, 4, none),
  (⟨"TownSundays$Reader", "readBoth", "(I)V"⟩, 5, prog_7_method_14_code, 4, none),
  (⟨"TownSundays$Reader", "readPlain", "(I)V"⟩, 5, prog_7_method_15_code, 4, none),
  (⟨"TownSundays$Reader", "readSum", "(I)V"⟩, 5, prog_7_method_16_code, 4, none),
  (⟨"TownSundays$Reader", "readTerm", "(I)V"⟩, 5, prog_7_method_17_code, 4, none),
  (⟨"TownSundays$Reader", "readPart", "(I)V"⟩, 5, prog_7_method_18_code, 4, none),
  (⟨"TownSundays$Reader", "lawWord", "()I"⟩, 5, prog_7_method_19_code, 1, (some (.int))),
  (⟨"TownSundays$Reader", "ordersWord", "()I"⟩, 5, prog_7_method_20_code, 1, (some (.int))),
  (⟨"TownSundays$Reckoner", "<init>", "()V"⟩, 6, prog_8_method_1_code, 1, none),
  (⟨"TownSundays$Reckoner", "reckon", "(LTownSundays$Text;I[I)I"⟩, 6, prog_8_method_2_code, 9, (some (.int))),
  (⟨"TownSundays$Reckoner", "combined", "(III)I"⟩, 6, prog_8_method_3_code, 5, (some (.int))),
  (⟨"TownSundays$Runner", "<init>", "()V"⟩, 7, prog_9_method_1_code, 1, none),
  (⟨"TownSundays$Runner", "runAll", "(LTownSundays$Text;LTownSundays$Land;LTownSundays$Past;)I"⟩, 7, prog_9_method_2_code, 6, (some (.int))),
  (⟨"TownSundays$Runner", "runOnce", "(LTownSundays$Text;ILTownSundays$Land;LTownSundays$Past;)Z"⟩, 7, prog_9_method_3_code, 11, (some (.boolean))),
  (⟨"TownSundays$Runner", "setWords", "(LTownSundays$Land;)V"⟩, 7, prog_9_method_4_code, 3, none),
  (⟨"TownSundays$Tape", "<init>", "()V"⟩, 8, prog_10_method_1_code, 1, none),
  (⟨"TownSundays$Tape", "hasRoomForTwenty", "()Z"⟩, 8, prog_10_method_2_code, 1, (some (.boolean))),
  (⟨"TownSundays$Tape", "addFour", "(I)V"⟩, 8, prog_10_method_3_code, 3, none),
  (⟨"TownSundays$Text", "<init>", "(II)V"⟩, 9, prog_11_method_1_code, 3, none),
  (⟨"TownSundays$Text", "clear", "()V"⟩, 9, prog_11_method_2_code, 1, none),
  (⟨"TownSundays$Text", "add", "(II)V"⟩, 9, prog_11_method_3_code, 3, none),
  (⟨"TownSundays$Text", "setPlace", "(III)V"⟩, 9, prog_11_method_4_code, 4, none),
  (⟨"TownSundays$Text", "landJump", "(I)V"⟩, 9, prog_11_method_5_code, 2, none),
  (⟨"TownSundays$Text", "trimmed", "()LTownSundays$Text;"⟩, 9, prog_11_method_6_code, 2, (some (.object "TownSundays$Text"))),
  (⟨"TownSundays$WayHome", "<init>", "()V"⟩, 10, prog_12_method_1_code, 1, none),
  (⟨"TownSundays$WayHome", "look", "(LTownSundays$Land;LTownSundays$Judge;)V"⟩, 10, prog_12_method_2_code, 6, none),
  (⟨"TownSundays$WayHome", "swapAt", "(I)I"⟩, 10, prog_12_method_3_code, 4, (some (.int))),
  (⟨"TownSundays$WayHome", "fillSendable", "(LTownSundays$Land;LTownSundays$Judge;)V"⟩, 10, prog_12_method_4_code, 6, none),
  (⟨"TownSundays$WayHome", "isFound", "(II)Z"⟩, 10, prog_12_method_5_code, 5, (some (.boolean))),
  (⟨"TownSundays$WayHome", "makeRoom", "()V"⟩, 10, prog_12_method_6_code, 1, none),
  (⟨"TownSundays$WayHome", "search", "(III)I"⟩, 10, prog_12_method_7_code, 6, (some (.int))),
  (⟨"TownSundays$WayHome", "markSeen", "(I)Z"⟩, 10, prog_12_method_8_code, 6, (some (.boolean))),
  (⟨"TownSundays$WayHome", "addNext", "(IIII)I"⟩, 10, prog_12_method_9_code, 14, (some (.int))),
  (⟨"TownSundays$WayHome", "stepsTo", "(I)I"⟩, 10, prog_12_method_10_code, 4, (some (.int))),
  (⟨"TownSundays", "<init>", "()V"⟩, 11, prog_1_method_1_code, 1, none),
  (⟨"TownSundays", "town", "(II)I"⟩, 11, prog_1_method_2_code, 4, (some (.int))),
  (⟨"TownSundays", "of", "(II)I"⟩, 11, prog_1_method_3_code, 5, (some (.int))),
  (⟨"TownSundays", "sunday", "(II)I"⟩, 11, prog_1_method_4_code, 3, (some (.int))),
  (⟨"TownSundays", "road", "(III)I"⟩, 11, prog_1_method_5_code, 5, (some (.int))),
  (⟨"TownSundays", "between", "(III)I"⟩, 11, prog_1_method_6_code, 4, (some (.int))),
  (⟨"TownSundays", "terms", "(II)I"⟩, 11, prog_1_method_7_code, 4, (some (.int))),
  (⟨"TownSundays", "feed", "(IIIII)I"⟩, 11, prog_1_method_8_code, 6, (some (.int))),
  (⟨"TownSundays", "end", "(I)I"⟩, 11, prog_1_method_9_code, 2, (some (.int))),
  (⟨"TownSundays", "row", "()I"⟩, 11, prog_1_method_10_code, 4, (some (.int))),
  (⟨"TownSundays", "sidings", "()I"⟩, 11, prog_1_method_11_code, 1, (some (.int))),
  (⟨"TownSundays", "law", "()I"⟩, 11, prog_1_method_12_code, 3, (some (.int))),
  (⟨"TownSundays", "orders", "()I"⟩, 11, prog_1_method_13_code, 2, (some (.int))),
  (⟨"TownSundays", "fault", "()I"⟩, 11, prog_1_method_14_code, 1, (some (.int))),
  (⟨"TownSundays", "stopped", "()I"⟩, 11, prog_1_method_15_code, 1, (some (.int))),
  (⟨"TownSundays", "force", "(I)I"⟩, 11, prog_1_method_16_code, 3, (some (.int))),
  (⟨"TownSundays", "swap", "(II)I"⟩, 11, prog_1_method_17_code, 4, (some (.int))),
  (⟨"TownSundays", "round", "(III)I"⟩, 11, prog_1_method_18_code, 5, (some (.int))),
  (⟨"TownSundays", "close", "(II)I"⟩, 11, prog_1_method_19_code, 4, (some (.int))),
  (⟨"TownSundays", "pass", "()I"⟩, 11, prog_1_method_20_code, 2, (some (.int))),
  (⟨"TownSundays", "undo", "()I"⟩, 11, prog_1_method_21_code, 1, (some (.int))),
  (⟨"TownSundays", "rings", "(I)I"⟩, 11, prog_1_method_22_code, 2, (some (.int))),
  (⟨"TownSundays", "repeated", "()I"⟩, 11, prog_1_method_23_code, 3, (some (.int))),
  (⟨"TownSundays", "mostLiked", "(I)I"⟩, 11, prog_1_method_24_code, 2, (some (.int))),
  (⟨"TownSundays", "anew", "(I)I"⟩, 11, prog_1_method_25_code, 3, (some (.int))),
  (⟨"TownSundays", "newOnes", "()I"⟩, 11, prog_1_method_26_code, 1, (some (.int))),
  (⟨"TownSundays", "home", "(I)I"⟩, 11, prog_1_method_27_code, 2, (some (.int))),
  (⟨"TownSundays", "market", "(I)I"⟩, 11, prog_1_method_28_code, 2, (some (.int))),
  (⟨"TownSundays", "bargains", "(I)I"⟩, 11, prog_1_method_29_code, 2, (some (.int))),
  (⟨"TownSundays", "envy", "(I)I"⟩, 11, prog_1_method_30_code, 6, (some (.int))),
  (⟨"TownSundays", "heard", "(II)I"⟩, 11, prog_1_method_31_code, 3, (some (.int))),
  (⟨"TownSundays", "forget", "()I"⟩, 11, prog_1_method_32_code, 2, (some (.int))),
  (⟨"TownSundays", "canBe", "()I"⟩, 11, prog_1_method_33_code, 1, (some (.int))),
  (⟨"TownSundays", "ask", "(I)I"⟩, 11, prog_1_method_34_code, 4, (some (.int))),
  (⟨"TownSundays", "few", "(II)J"⟩, 11, prog_1_method_35_code, 8, (some (.long))),
  (⟨"TownSundays", "compare", "(III)I"⟩, 11, prog_1_method_36_code, 4, (some (.int))),
  (⟨"TownSundays", "centuries", "(II)I"⟩, 11, prog_1_method_37_code, 5, (some (.int))),
  (⟨"TownSundays", "drawn", "(II)I"⟩, 11, prog_1_method_38_code, 3, (some (.int))),
  (⟨"TownSundays", "image", "(I)I"⟩, 11, prog_1_method_39_code, 2, (some (.int))),
  (⟨"TownSundays", "back", "(I)I"⟩, 11, prog_1_method_40_code, 2, (some (.int))),
  (⟨"TownSundays", "count", "(I)I"⟩, 11, prog_1_method_41_code, 2, (some (.int))),
  (⟨"TownSundays", "status", "()I"⟩, 11, prog_1_method_42_code, 1, (some (.int))),
  (⟨"TownSundays", "taken", "(I)I"⟩, 11, prog_1_method_43_code, 2, (some (.int))),
  (⟨"TownSundays", "moved", "(I)I"⟩, 11, prog_1_method_44_code, 2, (some (.int))),
  (⟨"TownSundays", "refused", "(I)I"⟩, 11, prog_1_method_45_code, 3, (some (.int))),
  (⟨"TownSundays", "isRoadTold", "(I)Z"⟩, 11, prog_1_method_46_code, 2, (some (.boolean))),
  (⟨"TownSundays", "ringLength", "(I)I"⟩, 11, prog_1_method_47_code, 4, (some (.int))),
  (⟨"TownSundays", "ringCount", "()I"⟩, 11, prog_1_method_48_code, 6, (some (.int))),
  (⟨"TownSundays", "commonMultiple", "(II)I"⟩, 11, prog_1_method_49_code, 4, (some (.int))),
  (⟨"TownSundaysModel", "lies", "(III)Z"⟩, 12, prog_14_method_1_code, 3, (some (.boolean))),
  (⟨"TownSundaysModel", "lesser", "(II)I"⟩, 12, prog_14_method_2_code, 2, (some (.int))),
  (⟨"TownSundaysModel", "greater", "(II)I"⟩, 12, prog_14_method_3_code, 2, (some (.int))),
  (⟨"TownSundaysModel", "refuses", "(I)I"⟩, 12, prog_14_method_4_code, 2, (some (.int))),
  (⟨"TownSundaysModel", "good", "(I)I"⟩, 12, prog_14_method_5_code, 2, (some (.int))),
  (⟨"TownSundaysModel", "settled", "(I)I"⟩, 12, prog_14_method_6_code, 2, (some (.int))),
  (⟨"TownSundaysModel", "isIn", "(II)Z"⟩, 12, prog_14_method_7_code, 2, (some (.boolean))),
  (⟨"TownSundaysModel", "pairAt", "(II)I"⟩, 12, prog_14_method_8_code, 2, (some (.int))),
  (⟨"TownSundaysModel", "<init>", "()V"⟩, 12, prog_14_method_9_code, 1, none),
  (⟨"TownSundaysModel", "laysAside", "(I)V"⟩, 12, prog_14_method_10_code, 3, none),
  (⟨"TownSundaysModel", "takesBack", "(I)V"⟩, 12, prog_14_method_11_code, 3, none),
  (⟨"TownSundaysModel", "image", "(I)I"⟩, 12, prog_14_method_12_code, 3, (some (.int))),
  (⟨"TownSundaysModel", "back", "(I)I"⟩, 12, prog_14_method_13_code, 3, (some (.int))),
  (⟨"TownSundaysModel", "townMany", "()I"⟩, 12, prog_14_method_14_code, 1, (some (.int))),
  (⟨"TownSundaysModel", "isTown", "(I)Z"⟩, 12, prog_14_method_15_code, 2, (some (.boolean))),
  (⟨"TownSundaysModel", "areTwo", "(II)Z"⟩, 12, prog_14_method_16_code, 3, (some (.boolean))),
  (⟨"TownSundaysModel", "whereIs", "(I)I"⟩, 12, prog_14_method_17_code, 3, (some (.int))),
  (⟨"TownSundaysModel", "town", "(II)I"⟩, 12, prog_14_method_18_code, 4, (some (.int))),
  (⟨"TownSundaysModel", "of", "(II)I"⟩, 12, prog_14_method_19_code, 4, (some (.int))),
  (⟨"TownSundaysModel", "sunday", "(II)I"⟩, 12, prog_14_method_20_code, 3, (some (.int))),
  (⟨"TownSundaysModel", "laysRoad", "(III)V"⟩, 12, prog_14_method_21_code, 4, none),
  (⟨"TownSundaysModel", "milesOf", "(II)I"⟩, 12, prog_14_method_22_code, 3, (some (.int))),
  (⟨"TownSundaysModel", "isOpen", "(II)Z"⟩, 12, prog_14_method_23_code, 3, (some (.boolean))),
  (⟨"TownSundaysModel", "road", "(III)I"⟩, 12, prog_14_method_24_code, 5, (some (.int))),
  (⟨"TownSundaysModel", "between", "(III)I"⟩, 12, prog_14_method_25_code, 4, (some (.int))),
  (⟨"TownSundaysModel", "isTerm", "(II)Z"⟩, 12, prog_14_method_26_code, 2, (some (.boolean))),
  (⟨"TownSundaysModel", "termAt", "(I)I"⟩, 12, prog_14_method_27_code, 1, (some (.int))),
  (⟨"TownSundaysModel", "terms", "(II)I"⟩, 12, prog_14_method_28_code, 4, (some (.int))),
  (⟨"TownSundaysModel", "row", "()I"⟩, 12, prog_14_method_29_code, 5, (some (.int))),
  (⟨"TownSundaysModel", "sidings", "()I"⟩, 12, prog_14_method_30_code, 1, (some (.int))),
  (⟨"TownSundaysModel", "feed", "(IIIII)I"⟩, 12, prog_14_method_31_code, 7, (some (.int))),
  (⟨"TownSundaysModel", "end", "(I)I"⟩, 12, prog_14_method_32_code, 2, (some (.int))),
  (⟨"TownSundaysModel", "isSmall", "(I)Z"⟩, 12, prog_14_method_33_code, 1, (some (.boolean))),
  (⟨"TownSundaysModel", "isDigit", "(I)Z"⟩, 12, prog_14_method_34_code, 1, (some (.boolean))),
  (⟨"TownSundaysModel", "wordOf", "(II)I"⟩, 12, prog_14_method_35_code, 8, (some (.int))),
  (⟨"TownSundaysModel", "splits", "(I)V"⟩, 12, prog_14_method_36_code, 6, none),
  (⟨"TownSundaysModel", "fine", "()Z"⟩, 12, prog_14_method_37_code, 1, (some (.boolean))),
  (⟨"TownSundaysModel", "faults", "()V"⟩, 12, prog_14_method_38_code, 1, none),
  (⟨"TownSundaysModel", "takes0", "(I)Z"⟩, 12, prog_14_method_39_code, 3, (some (.boolean))),
  (⟨"TownSundaysModel", "must", "(I)V"⟩, 12, prog_14_method_40_code, 2, none),
  (⟨"TownSundaysModel", "leaf", "()V"⟩, 12, prog_14_method_41_code, 1, none),
  (⟨"TownSundaysModel", "sign", "(C)I"⟩, 12, prog_14_method_42_code, 1, (some (.int))),
  (⟨"TownSundaysModel", "mustNumber", "(II)V"⟩, 12, prog_14_method_43_code, 3, none),
  (⟨"TownSundaysModel", "readClause", "()V"⟩, 12, prog_14_method_44_code, 1, none),
  (⟨"TownSundaysModel", "readBehind", "(I)V"⟩, 12, prog_14_method_45_code, 2, none),
  (⟨"TownSundaysModel", "readOrder", "()V"⟩, 12, prog_14_method_46_code, 1, none),
  (⟨"TownSundaysModel", "readOne", "()V"⟩, 12, prog_14_method_47_code, 1, none),
  (⟨"TownSundaysModel", "readTest", "(I)V"⟩, 12, prog_14_method_48_code, 2, none),
  (⟨"TownSundaysModel", "readBoth", "(I)V"⟩, 12, prog_14_method_49_code, 2, none),
  (⟨"TownSundaysModel", "readPlain", "(I)V"⟩, 12, prog_14_method_50_code, 4, none),
  (⟨"TownSundaysModel", "readSum", "(I)V"⟩, 12, prog_14_method_51_code, 2, none),
  (⟨"TownSundaysModel", "readTerm", "(I)V"⟩, 12, prog_14_method_52_code, 2, none),
  (⟨"TownSundaysModel", "readPart", "(I)V"⟩, 12, prog_14_method_53_code, 3, none),
  (⟨"TownSundaysModel", "reads", "()Z"⟩, 12, prog_14_method_54_code, 2, (some (.boolean))),
  (⟨"TownSundaysModel", "readsAs", "(Z)Z"⟩, 12, prog_14_method_55_code, 2, (some (.boolean))),
  (⟨"TownSundaysModel", "lays", "(I)V"⟩, 12, prog_14_method_56_code, 3, none),
  (⟨"TownSundaysModel", "law", "()I"⟩, 12, prog_14_method_57_code, 1, (some (.int))),
  (⟨"TownSundaysModel", "fault", "()I"⟩, 12, prog_14_method_58_code, 1, (some (.int))),
  (⟨"TownSundaysModel", "isLaw", "(I)Z"⟩, 12, prog_14_method_59_code, 2, (some (.boolean))),
  (⟨"TownSundaysModel", "force", "(I)I"⟩, 12, prog_14_method_60_code, 3, (some (.int))),
  (⟨"TownSundaysModel", "codeAt", "(I)I"⟩, 12, prog_14_method_61_code, 2, (some (.int))),
  (⟨"TownSundaysModel", "passes0", "(I)Z"⟩, 12, prog_14_method_62_code, 3, (some (.boolean))),
  (⟨"TownSundaysModel", "bounded", "(JZ)J"⟩, 12, prog_14_method_63_code, 4, (some (.long))),
  (⟨"TownSundaysModel", "sumOf", "(Z)J"⟩, 12, prog_14_method_64_code, 7, (some (.long))),
  (⟨"TownSundaysModel", "termOf", "(Z)J"⟩, 12, prog_14_method_65_code, 7, (some (.long))),
  (⟨"TownSundaysModel", "partOf", "(Z)J"⟩, 12, prog_14_method_66_code, 4, (some (.long))),
  (⟨"TownSundaysModel", "orderValue", "(II)I"⟩, 12, prog_14_method_67_code, 3, (some (.int))),
  (⟨"TownSundaysModel", "testOf", "(Z)Z"⟩, 12, prog_14_method_68_code, 4, (some (.boolean))),
  (⟨"TownSundaysModel", "bothOf", "(Z)Z"⟩, 12, prog_14_method_69_code, 4, (some (.boolean))),
  (⟨"TownSundaysModel", "plainOf", "(Z)Z"⟩, 12, prog_14_method_70_code, 3, (some (.boolean))),
  (⟨"TownSundaysModel", "positiveOf", "(Z)Z"⟩, 12, prog_14_method_71_code, 7, (some (.boolean))),
  (⟨"TownSundaysModel", "setsAsked", "(III)V"⟩, 12, prog_14_method_72_code, 4, none),
  (⟨"TownSundaysModel", "tells", "(III)I"⟩, 12, prog_14_method_73_code, 11, (some (.int))),
  (⟨"TownSundaysModel", "milesFor", "(II)I"⟩, 12, prog_14_method_74_code, 4, (some (.int))),
  (⟨"TownSundaysModel", "likesOf", "(II)I"⟩, 12, prog_14_method_75_code, 3, (some (.int))),
  (⟨"TownSundaysModel", "altersOf", "(II)I"⟩, 12, prog_14_method_76_code, 3, (some (.int))),
  (⟨"TownSundaysModel", "barredFrom", "(III)Z"⟩, 12, prog_14_method_77_code, 4, (some (.boolean))),
  (⟨"TownSundaysModel", "canSend", "(III)Z"⟩, 12, prog_14_method_78_code, 4, (some (.boolean))),
  (⟨"TownSundaysModel", "canHave", "(II)Z"⟩, 12, prog_14_method_79_code, 4, (some (.boolean))),
  (⟨"TownSundaysModel", "homeMany", "()I"⟩, 12, prog_14_method_80_code, 3, (some (.int))),
  (⟨"TownSundaysModel", "keeps", "(I)V"⟩, 12, prog_14_method_81_code, 4, none),
  (⟨"TownSundaysModel", "undo", "()I"⟩, 12, prog_14_method_82_code, 3, (some (.int))),
  (⟨"TownSundaysModel", "goodOr", "(I)I"⟩, 12, prog_14_method_83_code, 2, (some (.int))),
  (⟨"TownSundaysModel", "canSwap", "(II)Z"⟩, 12, prog_14_method_84_code, 3, (some (.boolean))),
  (⟨"TownSundaysModel", "swaps", "(II)V"⟩, 12, prog_14_method_85_code, 4, none),
  (⟨"TownSundaysModel", "canRound", "(III)Z"⟩, 12, prog_14_method_86_code, 4, (some (.boolean))),
  (⟨"TownSundaysModel", "goesRound", "(III)V"⟩, 12, prog_14_method_87_code, 5, none),
  (⟨"TownSundaysModel", "yearPasses", "()V"⟩, 12, prog_14_method_88_code, 3, none),
  (⟨"TownSundaysModel", "likedTogether", "()I"⟩, 12, prog_14_method_89_code, 3, (some (.int))),
  (⟨"TownSundaysModel", "swapsKept", "(II)I"⟩, 12, prog_14_method_90_code, 3, (some (.int))),
  (⟨"TownSundaysModel", "roundsKept", "(III)I"⟩, 12, prog_14_method_91_code, 4, (some (.int))),
  (⟨"TownSundaysModel", "closesKept", "(II)I"⟩, 12, prog_14_method_92_code, 4, (some (.int))),
  (⟨"TownSundaysModel", "passesKept", "()I"⟩, 12, prog_14_method_93_code, 2, (some (.int))),
  (⟨"TownSundaysModel", "swap", "(II)I"⟩, 12, prog_14_method_94_code, 3, (some (.int))),
  (⟨"TownSundaysModel", "round", "(III)I"⟩, 12, prog_14_method_95_code, 4, (some (.int))),
  (⟨"TownSundaysModel", "close", "(II)I"⟩, 12, prog_14_method_96_code, 3, (some (.int))),
  (⟨"TownSundaysModel", "pass", "()I"⟩, 12, prog_14_method_97_code, 1, (some (.int))),
  (⟨"TownSundaysModel", "ringOf", "(I)I"⟩, 12, prog_14_method_98_code, 4, (some (.int))),
  (⟨"TownSundaysModel", "isLowest", "(I)Z"⟩, 12, prog_14_method_99_code, 3, (some (.boolean))),
  (⟨"TownSundaysModel", "rings", "(I)I"⟩, 12, prog_14_method_100_code, 4, (some (.int))),
  (⟨"TownSundaysModel", "divisor", "(II)I"⟩, 12, prog_14_method_101_code, 5, (some (.int))),
  (⟨"TownSundaysModel", "repeated", "()I"⟩, 12, prog_14_method_102_code, 3, (some (.int))),
  (⟨"TownSundaysModel", "laysWorths", "(Z)V"⟩, 12, prog_14_method_103_code, 5, none),
  (⟨"TownSundaysModel", "goesThrough", "()V"⟩, 12, prog_14_method_104_code, 3, none),
  (⟨"TownSundaysModel", "nextFor", "(I)I"⟩, 12, prog_14_method_105_code, 5, (some (.int))),
  (⟨"TownSundaysModel", "weighsRow", "()V"⟩, 12, prog_14_method_106_code, 3, none),
  (⟨"TownSundaysModel", "mostLiked", "(I)I"⟩, 12, prog_14_method_107_code, 2, (some (.int))),
  (⟨"TownSundaysModel", "anew", "(I)I"⟩, 12, prog_14_method_108_code, 2, (some (.int))),
  (⟨"TownSundaysModel", "newOnes", "()I"⟩, 12, prog_14_method_109_code, 1, (some (.int))),
  (⟨"TownSundaysModel", "numberOf", "()I"⟩, 12, prog_14_method_110_code, 5, (some (.int))),
  (⟨"TownSundaysModel", "laysOrder", "(I)V"⟩, 12, prog_14_method_111_code, 6, none),
  (⟨"TownSundaysModel", "laysSends", "()V"⟩, 12, prog_14_method_112_code, 4, none),
  (⟨"TownSundaysModel", "canExchange", "(II)Z"⟩, 12, prog_14_method_113_code, 3, (some (.boolean))),
  (⟨"TownSundaysModel", "exchanges", "(II)V"⟩, 12, prog_14_method_114_code, 4, none),
  (⟨"TownSundaysModel", "comesHome", "()Z"⟩, 12, prog_14_method_115_code, 3, (some (.boolean))),
  (⟨"TownSundaysModel", "goesOn", "(II)I"⟩, 12, prog_14_method_116_code, 7, (some (.int))),
  (⟨"TownSundaysModel", "home", "(I)I"⟩, 12, prog_14_method_117_code, 5, (some (.int))),
  (⟨"TownSundaysModel", "askedBy", "(II)I"⟩, 12, prog_14_method_118_code, 6, (some (.int))),
  (⟨"TownSundaysModel", "isRound", "(I)Z"⟩, 12, prog_14_method_119_code, 4, (some (.boolean))),
  (⟨"TownSundaysModel", "market", "(I)I"⟩, 12, prog_14_method_120_code, 5, (some (.int))),
  (⟨"TownSundaysModel", "isBargain", "(II)Z"⟩, 12, prog_14_method_121_code, 3, (some (.boolean))),
  (⟨"TownSundaysModel", "bargains", "(I)I"⟩, 12, prog_14_method_122_code, 5, (some (.int))),
  (⟨"TownSundaysModel", "envy", "(I)I"⟩, 12, prog_14_method_123_code, 5, (some (.int))),
  (⟨"TownSundaysModel", "heard", "(II)I"⟩, 12, prog_14_method_124_code, 4, (some (.int))),
  (⟨"TownSundaysModel", "forget", "()I"⟩, 12, prog_14_method_125_code, 2, (some (.int))),
  (⟨"TownSundaysModel", "isSo", "(I)Z"⟩, 12, prog_14_method_126_code, 4, (some (.boolean))),
  (⟨"TownSundaysModel", "canBe", "()I"⟩, 12, prog_14_method_127_code, 3, (some (.int))),
  (⟨"TownSundaysModel", "mostAlike", "(II)I"⟩, 12, prog_14_method_128_code, 7, (some (.int))),
  (⟨"TownSundaysModel", "ask", "(I)I"⟩, 12, prog_14_method_129_code, 7, (some (.int))),
  (⟨"TownSundaysModel", "few", "(II)J"⟩, 12, prog_14_method_130_code, 6, (some (.long))),
  (⟨"TownSundaysModel", "compare", "(III)I"⟩, 12, prog_14_method_131_code, 6, (some (.int))),
  (⟨"TownSundaysModel", "stopped", "()I"⟩, 12, prog_14_method_132_code, 1, (some (.int))),
  (⟨"TownSundaysModel", "orders", "()I"⟩, 12, prog_14_method_133_code, 5, (some (.int))),
  (⟨"TownSundaysModel", "goesAlong", "(IZ)V"⟩, 12, prog_14_method_134_code, 5, none),
  (⟨"TownSundaysModel", "small", "(J)I"⟩, 12, prog_14_method_135_code, 2, (some (.int))),
  (⟨"TownSundaysModel", "obeys", "()I"⟩, 12, prog_14_method_136_code, 2, (some (.int))),
  (⟨"TownSundaysModel", "runs", "(I)Z"⟩, 12, prog_14_method_137_code, 5, (some (.boolean))),
  (⟨"TownSundaysModel", "draws", "(I)I"⟩, 12, prog_14_method_138_code, 2, (some (.int))),
  (⟨"TownSundaysModel", "drawnAct", "()V"⟩, 12, prog_14_method_139_code, 5, none),
  (⟨"TownSundaysModel", "centuries", "(II)I"⟩, 12, prog_14_method_140_code, 5, (some (.int))),
  (⟨"TownSundaysModel", "drawn", "(II)I"⟩, 12, prog_14_method_141_code, 3, (some (.int))),
  (⟨"TownSundaysModel", "roadMany", "(Z)I"⟩, 12, prog_14_method_142_code, 5, (some (.int))),
  (⟨"TownSundaysModel", "count", "(I)I"⟩, 12, prog_14_method_143_code, 2, (some (.int))),
  (⟨"TownSundaysModel", "status", "()I"⟩, 12, prog_14_method_144_code, 1, (some (.int))),
  (⟨"java/lang/Integer", "bitCount", "(I)I"⟩, 14, prog_15_method_49_code, 1, (some (.int))),
  (⟨"java/lang/Math", "max", "(II)I"⟩, 15, prog_16_method_65_code, 2, (some (.int))),
  (⟨"java/lang/Math", "min", "(II)I"⟩, 15, prog_16_method_69_code, 2, (some (.int))),
  (⟨"java/lang/String", "length", "()I"⟩, 16, prog_17_method_54_code, 1, (some (.int))),
  (⟨"java/lang/String", "charAt", "(I)C"⟩, 16, prog_17_method_56_code, 2, (some .char)),
  (⟨"java/lang/String", "coder", "()B"⟩, 16, prog_17_method_152_code, 1, (some (.byte))),
  (⟨"java/lang/String", "isLatin1", "()Z"⟩, 16, prog_17_method_154_code, 1, (some (.boolean))),
  (⟨"java/lang/String", "checkIndex", "(II)V"⟩, 16, prog_17_method_155_code, 2, none),
  (⟨"java/lang/StringLatin1", "charAt", "([BI)C"⟩, 17, prog_18_method_2_code, 2, (some .char)),
  (⟨"java/lang/StringUTF16", "getChar", "([BI)C"⟩, 18, prog_19_method_5_code, 2, (some .char)),
  (⟨"java/lang/StringUTF16", "length", "([B)I"⟩, 18, prog_19_method_6_code, 1, (some (.int))),
  (⟨"java/lang/StringUTF16", "charAt", "([BI)C"⟩, 18, prog_19_method_83_code, 2, (some .char)),
  (⟨"java/lang/StringUTF16", "checkIndex", "(I[B)V"⟩, 18, prog_19_method_91_code, 2, none),
  (⟨"java/util/Arrays", "fill", "([JJ)V"⟩, 20, prog_21_method_101_code, 5, none),
  (⟨"java/util/Arrays", "fill", "([II)V"⟩, 20, prog_21_method_103_code, 4, none),
  (⟨"jdk/internal/util/Preconditions", "checkIndex", "(IILjava/util/function/BiFunction;)I"⟩, 21, prog_22_method_11_code, 3, (some (.int))),
  (⟨"TownSundaysLaw", "law", "([I)Z"⟩, 13, code, 4, (some (.boolean)))]
/-- getfield, putfield: the class that asks, the pool index, the class number, the field number; and the word's place -/
def am_fl : List (Nat × Nat × Nat × Nat) := [(0, 9, 0, 0), (0, 18, 0, 1), (0, 22, 1, 3), (0, 27, 1, 2), (0, 57, 1, 4), (0, 60, 1, 5), (0, 63, 1, 8), (0, 66, 9, 7), (0, 72, 9, 2), (1, 9, 1, 0), (1, 15, 1, 1), (1, 19, 1, 2), (1, 22, 1, 3), (1, 25, 1, 4), (1, 28, 1, 5), (1, 31, 1, 6), (1, 34, 1, 7), (1, 40, 1, 8), (1, 43, 1, 9), (1, 46, 1, 10), (1, 49, 1, 11), (1, 54, 1, 12), (1, 58, 1, 13), (1, 61, 1, 14), (2, 12, 2, 0), (2, 18, 2, 1), (2, 28, 1, 1), (2, 49, 1, 8), (2, 59, 1, 0), (2, 71, 1, 5), (2, 79, 1, 3), (3, 9, 3, 0), (3, 15, 3, 1), (3, 18, 3, 2), (3, 21, 3, 3), (3, 24, 3, 4), (3, 27, 3, 5), (3, 36, 1, 0), (3, 58, 1, 5), (3, 61, 1, 2), (3, 105, 1, 1), (3, 111, 1, 11), (3, 114, 1, 9), (3, 117, 1, 10), (4, 11, 4, 0), (4, 15, 4, 1), (4, 18, 4, 2), (4, 28, 1, 1), (4, 33, 1, 3), (4, 36, 1, 7), (4, 39, 1, 5), (4, 42, 1, 8), (4, 54, 1, 0), (5, 18, 5, 0), (5, 22, 5, 1), (5, 26, 5, 2), (5, 30, 5, 3), (5, 33, 5, 4), (5, 37, 5, 5), (5, 40, 5, 6), (5, 43, 5, 7), (5, 46, 5, 8), (5, 49, 5, 9), (5, 89, 9, 7), (5, 92, 9, 3), (5, 105, 9, 6), (5, 115, 9, 2), (6, 9, 6, 0), (6, 15, 9, 5), (6, 20, 9, 6), (6, 30, 9, 4), (6, 33, 9, 0), (6, 36, 9, 1), (7, 11, 7, 0), (7, 15, 7, 1), (7, 21, 7, 2), (7, 25, 7, 3), (7, 32, 7, 4), (7, 36, 9, 7), (7, 41, 9, 3), (7, 57, 9, 2), (7, 84, 1, 8), (7, 93, 1, 0), (7, 96, 1, 1), (7, 99, 1, 3), (8, 9, 8, 0), (8, 15, 8, 1), (9, 9, 9, 6), (9, 15, 9, 7), (9, 18, 9, 0), (9, 22, 9, 1), (9, 25, 9, 2), (9, 28, 9, 3), (9, 31, 9, 4), (9, 34, 9, 5), (10, 11, 10, 0), (10, 15, 10, 1), (10, 18, 10, 2), (10, 21, 10, 3), (10, 24, 10, 4), (10, 28, 10, 5), (10, 31, 10, 6), (10, 34, 10, 7), (10, 37, 10, 8), (10, 45, 1, 1), (10, 50, 1, 0), (11, 12, 11, 0), (11, 16, 11, 1), (11, 19, 11, 2), (11, 22, 11, 3), (11, 29, 11, 4), (11, 36, 11, 5), (11, 43, 11, 6), (11, 50, 11, 7), (11, 57, 11, 8), (11, 64, 11, 9), (11, 68, 11, 10), (11, 74, 11, 11), (11, 81, 11, 12), (11, 85, 11, 13), (11, 89, 11, 14), (11, 93, 11, 15), (11, 97, 11, 16), (11, 100, 11, 17), (11, 107, 1, 0), (11, 110, 1, 3), (11, 113, 1, 4), (11, 126, 1, 1), (11, 137, 1, 5), (11, 144, 1, 2), (11, 165, 1, 8), (11, 176, 8, 1), (11, 182, 8, 0), (11, 185, 1, 13), (11, 192, 1, 12), (11, 196, 5, 0), (11, 216, 7, 0), (11, 219, 5, 1), (11, 225, 1, 14), (11, 250, 4, 0), (11, 283, 10, 0), (11, 301, 1, 11), (11, 304, 1, 9), (11, 307, 1, 10), (12, 3, 12, 0), (12, 7, 12, 1), (12, 11, 12, 31), (12, 24, 12, 2), (12, 27, 12, 3), (12, 30, 12, 4), (12, 34, 12, 5), (12, 37, 12, 7), (12, 41, 12, 11), (12, 44, 12, 12), (12, 47, 12, 14), (12, 50, 12, 15), (12, 53, 12, 16), (12, 56, 12, 17), (12, 59, 12, 26), (12, 62, 12, 29), (12, 65, 12, 30), (12, 68, 12, 32), (12, 71, 12, 33), (12, 74, 12, 34), (12, 77, 12, 35), (12, 80, 12, 36), (12, 83, 12, 39), (12, 86, 12, 40), (12, 89, 12, 41), (12, 92, 12, 42), (12, 95, 12, 43), (12, 98, 12, 44), (12, 101, 12, 45), (12, 104, 12, 46), (12, 108, 12, 47), (12, 111, 12, 53), (12, 114, 12, 54), (12, 117, 12, 55), (12, 171, 12, 13), (12, 174, 12, 6), (12, 177, 12, 18), (12, 190, 12, 21), (12, 197, 12, 19), (12, 206, 12, 20), (12, 226, 12, 10), (12, 252, 12, 8), (12, 255, 12, 9), (12, 280, 12, 23), (12, 283, 12, 22), (12, 293, 12, 24), (12, 313, 12, 25), (12, 319, 12, 27), (12, 322, 12, 28), (12, 408, 12, 37), (12, 411, 12, 38), (12, 481, 12, 48), (12, 490, 12, 50), (12, 493, 12, 51), (12, 496, 12, 49), (12, 499, 12, 52), (12, 517, 12, 56)]
def am_flp : List Nat := [377, 378, 191, 187, 198, 204, 212, 309, 295, 172, 179, 186, 190, 196, 199, 205, 206, 208, 214, 217, 220, 223, 225, 227, 392, 393, 181, 211, 177, 203, 195, 449, 450, 451, 452, 453, 454, 173, 202, 189, 185, 221, 215, 218, 432, 434, 435, 183, 193, 207, 201, 210, 178, 328, 330, 332, 333, 334, 335, 336, 337, 338, 339, 310, 299, 306, 296, 373, 303, 305, 301, 290, 292, 409, 411, 412, 413, 414, 308, 298, 294, 209, 176, 184, 194, 268, 270, 304, 307, 289, 291, 293, 297, 300, 302, 474, 476, 477, 478, 479, 480, 481, 482, 483, 180, 175, 503, 504, 505, 506, 507, 508, 509, 510, 511, 512, 513, 514, 515, 516, 517, 518, 519, 520, 174, 192, 197, 182, 200, 188, 213, 271, 269, 226, 224, 329, 410, 331, 228, 433, 475, 222, 216, 219, 1236, 1237, 1267, 1238, 1239, 1240, 1241, 1243, 1247, 1248, 1250, 1251, 1252, 1253, 1262, 1265, 1266, 1268, 1269, 1270, 1271, 1272, 1275, 1276, 1277, 1278, 1279, 1280, 1281, 1282, 1283, 1289, 1290, 1291, 1249, 1242, 1254, 1257, 1255, 1256, 1246, 1244, 1245, 1259, 1258, 1260, 1261, 1263, 1264, 1273, 1274, 1284, 1286, 1287, 1285, 1288, 1292]
def am_ml : List (Nat × Nat × Nat) := [(0, 30, 5), (0, 34, 6), (0, 39, 7), (0, 43, 12), (0, 47, 13), (0, 50, 14), (0, 53, 3), (0, 75, 73), (0, 79, 293), (0, 84, 292), (1, 70, 11), (1, 74, 14), (1, 78, 13), (2, 22, 10), (2, 31, 3), (2, 35, 17), (2, 39, 13), (2, 43, 16), (2, 46, 14), (2, 55, 12), (2, 63, 1), (2, 67, 2), (2, 74, 293), (2, 82, 26), (2, 86, 21), (2, 90, 22), (2, 94, 24), (3, 30, 12), (3, 40, 1), (3, 46, 4), (3, 50, 28), (3, 54, 29), (3, 64, 13), (3, 68, 33), (3, 72, 291), (3, 78, 34), (3, 82, 292), (3, 87, 32), (3, 90, 36), (3, 93, 38), (3, 97, 40), (3, 101, 39), (3, 108, 42), (3, 120, 45), (4, 45, 293), (4, 51, 292), (4, 57, 17), (5, 15, 82), (5, 52, 293), (5, 58, 83), (5, 61, 54), (5, 64, 59), (5, 67, 57), (5, 71, 56), (5, 74, 55), (5, 80, 294), (5, 85, 295), (5, 95, 61), (5, 99, 63), (5, 102, 60), (5, 108, 64), (5, 111, 85), (5, 118, 62), (5, 121, 67), (5, 124, 58), (5, 128, 65), (5, 131, 84), (5, 134, 86), (5, 137, 66), (5, 140, 68), (5, 143, 69), (5, 146, 71), (5, 149, 70), (6, 24, 293), (6, 40, 292), (6, 43, 74), (7, 44, 77), (7, 48, 78), (7, 52, 73), (7, 60, 49), (7, 66, 21), (7, 70, 22), (7, 74, 23), (7, 77, 24), (7, 81, 50), (7, 89, 18), (9, 37, 305), (9, 43, 82), (10, 41, 91), (10, 53, 92), (10, 63, 94), (10, 67, 305), (10, 73, 3), (10, 79, 304), (10, 82, 93), (10, 85, 95), (10, 89, 96), (10, 93, 97), (11, 11, 8), (11, 103, 142), (11, 116, 47), (11, 119, 140), (11, 122, 10), (11, 129, 12), (11, 133, 1), (11, 140, 4), (11, 147, 2), (11, 151, 13), (11, 155, 15), (11, 159, 14), (11, 168, 80), (11, 172, 81), (11, 179, 143), (11, 188, 53), (11, 200, 87), (11, 205, 9), (11, 209, 48), (11, 212, 76), (11, 222, 11), (11, 228, 49), (11, 232, 21), (11, 236, 141), (11, 239, 22), (11, 243, 23), (11, 246, 24), (11, 253, 51), (11, 256, 145), (11, 260, 144), (11, 263, 146), (11, 266, 30), (11, 270, 35), (11, 273, 31), (11, 277, 32), (11, 280, 89), (11, 286, 90), (11, 289, 28), (11, 292, 29), (11, 295, 37), (11, 298, 41), (11, 310, 43), (11, 313, 44), (11, 316, 45), (11, 322, 304), (11, 333, 25), (11, 336, 18), (11, 339, 19), (11, 343, 50), (12, 14, 151), (12, 120, 147), (12, 124, 150), (12, 127, 152), (12, 130, 160), (12, 134, 161), (12, 138, 221), (12, 142, 154), (12, 145, 225), (12, 149, 163), (12, 152, 222), (12, 155, 168), (12, 158, 162), (12, 161, 167), (12, 165, 172), (12, 168, 173), (12, 180, 179), (12, 183, 180), (12, 186, 181), (12, 193, 183), (12, 200, 185), (12, 203, 184), (12, 209, 197), (12, 213, 186), (12, 216, 194), (12, 219, 191), (12, 222, 189), (12, 230, 192), (12, 233, 190), (12, 236, 195), (12, 239, 196), (12, 242, 188), (12, 246, 198), (12, 249, 199), (12, 258, 187), (12, 261, 182), (12, 264, 193), (12, 267, 200), (12, 270, 201), (12, 274, 202), (12, 277, 205), (12, 286, 207), (12, 296, 211), (12, 300, 209), (12, 304, 212), (12, 307, 208), (12, 310, 210), (12, 316, 213), (12, 325, 226), (12, 328, 215), (12, 331, 216), (12, 334, 217), (12, 337, 214), (12, 340, 220), (12, 343, 218), (12, 346, 219), (12, 350, 169), (12, 353, 223), (12, 356, 224), (12, 359, 148), (12, 362, 230), (12, 365, 227), (12, 368, 231), (12, 371, 232), (12, 374, 233), (12, 377, 235), (12, 380, 234), (12, 383, 236), (12, 386, 229), (12, 389, 237), (12, 392, 238), (12, 395, 239), (12, 398, 244), (12, 401, 245), (12, 404, 247), (12, 414, 252), (12, 417, 251), (12, 420, 249), (12, 424, 250), (12, 427, 258), (12, 430, 256), (12, 433, 262), (12, 436, 257), (12, 439, 259), (12, 442, 260), (12, 445, 261), (12, 448, 153), (12, 451, 264), (12, 454, 265), (12, 457, 267), (12, 460, 272), (12, 463, 149), (12, 466, 273), (12, 469, 274), (12, 478, 156), (12, 484, 283), (12, 487, 157), (12, 504, 281), (12, 508, 280), (12, 512, 282), (12, 524, 284), (12, 527, 285), (12, 530, 288), (13, 9, 98), (13, 12, 155), (13, 13, 99), (13, 17, 164), (13, 18, 100), (13, 21, 165), (13, 22, 101), (13, 25, 166), (13, 26, 102), (13, 30, 170), (13, 31, 103), (13, 34, 171), (13, 35, 104), (13, 38, 174), (13, 39, 105), (13, 43, 177), (13, 44, 106), (13, 48, 178), (13, 49, 107), (13, 53, 175), (13, 54, 108), (13, 57, 176), (13, 58, 109), (13, 61, 203), (13, 62, 110), (13, 65, 279), (13, 66, 111), (13, 69, 204), (13, 70, 112), (13, 73, 278), (13, 74, 113), (13, 77, 206), (13, 78, 114), (13, 81, 240), (13, 82, 115), (13, 85, 241), (13, 86, 116), (13, 89, 242), (13, 90, 117), (13, 93, 243), (13, 94, 118), (13, 97, 228), (13, 98, 119), (13, 101, 246), (13, 102, 120), (13, 105, 248), (13, 106, 121), (13, 109, 253), (13, 110, 122), (13, 113, 254), (13, 114, 123), (13, 117, 255), (13, 118, 124), (13, 121, 263), (13, 122, 125), (13, 125, 266), (13, 126, 126), (13, 129, 268), (13, 130, 127), (13, 133, 269), (13, 134, 128), (13, 137, 270), (13, 138, 129), (13, 141, 271), (13, 142, 130), (13, 145, 273), (13, 146, 131), (13, 149, 275), (13, 150, 132), (13, 154, 276), (13, 155, 133), (13, 158, 277), (13, 159, 134), (13, 162, 286), (13, 163, 135), (13, 166, 287), (13, 167, 136), (13, 170, 158), (13, 171, 137), (13, 174, 159), (13, 175, 138), (13, 178, 289), (13, 179, 139), (13, 182, 290), (16, 335, 296), (16, 492, 297), (16, 495, 299), (16, 498, 302), (16, 1059, 306), (17, 9, 298), (18, 48, 301), (18, 67, 303), (18, 71, 300), (18, 414, 298)]
def am_mlp : List Nat := [595, 603, 624, 641, 599, 637, 633, 607, 627, 628, 587, 1224, 1225, 896, 897, 898, 910, 911, 915, 921, 922, 923, 924, 1196, 1200, 1201, 1202, 1010, 1011, 1016, 1006, 1012, 1053, 1026, 1030, 1036, 1040, 1022, 1041, 1118, 1126, 1122, 1138, 1170, 929, 977, 978, 285, 705, 706, 713, 770, 782, 774, 717, 722, 732, 778, 822, 826, 830, 818, 786, 790, 802, 834, 814, 842, 838, 794, 798, 806, 810, 611, 615, 618, 874, 878, 886, 888, 892, 902, 906, 916, 925, 882, 710, 851, 1068, 1074, 1079, 1072, 1073, 1087, 1083, 1090, 1095, 1100, 164, 563, 567, 571, 579, 583, 591, 629, 646, 654, 655, 663, 673, 677, 689, 701, 846, 860, 865, 870, 942, 947, 948, 949, 958, 963, 968, 973, 983, 987, 995, 1002, 1018, 1049, 1059, 1064, 1104, 1112, 1113, 1114, 1134, 1158, 1166, 1174, 1180, 1192, 1203, 1220, 953, 1420, 1413, 1416, 1428, 1436, 1444, 1448, 1464, 1528, 1456, 1548, 1460, 1556, 1560, 1572, 1575, 1610, 1613, 1616, 1633, 1629, 1649, 1637, 1653, 1669, 1665, 1661, 1625, 1681, 1673, 1677, 1491, 1641, 1645, 1657, 1606, 1621, 1602, 1598, 1685, 1697, 1475, 1483, 1506, 1487, 1494, 1479, 1498, 1502, 1516, 1520, 1524, 1512, 1452, 1467, 1471, 1536, 1540, 1532, 1769, 1713, 1717, 1721, 1737, 1741, 1761, 1765, 1709, 1725, 1733, 1749, 1757, 1776, 1780, 1788, 1804, 1808, 1795, 1799, 1828, 1832, 1836, 1840, 1844, 1848, 1824, 1856, 1859, 1863, 1871, 1891, 1904, 1899, 1900, 1926, 1930, 1946, 1942, 1934, 1938, 1958, 1954, 1973, 156, 1232, 559, 1432, 575, 1440, 642, 1544, 650, 1552, 659, 1564, 664, 1568, 669, 1586, 681, 1590, 685, 1578, 693, 1582, 697, 1594, 856, 1922, 930, 1689, 934, 1918, 938, 1693, 943, 1705, 954, 1729, 959, 1745, 964, 1753, 969, 1701, 979, 1772, 991, 1784, 998, 1791, 1045, 1812, 1055, 1816, 1060, 1820, 1108, 1852, 1130, 1867, 1142, 1875, 1146, 1879, 1150, 1883, 1154, 1887, 1162, 1895, 1175, 1907, 1183, 1914, 1187, 1950, 1204, 1965, 1208, 1409, 1212, 1424, 1216, 1969, 1226, 1977, 726, 736, 740, 751, 748, 743, 757, 754, 761, 760]
def am_mn : List (Nat × Nat × Nat) := [(0, 17, 72), (2, 11, 0), (7, 20, 20), (7, 31, 72), (11, 28, 79), (11, 35, 52), (11, 42, 0), (11, 49, 20), (11, 56, 75), (11, 63, 46), (11, 73, 27), (11, 80, 88)]
def am_mnp : List Nat := [369, 391, 406, 408, 264, 279, 363, 386, 401, 428, 445, 470]
def am_kl : List (Nat × Nat × Nat) := [(0, 15, 6), (1, 52, 9), (2, 9, 0), (5, 13, 9), (7, 18, 2), (7, 29, 6), (9, 10, 9), (11, 9, 1), (11, 26, 8), (11, 33, 5), (11, 40, 0), (11, 47, 2), (11, 54, 7), (11, 61, 4), (11, 71, 3), (11, 78, 10), (13, 7, 11), (13, 10, 12)]
def am_klp : List Nat := [367, 170, 390, 283, 405, 407, 850, 162, 262, 277, 361, 384, 399, 426, 443, 468, 154, 1230]
def am_ci : List (Nat × Nat × Int) := [(0, 38, -2147483648), (2, 98, 1000003), (3, 57, -2147483648), (6, 39, -2147483648), (7, 56, -2147483648), (10, 97, 262143), (10, 98, 2097151), (11, 276, -2147483648), (11, 332, 1000000), (12, 189, 1000000), (12, 407, -1000000), (14, 265, 1431655765), (14, 266, 858993459), (14, 267, 252645135)]
def am_cip : List Nat := [623, 1199, 1017, 614, 887, 1094, 1099, 1054, 1191, 1620, 1803, 1033, 1034, 1035]
def am_cj : List (Nat × Nat × Int) := [(6, 47, 1000000000), (6, 49, -1000000000), (11, 320, -1), (11, 328, 1000000000000), (11, 330, 10), (12, 289, 1000000000), (12, 291, -1000000000), (12, 472, -1), (12, 474, 1000000000000), (12, 476, 10), (12, 502, 1000000), (12, 515, 1103), (12, 520, 12345), (12, 522, 1000003)]
def am_cjp : List Nat := [621, 622, 1179, 1181, 1182, 1510, 1511, 1911, 1912, 1913, 1945, 1962, 1963, 1964]
def am_mp : List (Nat × Nat × Nat × Nat) := [(365, 364, 0, 138), (594, 592, 593, 138), (649, 647, 648, 138), (636, 634, 635, 138), (632, 630, 631, 138), (598, 597, 2, 138), (606, 605, 3, 138), (626, 625, 0, 138), (166, 165, 0, 134), (863, 861, 862, 134), (582, 580, 581, 134), (590, 588, 589, 134), (586, 584, 585, 134), (602, 600, 601, 134), (640, 638, 639, 134), (658, 656, 657, 134), (914, 912, 913, 134), (901, 899, 900, 134), (885, 883, 884, 134), (1223, 1221, 1222, 134), (388, 387, 0, 140), (895, 893, 894, 140), (905, 903, 904, 140), (909, 907, 908, 140), (919, 917, 918, 140), (1195, 1193, 1194, 140), (1198, 1197, 0, 140), (447, 446, 0, 143), (1009, 1007, 1008, 143), (1015, 1013, 1014, 143), (1005, 1003, 1004, 143), (1052, 1050, 1051, 143), (1025, 1023, 1024, 143), (1029, 1028, 28, 143), (1039, 1038, 29, 143), (1021, 1019, 1020, 143), (1044, 1043, 30, 143), (1117, 1115, 1116, 143), (1121, 1120, 38, 143), (1125, 1124, 39, 143), (1129, 1128, 40, 143), (1137, 1135, 1136, 143), (1141, 1140, 41, 143), (1161, 1159, 1160, 143), (1169, 1167, 1168, 143), (1173, 1171, 1172, 143), (430, 429, 0, 142), (570, 568, 569, 142), (868, 866, 867, 142), (891, 889, 890, 142), (928, 926, 927, 142), (976, 974, 975, 142), (281, 280, 0, 136), (704, 702, 703, 136), (716, 715, 5, 136), (720, 719, 6, 136), (777, 776, 8, 136), (785, 784, 10, 136), (805, 804, 15, 136), (773, 772, 7, 136), (829, 828, 19, 136), (781, 780, 9, 136), (789, 788, 11, 136), (825, 824, 18, 136), (833, 832, 20, 136), (837, 836, 21, 136), (841, 840, 22, 136), (793, 792, 12, 136), (797, 796, 13, 136), (801, 800, 14, 136), (813, 812, 17, 136), (809, 808, 16, 136), (371, 370, 0, 139), (610, 608, 609, 139), (620, 619, 0, 139), (403, 402, 0, 141), (873, 871, 872, 141), (877, 876, 23, 141), (881, 880, 24, 141), (266, 265, 0, 135), (676, 674, 675, 135), (680, 678, 679, 135), (287, 286, 0, 137), (709, 707, 708, 137), (817, 815, 816, 137), (821, 819, 820, 137), (845, 843, 844, 137), (849, 847, 848, 137), (472, 471, 0, 144), (1067, 1065, 1066, 144), (1107, 1105, 1106, 144), (1071, 1070, 31, 144), (1077, 1076, 32, 144), (1086, 1085, 34, 144), (1082, 1081, 33, 144), (1093, 1092, 35, 144), (1098, 1097, 36, 144), (1103, 1102, 37, 144), (158, 157, 0, 133), (562, 560, 561, 133), (578, 576, 577, 133), (645, 643, 644, 133), (653, 651, 652, 133), (662, 660, 661, 133), (667, 665, 666, 133), (672, 670, 671, 133), (684, 682, 683, 133), (688, 686, 687, 133), (696, 694, 695, 133), (700, 698, 699, 133), (859, 857, 858, 133), (933, 931, 932, 133), (937, 935, 936, 133), (941, 939, 940, 133), (946, 944, 945, 133), (957, 955, 956, 133), (962, 960, 961, 133), (967, 965, 966, 133), (972, 970, 971, 133), (982, 980, 981, 133), (994, 992, 993, 133), (1001, 999, 1000, 133), (1048, 1046, 1047, 133), (1058, 1056, 1057, 133), (1063, 1061, 1062, 133), (1111, 1109, 1110, 133), (1133, 1131, 1132, 133), (1145, 1143, 1144, 133), (1149, 1147, 1148, 133), (1153, 1151, 1152, 133), (1157, 1155, 1156, 133), (1165, 1163, 1164, 133), (1178, 1176, 1177, 133), (1186, 1184, 1185, 133), (1190, 1188, 1189, 133), (1207, 1205, 1206, 133), (1211, 1209, 1210, 133), (1215, 1213, 1214, 133), (1219, 1217, 1218, 133), (1229, 1227, 1228, 133), (574, 573, 1, 133), (952, 951, 25, 133), (566, 565, 0, 133), (692, 691, 4, 133), (990, 989, 27, 133), (986, 985, 26, 133), (997, 996, 0, 133), (1415, 1414, 0, 145), (1771, 1770, 0, 145), (1906, 1905, 0, 145), (1419, 1418, 42, 145), (1423, 1422, 43, 145), (1431, 1430, 44, 145), (1858, 1857, 0, 145), (1466, 1465, 0, 145), (1234, 1233, 0, 145), (1929, 1928, 124, 145), (1949, 1948, 128, 145), (1412, 1410, 1411, 145), (1427, 1425, 1426, 145), (1439, 1438, 45, 145), (1447, 1446, 46, 145), (1559, 1558, 70, 145), (1459, 1458, 49, 145), (1435, 1433, 1434, 145), (1443, 1441, 1442, 145), (1547, 1545, 1546, 145), (1563, 1562, 71, 145), (1463, 1462, 50, 145), (1539, 1538, 67, 145), (1555, 1553, 1554, 145), (1567, 1565, 1566, 145), (1574, 1573, 0, 145), (1577, 1576, 0, 145), (1571, 1569, 1570, 145), (1581, 1579, 1580, 145), (1585, 1583, 1584, 145), (1589, 1587, 1588, 145), (1593, 1591, 1592, 145), (1612, 1611, 0, 145), (1615, 1614, 0, 145), (1619, 1618, 75, 145), (1609, 1608, 74, 145), (1636, 1635, 79, 145), (1652, 1651, 83, 145), (1632, 1631, 78, 145), (1656, 1655, 84, 145), (1660, 1659, 85, 145), (1493, 1492, 0, 145), (1664, 1663, 86, 145), (1684, 1683, 91, 145), (1668, 1667, 87, 145), (1628, 1627, 77, 145), (1624, 1623, 76, 145), (1672, 1671, 88, 145), (1676, 1675, 89, 145), (1680, 1679, 90, 145), (1640, 1639, 80, 145), (1644, 1643, 81, 145), (1648, 1647, 82, 145), (1605, 1604, 73, 145), (1601, 1600, 72, 145), (1688, 1687, 92, 145), (1597, 1595, 1596, 145), (1692, 1690, 1691, 145), (1700, 1699, 93, 145), (1696, 1694, 1695, 145), (1478, 1477, 53, 145), (1497, 1496, 57, 145), (1509, 1508, 60, 145), (1482, 1481, 54, 145), (1486, 1485, 55, 145), (1490, 1489, 56, 145), (1501, 1500, 58, 145), (1515, 1514, 61, 145), (1519, 1518, 62, 145), (1523, 1522, 63, 145), (1527, 1526, 64, 145), (1470, 1469, 51, 145), (1474, 1473, 52, 145), (1455, 1454, 48, 145), (1451, 1450, 47, 145), (1551, 1550, 69, 145), (1543, 1542, 68, 145), (1535, 1534, 66, 145), (1531, 1530, 65, 145), (1505, 1504, 59, 145), (1720, 1719, 96, 145), (1704, 1702, 1703, 145), (1728, 1727, 98, 145), (1716, 1715, 95, 145), (1724, 1723, 97, 145), (1740, 1739, 100, 145), (1744, 1743, 101, 145), (1768, 1767, 105, 145), (1764, 1763, 104, 145), (1712, 1711, 94, 145), (1736, 1735, 99, 145), (1752, 1751, 102, 145), (1760, 1759, 103, 145), (1708, 1706, 1707, 145), (1732, 1730, 1731, 145), (1748, 1746, 1747, 145), (1756, 1754, 1755, 145), (1779, 1778, 106, 145), (1783, 1782, 107, 145), (1775, 1773, 1774, 145), (1790, 1789, 0, 145), (1787, 1785, 1786, 145), (1798, 1797, 108, 145), (1802, 1801, 109, 145), (1811, 1810, 111, 145), (1807, 1806, 110, 145), (1794, 1792, 1793, 145), (1815, 1813, 1814, 145), (1819, 1817, 1818, 145), (1835, 1834, 114, 145), (1843, 1842, 116, 145), (1831, 1830, 113, 145), (1847, 1846, 117, 145), (1851, 1850, 118, 145), (1827, 1826, 112, 145), (1839, 1838, 115, 145), (1823, 1821, 1822, 145), (1862, 1861, 119, 145), (1866, 1865, 120, 145), (1855, 1853, 1854, 145), (1874, 1873, 121, 145), (1870, 1868, 1869, 145), (1878, 1876, 1877, 145), (1882, 1880, 1881, 145), (1886, 1884, 1885, 145), (1894, 1893, 122, 145), (1890, 1888, 1889, 145), (1903, 1902, 123, 145), (1898, 1896, 1897, 145), (1910, 1908, 1909, 145), (1917, 1915, 1916, 145), (1921, 1919, 1920, 145), (1925, 1923, 1924, 145), (1937, 1936, 126, 145), (1944, 1943, 0, 145), (1941, 1940, 127, 145), (1933, 1932, 125, 145), (1961, 1960, 130, 145), (1957, 1956, 129, 145), (1953, 1951, 1952, 145), (1968, 1966, 1967, 145), (1976, 1975, 131, 145), (1972, 1970, 1971, 145), (1980, 1978, 1979, 145), (1032, 1031, 0, 153), (617, 616, 0, 146), (613, 612, 0, 146), (725, 723, 724, 148), (735, 733, 734, 148), (729, 727, 728, 148), (739, 737, 738, 148), (745, 744, 0, 148), (742, 741, 0, 149), (763, 762, 0, 151), (759, 758, 0, 151), (753, 752, 0, 151), (756, 755, 0, 151), (1089, 1088, 0, 147), (712, 711, 0, 147), (750, 749, 0, 150), (0, 0, 0, 0)]
/-- 0 a method of an object, 1 a static one, 2 a constructor -/
def am_kd : List Nat := [2, 0, 0, 0, 0, 0, 0, 1, 2, 0, 0, 0, 0, 0, 0, 0, 0, 0, 0, 0, 2, 0, 0, 0, 0, 0, 1, 2, 0, 0, 0, 0, 0, 0, 0, 0, 0, 0, 0, 0, 0, 0, 0, 0, 0, 0, 2, 0, 0, 0, 0, 0, 2, 0, 0, 0, 0, 0, 0, 0, 0, 0, 0, 0, 0, 0, 0, 0, 0, 0, 0, 0, 2, 0, 1, 2, 0, 0, 0, 2, 0, 0, 2, 0, 0, 0, 0, 0, 2, 0, 0, 0, 0, 0, 0, 0, 0, 0, 2, 0, 0, 0, 0, 0, 0, 0, 0, 0, 0, 0, 0, 0, 0, 0, 0, 0, 0, 0, 0, 0, 0, 0, 0, 0, 0, 0, 0, 0, 0, 0, 0, 0, 0, 0, 0, 0, 0, 0, 0, 0, 0, 0, 0, 0, 0, 0, 1, 1, 1, 1, 0, 0, 0, 1, 1, 2, 0, 0, 0, 0, 0, 0, 0, 0, 0, 0, 0, 0, 0, 0, 0, 0, 1, 1, 0, 0, 0, 0, 0, 1, 1, 0, 0, 0, 0, 0, 0, 0, 1, 0, 0, 0, 0, 0, 0, 0, 0, 0, 0, 0, 0, 0, 0, 0, 0, 0, 0, 0, 0, 0, 0, 0, 0, 0, 0, 0, 0, 0, 0, 0, 0, 0, 0, 0, 0, 0, 0, 0, 0, 0, 0, 0, 0, 0, 0, 0, 0, 0, 0, 0, 0, 0, 0, 0, 0, 0, 0, 1, 0, 0, 0, 0, 0, 0, 0, 0, 0, 0, 0, 0, 0, 0, 0, 0, 0, 0, 0, 0, 0, 0, 0, 0, 0, 0, 0, 0, 0, 0, 0, 0, 0, 1, 0, 0, 0, 0, 0, 0, 0, 0, 0, 1, 1, 1, 0, 0, 0, 0, 1, 1, 1, 1, 1, 1, 1, 1, 1, 1]
def am_m (k : Nat) : MT := am_mt.getD k (⟨"", "", ""⟩, 0, code, 0, none)
theorem am_ow_ok : (am_mt.all fun q => decide (q.1.cls = am_own q.2.1)) = true := by decide +kernel
set_option maxRecDepth 100000 in
theorem am_fl_ok : am_flp.map (fun i => lw_tbl[i]?) = am_fl.map (fun q => some (Cond.fieldLink (am_own q.1) q.2.1 ((am_cl.getD q.2.2.1 ("", F_0, 0)).2.1 q.2.2.2).1 ((am_cl.getD q.2.2.1 ("", F_0, 0)).2.1 q.2.2.2).2.1 ((am_cl.getD q.2.2.1 ("", F_0, 0)).2.1 q.2.2.2).2.2.1)) := by decide +kernel
set_option maxRecDepth 100000 in
theorem am_ml_ok : am_mlp.map (fun i => lw_tbl[i]?) = am_ml.map (fun q => some (Cond.methodLink (am_own q.1) q.2.1 (am_m q.2.2).1)) := by decide +kernel
set_option maxRecDepth 100000 in
theorem am_mn_ok : am_mnp.map (fun i => lw_tbl[i]?) = am_mn.map (fun q => some (Cond.methodLinkNest (am_own q.1) q.2.1 (am_m q.2.2).1 "TownSundays")) := by decide +kernel
set_option maxRecDepth 100000 in
theorem am_kl_ok : am_klp.map (fun i => lw_tbl[i]?) = am_kl.map (fun q => some (Cond.classLink (am_own q.1) q.2.1 (am_own q.2.2))) := by decide +kernel
set_option maxRecDepth 100000 in
theorem am_ci_ok : am_cip.map (fun i => lw_tbl[i]?) = am_ci.map (fun q => some (Cond.constant (am_own q.1) q.2.1 (Int32.ofInt q.2.2))) := by decide +kernel
set_option maxRecDepth 100000 in
theorem am_cj_ok : am_cjp.map (fun i => lw_tbl[i]?) = am_cj.map (fun q => some (Cond.constantLong (am_own q.1) q.2.1 (Int64.ofInt q.2.2))) := by decide +kernel

