section
-- ===== PART A: goes FIRST, ahead of the names: the tables' words, and 'selects' of the private methods out of them =====
/-- a private method of a class that the tables say can be made, by its rows of tables_1 -/
def lw_okq (q : MethodName × Nat) : Prop := (q.1.cls ≠ "java/lang/invoke/MethodHandle" ∧ q.1.cls ≠ "java/lang/invoke/VarHandle") ∧ Cond.instantiable q.1.cls q.2 ∈ tables_1 ∧ Cond.privateMethod q.1 ∈ tables_1 ∧ Cond.instanceMethod q.1 ∈ tables_1
theorem lw_p0 : lw_okq (⟨"FerretCables$Pipes", "fits", "(I)Z"⟩, 11) := ⟨⟨by decide +kernel, by decide +kernel⟩, List.mem_of_getElem? (i := 24) (by decide +kernel), List.mem_of_getElem? (i := 308) (by decide +kernel), List.mem_of_getElem? (i := 309) (by decide +kernel)⟩
theorem lw_p1 : lw_okq (⟨"FerretCables$Pipes", "takeUp", "(I)V"⟩, 11) := ⟨⟨by decide +kernel, by decide +kernel⟩, List.mem_of_getElem? (i := 24) (by decide +kernel), List.mem_of_getElem? (i := 313) (by decide +kernel), List.mem_of_getElem? (i := 314) (by decide +kernel)⟩
theorem lw_p2 : lw_okq (⟨"FerretCables$Pipes", "settle", "()V"⟩, 11) := ⟨⟨by decide +kernel, by decide +kernel⟩, List.mem_of_getElem? (i := 24) (by decide +kernel), List.mem_of_getElem? (i := 317) (by decide +kernel), List.mem_of_getElem? (i := 318) (by decide +kernel)⟩
theorem lw_p3 : lw_okq (⟨"FerretCables$Book", "afterPull", "(II)I"⟩, 7) := ⟨⟨by decide +kernel, by decide +kernel⟩, List.mem_of_getElem? (i := 117) (by decide +kernel), List.mem_of_getElem? (i := 325) (by decide +kernel), List.mem_of_getElem? (i := 326) (by decide +kernel)⟩
theorem lw_p4 : lw_okq (⟨"FerretCables$Book", "afterLetIn", "(I)I"⟩, 7) := ⟨⟨by decide +kernel, by decide +kernel⟩, List.mem_of_getElem? (i := 117) (by decide +kernel), List.mem_of_getElem? (i := 335) (by decide +kernel), List.mem_of_getElem? (i := 336) (by decide +kernel)⟩
theorem lw_p5 : lw_okq (⟨"FerretCables$Book", "fillLoad", "(I)V"⟩, 7) := ⟨⟨by decide +kernel, by decide +kernel⟩, List.mem_of_getElem? (i := 117) (by decide +kernel), List.mem_of_getElem? (i := 339) (by decide +kernel), List.mem_of_getElem? (i := 340) (by decide +kernel)⟩
theorem lw_p6 : lw_okq (⟨"FerretCables$Ways", "measure", "(I)V"⟩, 5) := ⟨⟨by decide +kernel, by decide +kernel⟩, List.mem_of_getElem? (i := 89) (by decide +kernel), List.mem_of_getElem? (i := 352) (by decide +kernel), List.mem_of_getElem? (i := 353) (by decide +kernel)⟩
theorem lw_p7 : lw_okq (⟨"FerretCables$Ways", "shorten", "(I)Z"⟩, 5) := ⟨⟨by decide +kernel, by decide +kernel⟩, List.mem_of_getElem? (i := 89) (by decide +kernel), List.mem_of_getElem? (i := 361) (by decide +kernel), List.mem_of_getElem? (i := 362) (by decide +kernel)⟩
theorem lw_p8 : lw_okq (⟨"FerretCables$Ways", "leastOnward", "(I)I"⟩, 5) := ⟨⟨by decide +kernel, by decide +kernel⟩, List.mem_of_getElem? (i := 89) (by decide +kernel), List.mem_of_getElem? (i := 365) (by decide +kernel), List.mem_of_getElem? (i := 366) (by decide +kernel)⟩
theorem lw_p9 : lw_okq (⟨"FerretCables", "setShut", "(I)I"⟩, 9) := ⟨⟨by decide +kernel, by decide +kernel⟩, List.mem_of_getElem? (i := 16) (by decide +kernel), List.mem_of_getElem? (i := 426) (by decide +kernel), List.mem_of_getElem? (i := 427) (by decide +kernel)⟩
theorem lw_p10 : lw_okq (⟨"FerretCables", "setTakes", "(I)I"⟩, 9) := ⟨⟨by decide +kernel, by decide +kernel⟩, List.mem_of_getElem? (i := 16) (by decide +kernel), List.mem_of_getElem? (i := 430) (by decide +kernel), List.mem_of_getElem? (i := 431) (by decide +kernel)⟩
theorem lw_p11 : lw_okq (⟨"FerretCables", "setHard", "(I)I"⟩, 9) := ⟨⟨by decide +kernel, by decide +kernel⟩, List.mem_of_getElem? (i := 16) (by decide +kernel), List.mem_of_getElem? (i := 434) (by decide +kernel), List.mem_of_getElem? (i := 435) (by decide +kernel)⟩
theorem lw_p12 : lw_okq (⟨"FerretCables$Book", "isDone", "(I)Z"⟩, 7) := ⟨⟨by decide +kernel, by decide +kernel⟩, List.mem_of_getElem? (i := 117) (by decide +kernel), List.mem_of_getElem? (i := 497) (by decide +kernel), List.mem_of_getElem? (i := 498) (by decide +kernel)⟩
theorem lw_p13 : lw_okq (⟨"FerretCables", "isBehind", "(I)Z"⟩, 9) := ⟨⟨by decide +kernel, by decide +kernel⟩, List.mem_of_getElem? (i := 16) (by decide +kernel), List.mem_of_getElem? (i := 505) (by decide +kernel), List.mem_of_getElem? (i := 506) (by decide +kernel)⟩
theorem lw_p14 : lw_okq (⟨"FerretCables", "findWay", "(II)Z"⟩, 9) := ⟨⟨by decide +kernel, by decide +kernel⟩, List.mem_of_getElem? (i := 16) (by decide +kernel), List.mem_of_getElem? (i := 533) (by decide +kernel), List.mem_of_getElem? (i := 534) (by decide +kernel)⟩
theorem lw_p15 : lw_okq (⟨"FerretCables$Ways", "roomInRow", "()I"⟩, 5) := ⟨⟨by decide +kernel, by decide +kernel⟩, List.mem_of_getElem? (i := 89) (by decide +kernel), List.mem_of_getElem? (i := 555) (by decide +kernel), List.mem_of_getElem? (i := 556) (by decide +kernel)⟩
def lw_privs_1 : List (MethodName × Nat) := [(⟨"FerretCables$Pipes", "fits", "(I)Z"⟩, 11), (⟨"FerretCables$Pipes", "takeUp", "(I)V"⟩, 11), (⟨"FerretCables$Pipes", "settle", "()V"⟩, 11), (⟨"FerretCables$Book", "afterPull", "(II)I"⟩, 7), (⟨"FerretCables$Book", "afterLetIn", "(I)I"⟩, 7), (⟨"FerretCables$Book", "fillLoad", "(I)V"⟩, 7), (⟨"FerretCables$Ways", "measure", "(I)V"⟩, 5), (⟨"FerretCables$Ways", "shorten", "(I)Z"⟩, 5), (⟨"FerretCables$Ways", "leastOnward", "(I)I"⟩, 5), (⟨"FerretCables", "setShut", "(I)I"⟩, 9), (⟨"FerretCables", "setTakes", "(I)I"⟩, 9), (⟨"FerretCables", "setHard", "(I)I"⟩, 9), (⟨"FerretCables$Book", "isDone", "(I)Z"⟩, 7), (⟨"FerretCables", "isBehind", "(I)Z"⟩, 9), (⟨"FerretCables", "findWay", "(II)Z"⟩, 9), (⟨"FerretCables$Ways", "roomInRow", "()I"⟩, 5)]
theorem lw_r1 : ∀ q ∈ lw_privs_1, lw_okq q := List.forall_mem_cons.mpr ⟨lw_p0, List.forall_mem_cons.mpr ⟨lw_p1, List.forall_mem_cons.mpr ⟨lw_p2, List.forall_mem_cons.mpr ⟨lw_p3, List.forall_mem_cons.mpr ⟨lw_p4, List.forall_mem_cons.mpr ⟨lw_p5, List.forall_mem_cons.mpr ⟨lw_p6, List.forall_mem_cons.mpr ⟨lw_p7, List.forall_mem_cons.mpr ⟨lw_p8, List.forall_mem_cons.mpr ⟨lw_p9, List.forall_mem_cons.mpr ⟨lw_p10, List.forall_mem_cons.mpr ⟨lw_p11, List.forall_mem_cons.mpr ⟨lw_p12, List.forall_mem_cons.mpr ⟨lw_p13, List.forall_mem_cons.mpr ⟨lw_p14, List.forall_mem_cons.mpr ⟨lw_p15, fun _ h => absurd h List.not_mem_nil⟩⟩⟩⟩⟩⟩⟩⟩⟩⟩⟩⟩⟩⟩⟩⟩
theorem lw_p16 : lw_okq (⟨"FerretCables$Flow", "seekRoom", "(II)Z"⟩, 5) := ⟨⟨by decide +kernel, by decide +kernel⟩, List.mem_of_getElem? (i := 147) (by decide +kernel), List.mem_of_getElem? (i := 571) (by decide +kernel), List.mem_of_getElem? (i := 572) (by decide +kernel)⟩
theorem lw_p17 : lw_okq (⟨"FerretCables$Flow", "hasRoom", "(II)Z"⟩, 5) := ⟨⟨by decide +kernel, by decide +kernel⟩, List.mem_of_getElem? (i := 147) (by decide +kernel), List.mem_of_getElem? (i := 578) (by decide +kernel), List.mem_of_getElem? (i := 579) (by decide +kernel)⟩
theorem lw_p18 : lw_okq (⟨"FerretCables$Flow", "push", "(II)V"⟩, 5) := ⟨⟨by decide +kernel, by decide +kernel⟩, List.mem_of_getElem? (i := 147) (by decide +kernel), List.mem_of_getElem? (i := 587) (by decide +kernel), List.mem_of_getElem? (i := 588) (by decide +kernel)⟩
theorem lw_p19 : lw_okq (⟨"FerretCables", "failingDay", "(II)I"⟩, 9) := ⟨⟨by decide +kernel, by decide +kernel⟩, List.mem_of_getElem? (i := 16) (by decide +kernel), List.mem_of_getElem? (i := 595) (by decide +kernel), List.mem_of_getElem? (i := 596) (by decide +kernel)⟩
theorem lw_p20 : lw_okq (⟨"FerretCables$Lamps", "lastLetIn", "(II)I"⟩, 6) := ⟨⟨by decide +kernel, by decide +kernel⟩, List.mem_of_getElem? (i := 169) (by decide +kernel), List.mem_of_getElem? (i := 638) (by decide +kernel), List.mem_of_getElem? (i := 639) (by decide +kernel)⟩
theorem lw_p21 : lw_okq (⟨"FerretCables$Lamps", "burningWith", "(II)I"⟩, 6) := ⟨⟨by decide +kernel, by decide +kernel⟩, List.mem_of_getElem? (i := 169) (by decide +kernel), List.mem_of_getElem? (i := 642) (by decide +kernel), List.mem_of_getElem? (i := 643) (by decide +kernel)⟩
theorem lw_p22 : lw_okq (⟨"FerretCables$Lamps", "spread", "(II)I"⟩, 6) := ⟨⟨by decide +kernel, by decide +kernel⟩, List.mem_of_getElem? (i := 169) (by decide +kernel), List.mem_of_getElem? (i := 646) (by decide +kernel), List.mem_of_getElem? (i := 647) (by decide +kernel)⟩
theorem lw_p23 : lw_okq (⟨"FerretCables$Lamps", "seekTwo", "(I)V"⟩, 6) := ⟨⟨by decide +kernel, by decide +kernel⟩, List.mem_of_getElem? (i := 169) (by decide +kernel), List.mem_of_getElem? (i := 656) (by decide +kernel), List.mem_of_getElem? (i := 657) (by decide +kernel)⟩
theorem lw_p24 : lw_okq (⟨"FerretCables$Roaming", "ring", "()V"⟩, 4) := ⟨⟨by decide +kernel, by decide +kernel⟩, List.mem_of_getElem? (i := 197) (by decide +kernel), List.mem_of_getElem? (i := 671) (by decide +kernel), List.mem_of_getElem? (i := 672) (by decide +kernel)⟩
theorem lw_p25 : lw_okq (⟨"FerretCables$Roaming", "choicesAt", "(I)I"⟩, 4) := ⟨⟨by decide +kernel, by decide +kernel⟩, List.mem_of_getElem? (i := 197) (by decide +kernel), List.mem_of_getElem? (i := 696) (by decide +kernel), List.mem_of_getElem? (i := 697) (by decide +kernel)⟩
theorem lw_p26 : lw_okq (⟨"FerretCables$Roaming", "isChoice", "(II)Z"⟩, 4) := ⟨⟨by decide +kernel, by decide +kernel⟩, List.mem_of_getElem? (i := 197) (by decide +kernel), List.mem_of_getElem? (i := 700) (by decide +kernel), List.mem_of_getElem? (i := 701) (by decide +kernel)⟩
theorem lw_p27 : lw_okq (⟨"FerretCables$Roaming", "behindChoice", "(II)I"⟩, 4) := ⟨⟨by decide +kernel, by decide +kernel⟩, List.mem_of_getElem? (i := 197) (by decide +kernel), List.mem_of_getElem? (i := 706) (by decide +kernel), List.mem_of_getElem? (i := 707) (by decide +kernel)⟩
theorem lw_p28 : lw_okq (⟨"FerretCables", "burningBehind", "(I)I"⟩, 9) := ⟨⟨by decide +kernel, by decide +kernel⟩, List.mem_of_getElem? (i := 16) (by decide +kernel), List.mem_of_getElem? (i := 737) (by decide +kernel), List.mem_of_getElem? (i := 738) (by decide +kernel)⟩
theorem lw_p29 : lw_okq (⟨"FerretCables", "mixPipes", "(J)J"⟩, 9) := ⟨⟨by decide +kernel, by decide +kernel⟩, List.mem_of_getElem? (i := 16) (by decide +kernel), List.mem_of_getElem? (i := 848) (by decide +kernel), List.mem_of_getElem? (i := 849) (by decide +kernel)⟩
theorem lw_p30 : lw_okq (⟨"FerretCables", "mixWires", "(J)J"⟩, 9) := ⟨⟨by decide +kernel, by decide +kernel⟩, List.mem_of_getElem? (i := 16) (by decide +kernel), List.mem_of_getElem? (i := 853) (by decide +kernel), List.mem_of_getElem? (i := 854) (by decide +kernel)⟩
theorem lw_p31 : lw_okq (⟨"FerretCables", "mixEnds", "(J)J"⟩, 9) := ⟨⟨by decide +kernel, by decide +kernel⟩, List.mem_of_getElem? (i := 16) (by decide +kernel), List.mem_of_getElem? (i := 864) (by decide +kernel), List.mem_of_getElem? (i := 865) (by decide +kernel)⟩
def lw_privs_2 : List (MethodName × Nat) := [(⟨"FerretCables$Flow", "seekRoom", "(II)Z"⟩, 5), (⟨"FerretCables$Flow", "hasRoom", "(II)Z"⟩, 5), (⟨"FerretCables$Flow", "push", "(II)V"⟩, 5), (⟨"FerretCables", "failingDay", "(II)I"⟩, 9), (⟨"FerretCables$Lamps", "lastLetIn", "(II)I"⟩, 6), (⟨"FerretCables$Lamps", "burningWith", "(II)I"⟩, 6), (⟨"FerretCables$Lamps", "spread", "(II)I"⟩, 6), (⟨"FerretCables$Lamps", "seekTwo", "(I)V"⟩, 6), (⟨"FerretCables$Roaming", "ring", "()V"⟩, 4), (⟨"FerretCables$Roaming", "choicesAt", "(I)I"⟩, 4), (⟨"FerretCables$Roaming", "isChoice", "(II)Z"⟩, 4), (⟨"FerretCables$Roaming", "behindChoice", "(II)I"⟩, 4), (⟨"FerretCables", "burningBehind", "(I)I"⟩, 9), (⟨"FerretCables", "mixPipes", "(J)J"⟩, 9), (⟨"FerretCables", "mixWires", "(J)J"⟩, 9), (⟨"FerretCables", "mixEnds", "(J)J"⟩, 9)]
theorem lw_r2 : ∀ q ∈ lw_privs_2, lw_okq q := List.forall_mem_cons.mpr ⟨lw_p16, List.forall_mem_cons.mpr ⟨lw_p17, List.forall_mem_cons.mpr ⟨lw_p18, List.forall_mem_cons.mpr ⟨lw_p19, List.forall_mem_cons.mpr ⟨lw_p20, List.forall_mem_cons.mpr ⟨lw_p21, List.forall_mem_cons.mpr ⟨lw_p22, List.forall_mem_cons.mpr ⟨lw_p23, List.forall_mem_cons.mpr ⟨lw_p24, List.forall_mem_cons.mpr ⟨lw_p25, List.forall_mem_cons.mpr ⟨lw_p26, List.forall_mem_cons.mpr ⟨lw_p27, List.forall_mem_cons.mpr ⟨lw_p28, List.forall_mem_cons.mpr ⟨lw_p29, List.forall_mem_cons.mpr ⟨lw_p30, List.forall_mem_cons.mpr ⟨lw_p31, fun _ h => absurd h List.not_mem_nil⟩⟩⟩⟩⟩⟩⟩⟩⟩⟩⟩⟩⟩⟩⟩⟩
theorem lw_p32 : lw_okq (⟨"FerretCablesModel", "finds", "(I)I"⟩, 30) := ⟨⟨by decide +kernel, by decide +kernel⟩, List.mem_of_getElem? (i := 875) (by decide +kernel), List.mem_of_getElem? (i := 984) (by decide +kernel), List.mem_of_getElem? (i := 985) (by decide +kernel)⟩
theorem lw_p33 : lw_okq (⟨"FerretCablesModel", "lacks", "(III)I"⟩, 30) := ⟨⟨by decide +kernel, by decide +kernel⟩, List.mem_of_getElem? (i := 875) (by decide +kernel), List.mem_of_getElem? (i := 996) (by decide +kernel), List.mem_of_getElem? (i := 997) (by decide +kernel)⟩
theorem lw_p34 : lw_okq (⟨"FerretCablesModel", "reads", "()I"⟩, 30) := ⟨⟨by decide +kernel, by decide +kernel⟩, List.mem_of_getElem? (i := 875) (by decide +kernel), List.mem_of_getElem? (i := 1025) (by decide +kernel), List.mem_of_getElem? (i := 1026) (by decide +kernel)⟩
theorem lw_p35 : lw_okq (⟨"FerretCablesModel", "readsPipe", "()Z"⟩, 30) := ⟨⟨by decide +kernel, by decide +kernel⟩, List.mem_of_getElem? (i := 875) (by decide +kernel), List.mem_of_getElem? (i := 1029) (by decide +kernel), List.mem_of_getElem? (i := 1030) (by decide +kernel)⟩
theorem lw_p36 : lw_okq (⟨"FerretCablesModel", "more", "(II)I"⟩, 30) := ⟨⟨by decide +kernel, by decide +kernel⟩, List.mem_of_getElem? (i := 875) (by decide +kernel), List.mem_of_getElem? (i := 1056) (by decide +kernel), List.mem_of_getElem? (i := 1057) (by decide +kernel)⟩
theorem lw_p37 : lw_okq (⟨"FerretCablesModel", "goesAll", "()V"⟩, 30) := ⟨⟨by decide +kernel, by decide +kernel⟩, List.mem_of_getElem? (i := 875) (by decide +kernel), List.mem_of_getElem? (i := 1081) (by decide +kernel), List.mem_of_getElem? (i := 1082) (by decide +kernel)⟩
theorem lw_p38 : lw_okq (⟨"FerretCablesModel", "goes", "(I)V"⟩, 30) := ⟨⟨by decide +kernel, by decide +kernel⟩, List.mem_of_getElem? (i := 875) (by decide +kernel), List.mem_of_getElem? (i := 1085) (by decide +kernel), List.mem_of_getElem? (i := 1086) (by decide +kernel)⟩
theorem lw_p39 : lw_okq (⟨"FerretCablesModel", "draws", "(II)I"⟩, 30) := ⟨⟨by decide +kernel, by decide +kernel⟩, List.mem_of_getElem? (i := 875) (by decide +kernel), List.mem_of_getElem? (i := 1089) (by decide +kernel), List.mem_of_getElem? (i := 1090) (by decide +kernel)⟩
theorem lw_p40 : lw_okq (⟨"FerretCablesModel", "findWay", "(II)I"⟩, 30) := ⟨⟨by decide +kernel, by decide +kernel⟩, List.mem_of_getElem? (i := 875) (by decide +kernel), List.mem_of_getElem? (i := 1093) (by decide +kernel), List.mem_of_getElem? (i := 1094) (by decide +kernel)⟩
theorem lw_p41 : lw_okq (⟨"FerretCablesModel", "findFar", "(I)V"⟩, 30) := ⟨⟨by decide +kernel, by decide +kernel⟩, List.mem_of_getElem? (i := 875) (by decide +kernel), List.mem_of_getElem? (i := 1097) (by decide +kernel), List.mem_of_getElem? (i := 1098) (by decide +kernel)⟩
theorem lw_p42 : lw_okq (⟨"FerretCablesModel", "isOpen", "(I)Z"⟩, 30) := ⟨⟨by decide +kernel, by decide +kernel⟩, List.mem_of_getElem? (i := 875) (by decide +kernel), List.mem_of_getElem? (i := 1101) (by decide +kernel), List.mem_of_getElem? (i := 1102) (by decide +kernel)⟩
theorem lw_p43 : lw_okq (⟨"FerretCablesModel", "other", "(II)I"⟩, 30) := ⟨⟨by decide +kernel, by decide +kernel⟩, List.mem_of_getElem? (i := 875) (by decide +kernel), List.mem_of_getElem? (i := 1108) (by decide +kernel), List.mem_of_getElem? (i := 1109) (by decide +kernel)⟩
theorem lw_p44 : lw_okq (⟨"FerretCablesModel", "canPull", "(I)Z"⟩, 30) := ⟨⟨by decide +kernel, by decide +kernel⟩, List.mem_of_getElem? (i := 875) (by decide +kernel), List.mem_of_getElem? (i := 1112) (by decide +kernel), List.mem_of_getElem? (i := 1113) (by decide +kernel)⟩
theorem lw_p45 : lw_okq (⟨"FerretCablesModel", "pulls", "(I)V"⟩, 30) := ⟨⟨by decide +kernel, by decide +kernel⟩, List.mem_of_getElem? (i := 875) (by decide +kernel), List.mem_of_getElem? (i := 1116) (by decide +kernel), List.mem_of_getElem? (i := 1117) (by decide +kernel)⟩
theorem lw_p46 : lw_okq (⟨"FerretCablesModel", "stateOf", "(II)I"⟩, 30) := ⟨⟨by decide +kernel, by decide +kernel⟩, List.mem_of_getElem? (i := 875) (by decide +kernel), List.mem_of_getElem? (i := 1131) (by decide +kernel), List.mem_of_getElem? (i := 1132) (by decide +kernel)⟩
theorem lw_p47 : lw_okq (⟨"FerretCablesModel", "fullNow", "()I"⟩, 30) := ⟨⟨by decide +kernel, by decide +kernel⟩, List.mem_of_getElem? (i := 875) (by decide +kernel), List.mem_of_getElem? (i := 1135) (by decide +kernel), List.mem_of_getElem? (i := 1136) (by decide +kernel)⟩
def lw_privs_3 : List (MethodName × Nat) := [(⟨"FerretCablesModel", "finds", "(I)I"⟩, 30), (⟨"FerretCablesModel", "lacks", "(III)I"⟩, 30), (⟨"FerretCablesModel", "reads", "()I"⟩, 30), (⟨"FerretCablesModel", "readsPipe", "()Z"⟩, 30), (⟨"FerretCablesModel", "more", "(II)I"⟩, 30), (⟨"FerretCablesModel", "goesAll", "()V"⟩, 30), (⟨"FerretCablesModel", "goes", "(I)V"⟩, 30), (⟨"FerretCablesModel", "draws", "(II)I"⟩, 30), (⟨"FerretCablesModel", "findWay", "(II)I"⟩, 30), (⟨"FerretCablesModel", "findFar", "(I)V"⟩, 30), (⟨"FerretCablesModel", "isOpen", "(I)Z"⟩, 30), (⟨"FerretCablesModel", "other", "(II)I"⟩, 30), (⟨"FerretCablesModel", "canPull", "(I)Z"⟩, 30), (⟨"FerretCablesModel", "pulls", "(I)V"⟩, 30), (⟨"FerretCablesModel", "stateOf", "(II)I"⟩, 30), (⟨"FerretCablesModel", "fullNow", "()I"⟩, 30)]
theorem lw_r3 : ∀ q ∈ lw_privs_3, lw_okq q := List.forall_mem_cons.mpr ⟨lw_p32, List.forall_mem_cons.mpr ⟨lw_p33, List.forall_mem_cons.mpr ⟨lw_p34, List.forall_mem_cons.mpr ⟨lw_p35, List.forall_mem_cons.mpr ⟨lw_p36, List.forall_mem_cons.mpr ⟨lw_p37, List.forall_mem_cons.mpr ⟨lw_p38, List.forall_mem_cons.mpr ⟨lw_p39, List.forall_mem_cons.mpr ⟨lw_p40, List.forall_mem_cons.mpr ⟨lw_p41, List.forall_mem_cons.mpr ⟨lw_p42, List.forall_mem_cons.mpr ⟨lw_p43, List.forall_mem_cons.mpr ⟨lw_p44, List.forall_mem_cons.mpr ⟨lw_p45, List.forall_mem_cons.mpr ⟨lw_p46, List.forall_mem_cons.mpr ⟨lw_p47, fun _ h => absurd h List.not_mem_nil⟩⟩⟩⟩⟩⟩⟩⟩⟩⟩⟩⟩⟩⟩⟩⟩
theorem lw_p48 : lw_okq (⟨"FerretCablesModel", "pipesOf", "(I)I"⟩, 30) := ⟨⟨by decide +kernel, by decide +kernel⟩, List.mem_of_getElem? (i := 875) (by decide +kernel), List.mem_of_getElem? (i := 1143) (by decide +kernel), List.mem_of_getElem? (i := 1144) (by decide +kernel)⟩
theorem lw_p49 : lw_okq (⟨"FerretCablesModel", "outOf", "(I)I"⟩, 30) := ⟨⟨by decide +kernel, by decide +kernel⟩, List.mem_of_getElem? (i := 875) (by decide +kernel), List.mem_of_getElem? (i := 1151) (by decide +kernel), List.mem_of_getElem? (i := 1152) (by decide +kernel)⟩
theorem lw_p50 : lw_okq (⟨"FerretCablesModel", "shortestOf", "(III)I"⟩, 30) := ⟨⟨by decide +kernel, by decide +kernel⟩, List.mem_of_getElem? (i := 875) (by decide +kernel), List.mem_of_getElem? (i := 1159) (by decide +kernel), List.mem_of_getElem? (i := 1160) (by decide +kernel)⟩
theorem lw_p51 : lw_okq (⟨"FerretCablesModel", "drawnOf", "(II)I"⟩, 30) := ⟨⟨by decide +kernel, by decide +kernel⟩, List.mem_of_getElem? (i := 875) (by decide +kernel), List.mem_of_getElem? (i := 1167) (by decide +kernel), List.mem_of_getElem? (i := 1168) (by decide +kernel)⟩
theorem lw_p52 : lw_okq (⟨"FerretCablesModel", "keeps", "()V"⟩, 30) := ⟨⟨by decide +kernel, by decide +kernel⟩, List.mem_of_getElem? (i := 875) (by decide +kernel), List.mem_of_getElem? (i := 1171) (by decide +kernel), List.mem_of_getElem? (i := 1172) (by decide +kernel)⟩
theorem lw_p53 : lw_okq (⟨"FerretCablesModel", "putsBack", "()V"⟩, 30) := ⟨⟨by decide +kernel, by decide +kernel⟩, List.mem_of_getElem? (i := 875) (by decide +kernel), List.mem_of_getElem? (i := 1175) (by decide +kernel), List.mem_of_getElem? (i := 1176) (by decide +kernel)⟩
theorem lw_p54 : lw_okq (⟨"FerretCablesModel", "mostOf", "(II)I"⟩, 30) := ⟨⟨by decide +kernel, by decide +kernel⟩, List.mem_of_getElem? (i := 875) (by decide +kernel), List.mem_of_getElem? (i := 1179) (by decide +kernel), List.mem_of_getElem? (i := 1180) (by decide +kernel)⟩
theorem lw_p55 : lw_okq (⟨"FerretCablesModel", "flows", "(II)Z"⟩, 30) := ⟨⟨by decide +kernel, by decide +kernel⟩, List.mem_of_getElem? (i := 875) (by decide +kernel), List.mem_of_getElem? (i := 1183) (by decide +kernel), List.mem_of_getElem? (i := 1184) (by decide +kernel)⟩
theorem lw_p56 : lw_okq (⟨"FerretCablesModel", "failsOf", "(I)I"⟩, 30) := ⟨⟨by decide +kernel, by decide +kernel⟩, List.mem_of_getElem? (i := 875) (by decide +kernel), List.mem_of_getElem? (i := 1191) (by decide +kernel), List.mem_of_getElem? (i := 1192) (by decide +kernel)⟩
theorem lw_p57 : lw_okq (⟨"FerretCablesModel", "soonestNow", "()I"⟩, 30) := ⟨⟨by decide +kernel, by decide +kernel⟩, List.mem_of_getElem? (i := 875) (by decide +kernel), List.mem_of_getElem? (i := 1199) (by decide +kernel), List.mem_of_getElem? (i := 1200) (by decide +kernel)⟩
theorem lw_p58 : lw_okq (⟨"FerretCablesModel", "leftOn", "(I)I"⟩, 30) := ⟨⟨by decide +kernel, by decide +kernel⟩, List.mem_of_getElem? (i := 875) (by decide +kernel), List.mem_of_getElem? (i := 1207) (by decide +kernel), List.mem_of_getElem? (i := 1208) (by decide +kernel)⟩
theorem lw_p59 : lw_okq (⟨"FerretCablesModel", "burnsNow", "(I)I"⟩, 30) := ⟨⟨by decide +kernel, by decide +kernel⟩, List.mem_of_getElem? (i := 875) (by decide +kernel), List.mem_of_getElem? (i := 1215) (by decide +kernel), List.mem_of_getElem? (i := 1216) (by decide +kernel)⟩
theorem lw_p60 : lw_okq (⟨"FerretCablesModel", "burnsBy", "(IIIII)I"⟩, 30) := ⟨⟨by decide +kernel, by decide +kernel⟩, List.mem_of_getElem? (i := 875) (by decide +kernel), List.mem_of_getElem? (i := 1219) (by decide +kernel), List.mem_of_getElem? (i := 1220) (by decide +kernel)⟩
theorem lw_p61 : lw_okq (⟨"FerretCablesModel", "findLit", "(I)V"⟩, 30) := ⟨⟨by decide +kernel, by decide +kernel⟩, List.mem_of_getElem? (i := 875) (by decide +kernel), List.mem_of_getElem? (i := 1230) (by decide +kernel), List.mem_of_getElem? (i := 1231) (by decide +kernel)⟩
theorem lw_p62 : lw_okq (⟨"FerretCablesModel", "lights", "(III)Z"⟩, 30) := ⟨⟨by decide +kernel, by decide +kernel⟩, List.mem_of_getElem? (i := 875) (by decide +kernel), List.mem_of_getElem? (i := 1234) (by decide +kernel), List.mem_of_getElem? (i := 1235) (by decide +kernel)⟩
theorem lw_p63 : lw_okq (⟨"FerretCablesModel", "heardOf", "(III)I"⟩, 30) := ⟨⟨by decide +kernel, by decide +kernel⟩, List.mem_of_getElem? (i := 875) (by decide +kernel), List.mem_of_getElem? (i := 1244) (by decide +kernel), List.mem_of_getElem? (i := 1245) (by decide +kernel)⟩
def lw_privs_4 : List (MethodName × Nat) := [(⟨"FerretCablesModel", "pipesOf", "(I)I"⟩, 30), (⟨"FerretCablesModel", "outOf", "(I)I"⟩, 30), (⟨"FerretCablesModel", "shortestOf", "(III)I"⟩, 30), (⟨"FerretCablesModel", "drawnOf", "(II)I"⟩, 30), (⟨"FerretCablesModel", "keeps", "()V"⟩, 30), (⟨"FerretCablesModel", "putsBack", "()V"⟩, 30), (⟨"FerretCablesModel", "mostOf", "(II)I"⟩, 30), (⟨"FerretCablesModel", "flows", "(II)Z"⟩, 30), (⟨"FerretCablesModel", "failsOf", "(I)I"⟩, 30), (⟨"FerretCablesModel", "soonestNow", "()I"⟩, 30), (⟨"FerretCablesModel", "leftOn", "(I)I"⟩, 30), (⟨"FerretCablesModel", "burnsNow", "(I)I"⟩, 30), (⟨"FerretCablesModel", "burnsBy", "(IIIII)I"⟩, 30), (⟨"FerretCablesModel", "findLit", "(I)V"⟩, 30), (⟨"FerretCablesModel", "lights", "(III)Z"⟩, 30), (⟨"FerretCablesModel", "heardOf", "(III)I"⟩, 30)]
theorem lw_r4 : ∀ q ∈ lw_privs_4, lw_okq q := List.forall_mem_cons.mpr ⟨lw_p48, List.forall_mem_cons.mpr ⟨lw_p49, List.forall_mem_cons.mpr ⟨lw_p50, List.forall_mem_cons.mpr ⟨lw_p51, List.forall_mem_cons.mpr ⟨lw_p52, List.forall_mem_cons.mpr ⟨lw_p53, List.forall_mem_cons.mpr ⟨lw_p54, List.forall_mem_cons.mpr ⟨lw_p55, List.forall_mem_cons.mpr ⟨lw_p56, List.forall_mem_cons.mpr ⟨lw_p57, List.forall_mem_cons.mpr ⟨lw_p58, List.forall_mem_cons.mpr ⟨lw_p59, List.forall_mem_cons.mpr ⟨lw_p60, List.forall_mem_cons.mpr ⟨lw_p61, List.forall_mem_cons.mpr ⟨lw_p62, List.forall_mem_cons.mpr ⟨lw_p63, fun _ h => absurd h List.not_mem_nil⟩⟩⟩⟩⟩⟩⟩⟩⟩⟩⟩⟩⟩⟩⟩⟩
theorem lw_p64 : lw_okq (⟨"FerretCablesModel", "walks", "(II)V"⟩, 30) := ⟨⟨by decide +kernel, by decide +kernel⟩, List.mem_of_getElem? (i := 875) (by decide +kernel), List.mem_of_getElem? (i := 1248) (by decide +kernel), List.mem_of_getElem? (i := 1249) (by decide +kernel)⟩
theorem lw_p65 : lw_okq (⟨"FerretCablesModel", "goesThrough", "(I)Z"⟩, 30) := ⟨⟨by decide +kernel, by decide +kernel⟩, List.mem_of_getElem? (i := 875) (by decide +kernel), List.mem_of_getElem? (i := 1252) (by decide +kernel), List.mem_of_getElem? (i := 1253) (by decide +kernel)⟩
theorem lw_p66 : lw_okq (⟨"FerretCablesModel", "inAt", "(I)I"⟩, 30) := ⟨⟨by decide +kernel, by decide +kernel⟩, List.mem_of_getElem? (i := 875) (by decide +kernel), List.mem_of_getElem? (i := 1256) (by decide +kernel), List.mem_of_getElem? (i := 1257) (by decide +kernel)⟩
theorem lw_p67 : lw_okq (⟨"FerretCablesModel", "outAt", "(I)I"⟩, 30) := ⟨⟨by decide +kernel, by decide +kernel⟩, List.mem_of_getElem? (i := 875) (by decide +kernel), List.mem_of_getElem? (i := 1260) (by decide +kernel), List.mem_of_getElem? (i := 1261) (by decide +kernel)⟩
theorem lw_p68 : lw_okq (⟨"FerretCablesModel", "waysTo", "(III)I"⟩, 30) := ⟨⟨by decide +kernel, by decide +kernel⟩, List.mem_of_getElem? (i := 875) (by decide +kernel), List.mem_of_getElem? (i := 1264) (by decide +kernel), List.mem_of_getElem? (i := 1265) (by decide +kernel)⟩
theorem lw_p69 : lw_okq (⟨"FerretCablesModel", "meetOf", "(IIII)I"⟩, 30) := ⟨⟨by decide +kernel, by decide +kernel⟩, List.mem_of_getElem? (i := 875) (by decide +kernel), List.mem_of_getElem? (i := 1272) (by decide +kernel), List.mem_of_getElem? (i := 1273) (by decide +kernel)⟩
theorem lw_p70 : lw_okq (⟨"FerretCablesModel", "drowsyOf", "(III)I"⟩, 30) := ⟨⟨by decide +kernel, by decide +kernel⟩, List.mem_of_getElem? (i := 875) (by decide +kernel), List.mem_of_getElem? (i := 1281) (by decide +kernel), List.mem_of_getElem? (i := 1282) (by decide +kernel)⟩
theorem lw_p71 : lw_okq (⟨"FerretCablesModel", "liesNow", "()I"⟩, 30) := ⟨⟨by decide +kernel, by decide +kernel⟩, List.mem_of_getElem? (i := 875) (by decide +kernel), List.mem_of_getElem? (i := 1294) (by decide +kernel), List.mem_of_getElem? (i := 1295) (by decide +kernel)⟩
theorem lw_p72 : lw_okq (⟨"FerretCablesModel", "scenesOf", "(I)I"⟩, 30) := ⟨⟨by decide +kernel, by decide +kernel⟩, List.mem_of_getElem? (i := 875) (by decide +kernel), List.mem_of_getElem? (i := 1306) (by decide +kernel), List.mem_of_getElem? (i := 1307) (by decide +kernel)⟩
theorem lw_p73 : lw_okq (⟨"FerretCablesModel", "cueOf", "(I)I"⟩, 30) := ⟨⟨by decide +kernel, by decide +kernel⟩, List.mem_of_getElem? (i := 875) (by decide +kernel), List.mem_of_getElem? (i := 1314) (by decide +kernel), List.mem_of_getElem? (i := 1315) (by decide +kernel)⟩
def lw_privs_5 : List (MethodName × Nat) := [(⟨"FerretCablesModel", "walks", "(II)V"⟩, 30), (⟨"FerretCablesModel", "goesThrough", "(I)Z"⟩, 30), (⟨"FerretCablesModel", "inAt", "(I)I"⟩, 30), (⟨"FerretCablesModel", "outAt", "(I)I"⟩, 30), (⟨"FerretCablesModel", "waysTo", "(III)I"⟩, 30), (⟨"FerretCablesModel", "meetOf", "(IIII)I"⟩, 30), (⟨"FerretCablesModel", "drowsyOf", "(III)I"⟩, 30), (⟨"FerretCablesModel", "liesNow", "()I"⟩, 30), (⟨"FerretCablesModel", "scenesOf", "(I)I"⟩, 30), (⟨"FerretCablesModel", "cueOf", "(I)I"⟩, 30)]
theorem lw_r5 : ∀ q ∈ lw_privs_5, lw_okq q := List.forall_mem_cons.mpr ⟨lw_p64, List.forall_mem_cons.mpr ⟨lw_p65, List.forall_mem_cons.mpr ⟨lw_p66, List.forall_mem_cons.mpr ⟨lw_p67, List.forall_mem_cons.mpr ⟨lw_p68, List.forall_mem_cons.mpr ⟨lw_p69, List.forall_mem_cons.mpr ⟨lw_p70, List.forall_mem_cons.mpr ⟨lw_p71, List.forall_mem_cons.mpr ⟨lw_p72, List.forall_mem_cons.mpr ⟨lw_p73, fun _ h => absurd h List.not_mem_nil⟩⟩⟩⟩⟩⟩⟩⟩⟩⟩
def lw_privs : List (MethodName × Nat) := lw_privs_1 ++ (lw_privs_2 ++ (lw_privs_3 ++ (lw_privs_4 ++ (lw_privs_5))))
def lw_tbl : List Cond := k2_sels lw_privs ++ tables_1
theorem lw_privs_ok : ∀ q ∈ lw_privs, lw_okq q := by
  show ∀ q ∈ lw_privs_1 ++ (lw_privs_2 ++ (lw_privs_3 ++ (lw_privs_4 ++ (lw_privs_5)))), lw_okq q
  exact List.forall_mem_append.mpr ⟨lw_r1, List.forall_mem_append.mpr ⟨lw_r2, List.forall_mem_append.mpr ⟨lw_r3, List.forall_mem_append.mpr ⟨lw_r4, lw_r5⟩⟩⟩⟩
end
section
def RX0 : String := "FerretCables$Book"
def TX0 : u_T := fun k => match k with
  | 0 => ("FerretCables$Book", "ways", "LFerretCables$Ways;", true)
  | 1 => ("FerretCables$Book", "pipes", "LFerretCables$Pipes;", true)
  | 2 => ("FerretCables$Book", "from", "[I", true)
  | 3 => ("FerretCables$Book", "to", "[I", true)
  | 4 => ("FerretCables$Book", "lying", "[I", true)
  | 5 => ("FerretCables$Book", "laid", "[I", true)
  | _ => ("FerretCables$Book", "many", "I", false)
def tyX0 : Nat → FieldType := fun k => match k with
  | 0 => .object "FerretCables$Ways"
  | 1 => .object "FerretCables$Pipes"
  | 2 => .array .int
  | 3 => .array .int
  | 4 => .array .int
  | 5 => .array .int
  | _ => .int
theorem nmX0 : ∀ a, a < 7 → ∀ b, b < 7 → a ≠ b → (TX0 a).2.1 ≠ (TX0 b).2.1 := by decide +kernel
theorem tyX0_ok : ∀ k, k < 7 → parseFieldDescriptor (TX0 k).2.2.1 = some (tyX0 k) := by decide +kernel
abbrev cX0_init : ByteArray := prog_2_method_1_code
def yX0_init : MethodName := ⟨RX0, "<init>", "(LFerretCables$Ways;)V"⟩
abbrev cX0_add : ByteArray := prog_2_method_2_code
def yX0_add : MethodName := ⟨RX0, "add", "(II)I"⟩
abbrev cX0_dropStep : ByteArray := prog_2_method_3_code
def yX0_dropStep : MethodName := ⟨RX0, "dropStep", "()V"⟩
abbrev cX0_playFrom : ByteArray := prog_2_method_4_code
def yX0_playFrom : MethodName := ⟨RX0, "playFrom", "(I)V"⟩
abbrev cX0_lyingNow : ByteArray := prog_2_method_5_code
def yX0_lyingNow : MethodName := ⟨RX0, "lyingNow", "()I"⟩
abbrev cX0_afterLetIn : ByteArray := prog_2_method_6_code
def yX0_afterLetIn : MethodName := ⟨RX0, "afterLetIn", "(I)I"⟩
abbrev cX0_afterPull : ByteArray := prog_2_method_7_code
def yX0_afterPull : MethodName := ⟨RX0, "afterPull", "(II)I"⟩
abbrev cX0_isDone : ByteArray := prog_2_method_8_code
def yX0_isDone : MethodName := ⟨RX0, "isDone", "(I)Z"⟩
abbrev cX0_firstNotDone : ByteArray := prog_2_method_9_code
def yX0_firstNotDone : MethodName := ⟨RX0, "firstNotDone", "()I"⟩
abbrev cX0_howManyDone : ByteArray := prog_2_method_10_code
def yX0_howManyDone : MethodName := ⟨RX0, "howManyDone", "()I"⟩
abbrev cX0_pipesOf : ByteArray := prog_2_method_11_code
def yX0_pipesOf : MethodName := ⟨RX0, "pipesOf", "(II)I"⟩
abbrev cX0_endsOf : ByteArray := prog_2_method_12_code
def yX0_endsOf : MethodName := ⟨RX0, "endsOf", "(I)I"⟩
abbrev cX0_wiresIn : ByteArray := prog_2_method_13_code
def yX0_wiresIn : MethodName := ⟨RX0, "wiresIn", "(II)I"⟩
abbrev cX0_fullPipes : ByteArray := prog_2_method_14_code
def yX0_fullPipes : MethodName := ⟨RX0, "fullPipes", "(I)I"⟩
abbrev cX0_loadNow : ByteArray := prog_2_method_15_code
def yX0_loadNow : MethodName := ⟨RX0, "loadNow", "()V"⟩
abbrev cX0_fillLoad : ByteArray := prog_2_method_16_code
def yX0_fillLoad : MethodName := ⟨RX0, "fillLoad", "(I)V"⟩
abbrev cX0_drawnOutWith : ByteArray := prog_2_method_17_code
def yX0_drawnOutWith : MethodName := ⟨RX0, "drawnOutWith", "(I)I"⟩
abbrev cX0_joinedTo : ByteArray := prog_2_method_18_code
def yX0_joinedTo : MethodName := ⟨RX0, "joinedTo", "(II)I"⟩
def RX1 : String := "FerretCables$Flow"
def TX1 : u_T := fun k => match k with
  | 0 => ("FerretCables$Flow", "ways", "LFerretCables$Ways;", true)
  | 1 => ("FerretCables$Flow", "pipes", "LFerretCables$Pipes;", true)
  | 2 => ("FerretCables$Flow", "along", "[I", true)
  | 3 => ("FerretCables$Flow", "by", "[I", true)
  | _ => ("FerretCables$Flow", "queue", "[I", true)
def tyX1 : Nat → FieldType := fun k => match k with
  | 0 => .object "FerretCables$Ways"
  | 1 => .object "FerretCables$Pipes"
  | 2 => .array .int
  | 3 => .array .int
  | _ => .array .int
theorem nmX1 : ∀ a, a < 5 → ∀ b, b < 5 → a ≠ b → (TX1 a).2.1 ≠ (TX1 b).2.1 := by decide +kernel
theorem tyX1_ok : ∀ k, k < 5 → parseFieldDescriptor (TX1 k).2.2.1 = some (tyX1 k) := by decide +kernel
abbrev cX1_init : ByteArray := prog_3_method_1_code
def yX1_init : MethodName := ⟨RX1, "<init>", "(LFerretCables$Ways;)V"⟩
abbrev cX1_greatest : ByteArray := prog_3_method_2_code
def yX1_greatest : MethodName := ⟨RX1, "greatest", "(II)I"⟩
abbrev cX1_seekRoom : ByteArray := prog_3_method_3_code
def yX1_seekRoom : MethodName := ⟨RX1, "seekRoom", "(II)Z"⟩
abbrev cX1_hasRoom : ByteArray := prog_3_method_4_code
def yX1_hasRoom : MethodName := ⟨RX1, "hasRoom", "(II)Z"⟩
abbrev cX1_push : ByteArray := prog_3_method_5_code
def yX1_push : MethodName := ⟨RX1, "push", "(II)V"⟩
def RX2 : String := "FerretCables$Jottings"
def TX2 : u_T := fun k => match k with
  | 0 => ("FerretCables$Jottings", "markWire", "[I", true)
  | 1 => ("FerretCables$Jottings", "markEnds", "[I", true)
  | 2 => ("FerretCables$Jottings", "sceneEnds", "[I", true)
  | 3 => ("FerretCables$Jottings", "markCount", "I", false)
  | _ => ("FerretCables$Jottings", "sceneCount", "I", false)
def tyX2 : Nat → FieldType := fun k => match k with
  | 0 => .array .int
  | 1 => .array .int
  | 2 => .array .int
  | 3 => .int
  | _ => .int
theorem nmX2 : ∀ a, a < 5 → ∀ b, b < 5 → a ≠ b → (TX2 a).2.1 ≠ (TX2 b).2.1 := by decide +kernel
theorem tyX2_ok : ∀ k, k < 5 → parseFieldDescriptor (TX2 k).2.2.1 = some (tyX2 k) := by decide +kernel
abbrev cX2_init : ByteArray := prog_4_method_1_code
def yX2_init : MethodName := ⟨RX2, "<init>", "()V"⟩
abbrev cX2_addMark : ByteArray := prog_4_method_2_code
def yX2_addMark : MethodName := ⟨RX2, "addMark", "(II)I"⟩
abbrev cX2_addScene : ByteArray := prog_4_method_3_code
def yX2_addScene : MethodName := ⟨RX2, "addScene", "(I)I"⟩
abbrev cX2_dropMarks : ByteArray := prog_4_method_4_code
def yX2_dropMarks : MethodName := ⟨RX2, "dropMarks", "()I"⟩
abbrev cX2_dropScenes : ByteArray := prog_4_method_5_code
def yX2_dropScenes : MethodName := ⟨RX2, "dropScenes", "()I"⟩
def RX3 : String := "FerretCables$Lamps"
def TX3 : u_T := fun k => match k with
  | 0 => ("FerretCables$Lamps", "book", "LFerretCables$Book;", true)
  | 1 => ("FerretCables$Lamps", "ways", "LFerretCables$Ways;", true)
  | 2 => ("FerretCables$Lamps", "joined", "[I", true)
  | 3 => ("FerretCables$Lamps", "needed", "I", false)
  | 4 => ("FerretCables$Lamps", "firstLetIn", "I", false)
  | _ => ("FerretCables$Lamps", "secondLetIn", "I", false)
def tyX3 : Nat → FieldType := fun k => match k with
  | 0 => .object "FerretCables$Book"
  | 1 => .object "FerretCables$Ways"
  | 2 => .array .int
  | 3 => .int
  | 4 => .int
  | _ => .int
theorem nmX3 : ∀ a, a < 6 → ∀ b, b < 6 → a ≠ b → (TX3 a).2.1 ≠ (TX3 b).2.1 := by decide +kernel
theorem tyX3_ok : ∀ k, k < 6 → parseFieldDescriptor (TX3 k).2.2.1 = some (tyX3 k) := by decide +kernel
abbrev cX3_init : ByteArray := prog_5_method_1_code
def yX3_init : MethodName := ⟨RX3, "<init>", "(LFerretCables$Book;LFerretCables$Ways;)V"⟩
abbrev cX3_seek : ByteArray := prog_5_method_2_code
def yX3_seek : MethodName := ⟨RX3, "seek", "(I)V"⟩
abbrev cX3_seekTwo : ByteArray := prog_5_method_3_code
def yX3_seekTwo : MethodName := ⟨RX3, "seekTwo", "(I)V"⟩
abbrev cX3_lastLetIn : ByteArray := prog_5_method_4_code
def yX3_lastLetIn : MethodName := ⟨RX3, "lastLetIn", "(II)I"⟩
abbrev cX3_burningWith : ByteArray := prog_5_method_5_code
def yX3_burningWith : MethodName := ⟨RX3, "burningWith", "(II)I"⟩
abbrev cX3_spread : ByteArray := prog_5_method_6_code
def yX3_spread : MethodName := ⟨RX3, "spread", "(II)I"⟩
abbrev cX3_holdsAll : ByteArray := prog_5_method_7_code
def yX3_holdsAll : MethodName := ⟨RX3, "holdsAll", "(II)Z"⟩
def RX4 : String := "FerretCables$Pipes"
def TX4 : u_T := fun k => match k with
  | 0 => ("FerretCables$Pipes", "text", "[I", true)
  | 1 => ("FerretCables$Pipes", "first", "[I", true)
  | 2 => ("FerretCables$Pipes", "second", "[I", true)
  | 3 => ("FerretCables$Pipes", "length", "[I", true)
  | 4 => ("FerretCables$Pipes", "damp", "[I", true)
  | 5 => ("FerretCables$Pipes", "size", "I", false)
  | 6 => ("FerretCables$Pipes", "wrongAt", "I", false)
  | 7 => ("FerretCables$Pipes", "faultAt", "I", false)
  | 8 => ("FerretCables$Pipes", "many", "I", false)
  | 9 => ("FerretCables$Pipes", "shut", "I", false)
  | _ => ("FerretCables$Pipes", "takes", "I", false)
def tyX4 : Nat → FieldType := fun k => match k with
  | 0 => .array .int
  | 1 => .array .int
  | 2 => .array .int
  | 3 => .array .int
  | 4 => .array .int
  | 5 => .int
  | 6 => .int
  | 7 => .int
  | 8 => .int
  | 9 => .int
  | _ => .int
theorem nmX4 : ∀ a, a < 11 → ∀ b, b < 11 → a ≠ b → (TX4 a).2.1 ≠ (TX4 b).2.1 := by decide +kernel
theorem tyX4_ok : ∀ k, k < 11 → parseFieldDescriptor (TX4 k).2.2.1 = some (tyX4 k) := by decide +kernel
abbrev cX4_init : ByteArray := prog_6_method_1_code
def yX4_init : MethodName := ⟨RX4, "<init>", "()V"⟩
abbrev cX4_append : ByteArray := prog_6_method_2_code
def yX4_append : MethodName := ⟨RX4, "append", "(I)V"⟩
abbrev cX4_clear : ByteArray := prog_6_method_3_code
def yX4_clear : MethodName := ⟨RX4, "clear", "()V"⟩
abbrev cX4_dropPipe : ByteArray := prog_6_method_4_code
def yX4_dropPipe : MethodName := ⟨RX4, "dropPipe", "()V"⟩
abbrev cX4_fits : ByteArray := prog_6_method_5_code
def yX4_fits : MethodName := ⟨RX4, "fits", "(I)Z"⟩
abbrev cX4_takeUp : ByteArray := prog_6_method_6_code
def yX4_takeUp : MethodName := ⟨RX4, "takeUp", "(I)V"⟩
abbrev cX4_settle : ByteArray := prog_6_method_7_code
def yX4_settle : MethodName := ⟨RX4, "settle", "()V"⟩
abbrev cX4_hasPipe : ByteArray := prog_6_method_8_code
def yX4_hasPipe : MethodName := ⟨RX4, "hasPipe", "(I)Z"⟩
abbrev cX4_isShut : ByteArray := prog_6_method_9_code
def yX4_isShut : MethodName := ⟨RX4, "isShut", "(I)Z"⟩
abbrev cX4_touches : ByteArray := prog_6_method_10_code
def yX4_touches : MethodName := ⟨RX4, "touches", "(II)Z"⟩
abbrev cX4_opposite : ByteArray := prog_6_method_11_code
def yX4_opposite : MethodName := ⟨RX4, "opposite", "(II)I"⟩
abbrev cX4_wholeLength : ByteArray := prog_6_method_12_code
def yX4_wholeLength : MethodName := ⟨RX4, "wholeLength", "()I"⟩
abbrev cX4_dampIn : ByteArray := prog_6_method_13_code
def yX4_dampIn : MethodName := ⟨RX4, "dampIn", "(I)I"⟩
def RX5 : String := "FerretCables$Roaming"
def TX5 : u_T := fun k => match k with
  | 0 => ("FerretCables$Roaming", "pipes", "LFerretCables$Pipes;", true)
  | 1 => ("FerretCables$Roaming", "waysTo", "[I", true)
  | 2 => ("FerretCables$Roaming", "toFirst", "[I", true)
  | _ => ("FerretCables$Roaming", "toSecond", "[I", true)
def tyX5 : Nat → FieldType := fun k => match k with
  | 0 => .object "FerretCables$Pipes"
  | 1 => .array .int
  | 2 => .array .int
  | _ => .array .int
theorem nmX5 : ∀ a, a < 4 → ∀ b, b < 4 → a ≠ b → (TX5 a).2.1 ≠ (TX5 b).2.1 := by decide +kernel
theorem tyX5_ok : ∀ k, k < 4 → parseFieldDescriptor (TX5 k).2.2.1 = some (tyX5 k) := by decide +kernel
abbrev cX5_init : ByteArray := prog_7_method_1_code
def yX5_init : MethodName := ⟨RX5, "<init>", "(LFerretCables$Pipes;)V"⟩
abbrev cX5_follow : ByteArray := prog_7_method_2_code
def yX5_follow : MethodName := ⟨RX5, "follow", "(II)V"⟩
abbrev cX5_ring : ByteArray := prog_7_method_3_code
def yX5_ring : MethodName := ⟨RX5, "ring", "()V"⟩
abbrev cX5_possibleEnds : ByteArray := prog_7_method_4_code
def yX5_possibleEnds : MethodName := ⟨RX5, "possibleEnds", "()I"⟩
abbrev cX5_stroll : ByteArray := prog_7_method_5_code
def yX5_stroll : MethodName := ⟨RX5, "stroll", "(III)I"⟩
abbrev cX5_choicesAt : ByteArray := prog_7_method_6_code
def yX5_choicesAt : MethodName := ⟨RX5, "choicesAt", "(I)I"⟩
abbrev cX5_behindChoice : ByteArray := prog_7_method_7_code
def yX5_behindChoice : MethodName := ⟨RX5, "behindChoice", "(II)I"⟩
abbrev cX5_isChoice : ByteArray := prog_7_method_8_code
def yX5_isChoice : MethodName := ⟨RX5, "isChoice", "(II)Z"⟩
def RX6 : String := "FerretCables$Sheets"
def TX6 : u_T := fun k => match k with
  | 0 => ("FerretCables$Sheets", "items", "[I", true)
  | 1 => ("FerretCables$Sheets", "forms", "[I", true)
  | 2 => ("FerretCables$Sheets", "sizes", "[I", true)
  | _ => ("FerretCables$Sheets", "latest", "I", false)
def tyX6 : Nat → FieldType := fun k => match k with
  | 0 => .array .int
  | 1 => .array .int
  | 2 => .array .int
  | _ => .int
theorem nmX6 : ∀ a, a < 4 → ∀ b, b < 4 → a ≠ b → (TX6 a).2.1 ≠ (TX6 b).2.1 := by decide +kernel
theorem tyX6_ok : ∀ k, k < 4 → parseFieldDescriptor (TX6 k).2.2.1 = some (tyX6 k) := by decide +kernel
abbrev cX6_init : ByteArray := prog_8_method_1_code
def yX6_init : MethodName := ⟨RX6, "<init>", "()V"⟩
abbrev cX6_found : ByteArray := prog_8_method_2_code
def yX6_found : MethodName := ⟨RX6, "found", "(I)I"⟩
abbrev cX6_hasSheet : ByteArray := prog_8_method_3_code
def yX6_hasSheet : MethodName := ⟨RX6, "hasSheet", "(I)Z"⟩
abbrev cX6_isForm : ByteArray := prog_8_method_4_code
def yX6_isForm : MethodName := ⟨RX6, "isForm", "(I)Z"⟩
abbrev cX6_isLost : ByteArray := prog_8_method_5_code
def yX6_isLost : MethodName := ⟨RX6, "isLost", "(I)Z"⟩
abbrev cX6_renew : ByteArray := prog_8_method_6_code
def yX6_renew : MethodName := ⟨RX6, "renew", "(III)V"⟩
abbrev cX6_drop : ByteArray := prog_8_method_7_code
def yX6_drop : MethodName := ⟨RX6, "drop", "(I)V"⟩
abbrev cX6_findingAt : ByteArray := prog_8_method_8_code
def yX6_findingAt : MethodName := ⟨RX6, "findingAt", "(III)I"⟩
abbrev cX6_item : ByteArray := prog_8_method_9_code
def yX6_item : MethodName := ⟨RX6, "item", "(II)I"⟩
abbrev cX6_store : ByteArray := prog_8_method_10_code
def yX6_store : MethodName := ⟨RX6, "store", "(III)V"⟩
abbrev cX6_narrowed : ByteArray := prog_8_method_11_code
def yX6_narrowed : MethodName := ⟨RX6, "narrowed", "(II)I"⟩
abbrev cX6_hasSpan : ByteArray := prog_8_method_12_code
def yX6_hasSpan : MethodName := ⟨RX6, "hasSpan", "(III)Z"⟩
abbrev cX6_move : ByteArray := prog_8_method_13_code
def yX6_move : MethodName := ⟨RX6, "move", "(IIIII)V"⟩
def RX7 : String := "FerretCables$Ways"
def TX7 : u_T := fun k => match k with
  | 0 => ("FerretCables$Ways", "pipes", "LFerretCables$Pipes;", true)
  | 1 => ("FerretCables$Ways", "load", "[I", true)
  | 2 => ("FerretCables$Ways", "far", "[I", true)
  | 3 => ("FerretCables$Ways", "row", "[I", true)
  | _ => ("FerretCables$Ways", "rowSize", "I", false)
def tyX7 : Nat → FieldType := fun k => match k with
  | 0 => .object "FerretCables$Pipes"
  | 1 => .array .int
  | 2 => .array .int
  | 3 => .array .int
  | _ => .int
theorem nmX7 : ∀ a, a < 5 → ∀ b, b < 5 → a ≠ b → (TX7 a).2.1 ≠ (TX7 b).2.1 := by decide +kernel
theorem tyX7_ok : ∀ k, k < 5 → parseFieldDescriptor (TX7 k).2.2.1 = some (tyX7 k) := by decide +kernel
abbrev cX7_init : ByteArray := prog_9_method_1_code
def yX7_init : MethodName := ⟨RX7, "<init>", "(LFerretCables$Pipes;)V"⟩
abbrev cX7_isOpen : ByteArray := prog_9_method_2_code
def yX7_isOpen : MethodName := ⟨RX7, "isOpen", "(I)Z"⟩
abbrev cX7_find : ByteArray := prog_9_method_3_code
def yX7_find : MethodName := ⟨RX7, "find", "(II)Z"⟩
abbrev cX7_measure : ByteArray := prog_9_method_4_code
def yX7_measure : MethodName := ⟨RX7, "measure", "(I)V"⟩
abbrev cX7_shorten : ByteArray := prog_9_method_5_code
def yX7_shorten : MethodName := ⟨RX7, "shorten", "(I)Z"⟩
abbrev cX7_leastOnward : ByteArray := prog_9_method_6_code
def yX7_leastOnward : MethodName := ⟨RX7, "leastOnward", "(I)I"⟩
abbrev cX7_rowLength : ByteArray := prog_9_method_7_code
def yX7_rowLength : MethodName := ⟨RX7, "rowLength", "()I"⟩
abbrev cX7_rowBits : ByteArray := prog_9_method_8_code
def yX7_rowBits : MethodName := ⟨RX7, "rowBits", "()I"⟩
abbrev cX7_drawAlongRow : ByteArray := prog_9_method_9_code
def yX7_drawAlongRow : MethodName := ⟨RX7, "drawAlongRow", "(I)V"⟩
abbrev cX7_drawAll : ByteArray := prog_9_method_10_code
def yX7_drawAll : MethodName := ⟨RX7, "drawAll", "(II)I"⟩
abbrev cX7_roomInRow : ByteArray := prog_9_method_11_code
def yX7_roomInRow : MethodName := ⟨RX7, "roomInRow", "()I"⟩
abbrev cX7_reachedFrom : ByteArray := prog_9_method_12_code
def yX7_reachedFrom : MethodName := ⟨RX7, "reachedFrom", "(I)I"⟩
def RX8 : String := "FerretCables"
def TX8 : u_T := fun k => match k with
  | 0 => ("FerretCables", "pipes", "LFerretCables$Pipes;", true)
  | 1 => ("FerretCables", "ways", "LFerretCables$Ways;", true)
  | 2 => ("FerretCables", "book", "LFerretCables$Book;", true)
  | 3 => ("FerretCables", "flow", "LFerretCables$Flow;", true)
  | 4 => ("FerretCables", "lamps", "LFerretCables$Lamps;", true)
  | 5 => ("FerretCables", "roaming", "LFerretCables$Roaming;", true)
  | 6 => ("FerretCables", "jottings", "LFerretCables$Jottings;", true)
  | 7 => ("FerretCables", "sheets", "LFerretCables$Sheets;", true)
  | _ => ("FerretCables", "hard", "I", false)
def tyX8 : Nat → FieldType := fun k => match k with
  | 0 => .object "FerretCables$Pipes"
  | 1 => .object "FerretCables$Ways"
  | 2 => .object "FerretCables$Book"
  | 3 => .object "FerretCables$Flow"
  | 4 => .object "FerretCables$Lamps"
  | 5 => .object "FerretCables$Roaming"
  | 6 => .object "FerretCables$Jottings"
  | 7 => .object "FerretCables$Sheets"
  | _ => .int
theorem nmX8 : ∀ a, a < 9 → ∀ b, b < 9 → a ≠ b → (TX8 a).2.1 ≠ (TX8 b).2.1 := by decide +kernel
theorem tyX8_ok : ∀ k, k < 9 → parseFieldDescriptor (TX8 k).2.2.1 = some (tyX8 k) := by decide +kernel
abbrev cX8_init : ByteArray := prog_1_method_1_code
def yX8_init : MethodName := ⟨RX8, "<init>", "()V"⟩
abbrev cX8_type : ByteArray := prog_1_method_2_code
def yX8_type : MethodName := ⟨RX8, "type", "(I)I"⟩
abbrev cX8_wipe : ByteArray := prog_1_method_3_code
def yX8_wipe : MethodName := ⟨RX8, "wipe", "()I"⟩
abbrev cX8_undo : ByteArray := prog_1_method_4_code
def yX8_undo : MethodName := ⟨RX8, "undo", "()I"⟩
abbrev cX8_fault : ByteArray := prog_1_method_5_code
def yX8_fault : MethodName := ⟨RX8, "fault", "()I"⟩
abbrev cX8_pipe : ByteArray := prog_1_method_6_code
def yX8_pipe : MethodName := ⟨RX8, "pipe", "(II)I"⟩
abbrev cX8_set : ByteArray := prog_1_method_7_code
def yX8_set : MethodName := ⟨RX8, "set", "(II)I"⟩
abbrev cX8_setShut : ByteArray := prog_1_method_8_code
def yX8_setShut : MethodName := ⟨RX8, "setShut", "(I)I"⟩
abbrev cX8_setTakes : ByteArray := prog_1_method_9_code
def yX8_setTakes : MethodName := ⟨RX8, "setTakes", "(I)I"⟩
abbrev cX8_setHard : ByteArray := prog_1_method_10_code
def yX8_setHard : MethodName := ⟨RX8, "setHard", "(I)I"⟩
abbrev cX8_letIn : ByteArray := prog_1_method_11_code
def yX8_letIn : MethodName := ⟨RX8, "letIn", "(II)I"⟩
abbrev cX8_pull : ByteArray := prog_1_method_12_code
def yX8_pull : MethodName := ⟨RX8, "pull", "(I)I"⟩
abbrev cX8_back : ByteArray := prog_1_method_13_code
def yX8_back : MethodName := ⟨RX8, "back", "()I"⟩
abbrev cX8_read : ByteArray := prog_1_method_14_code
def yX8_read : MethodName := ⟨RX8, "read", "(I)I"⟩
abbrev cX8_judged : ByteArray := prog_1_method_15_code
def yX8_judged : MethodName := ⟨RX8, "judged", "()I"⟩
abbrev cX8_state : ByteArray := prog_1_method_16_code
def yX8_state : MethodName := ⟨RX8, "state", "(II)I"⟩
abbrev cX8_wire : ByteArray := prog_1_method_17_code
def yX8_wire : MethodName := ⟨RX8, "wire", "(II)I"⟩
abbrev cX8_out : ByteArray := prog_1_method_18_code
def yX8_out : MethodName := ⟨RX8, "out", "(I)I"⟩
abbrev cX8_shortest : ByteArray := prog_1_method_19_code
def yX8_shortest : MethodName := ⟨RX8, "shortest", "(III)I"⟩
abbrev cX8_most : ByteArray := prog_1_method_20_code
def yX8_most : MethodName := ⟨RX8, "most", "(III)I"⟩
abbrev cX8_fails : ByteArray := prog_1_method_21_code
def yX8_fails : MethodName := ⟨RX8, "fails", "(I)I"⟩
abbrev cX8_soonest : ByteArray := prog_1_method_22_code
def yX8_soonest : MethodName := ⟨RX8, "soonest", "()I"⟩
abbrev cX8_left : ByteArray := prog_1_method_23_code
def yX8_left : MethodName := ⟨RX8, "left", "(I)I"⟩
abbrev cX8_burns : ByteArray := prog_1_method_24_code
def yX8_burns : MethodName := ⟨RX8, "burns", "(I)I"⟩
abbrev cX8_lit : ByteArray := prog_1_method_25_code
def yX8_lit : MethodName := ⟨RX8, "lit", "(II)I"⟩
abbrev cX8_heard : ByteArray := prog_1_method_26_code
def yX8_heard : MethodName := ⟨RX8, "heard", "(III)I"⟩
abbrev cX8_meet : ByteArray := prog_1_method_27_code
def yX8_meet : MethodName := ⟨RX8, "meet", "(IIII)I"⟩
abbrev cX8_drowsy : ByteArray := prog_1_method_28_code
def yX8_drowsy : MethodName := ⟨RX8, "drowsy", "(III)I"⟩
abbrev cX8_chalk : ByteArray := prog_1_method_29_code
def yX8_chalk : MethodName := ⟨RX8, "chalk", "(III)I"⟩
abbrev cX8_lies : ByteArray := prog_1_method_30_code
def yX8_lies : MethodName := ⟨RX8, "lies", "()I"⟩
abbrev cX8_scene : ByteArray := prog_1_method_31_code
def yX8_scene : MethodName := ⟨RX8, "scene", "(I)I"⟩
abbrev cX8_scenes : ByteArray := prog_1_method_32_code
def yX8_scenes : MethodName := ⟨RX8, "scenes", "(I)I"⟩
abbrev cX8_cue : ByteArray := prog_1_method_33_code
def yX8_cue : MethodName := ⟨RX8, "cue", "(I)I"⟩
abbrev cX8_forget : ByteArray := prog_1_method_34_code
def yX8_forget : MethodName := ⟨RX8, "forget", "(I)I"⟩
abbrev cX8_sheet : ByteArray := prog_1_method_35_code
def yX8_sheet : MethodName := ⟨RX8, "sheet", "(III)I"⟩
abbrev cX8_lose : ByteArray := prog_1_method_36_code
def yX8_lose : MethodName := ⟨RX8, "lose", "(I)I"⟩
abbrev cX8_lay : ByteArray := prog_1_method_37_code
def yX8_lay : MethodName := ⟨RX8, "lay", "(IIII)I"⟩
abbrev cX8_get : ByteArray := prog_1_method_38_code
def yX8_get : MethodName := ⟨RX8, "get", "(III)I"⟩
abbrev cX8_copy : ByteArray := prog_1_method_39_code
def yX8_copy : MethodName := ⟨RX8, "copy", "(IIIII)I"⟩
abbrev cX8_write : ByteArray := prog_1_method_40_code
def yX8_write : MethodName := ⟨RX8, "write", "(III)I"⟩
abbrev cX8_count : ByteArray := prog_1_method_41_code
def yX8_count : MethodName := ⟨RX8, "count", "(I)I"⟩
abbrev cX8_digest : ByteArray := prog_1_method_42_code
def yX8_digest : MethodName := ⟨RX8, "digest", "()J"⟩
abbrev cX8_mixPipes : ByteArray := prog_1_method_43_code
def yX8_mixPipes : MethodName := ⟨RX8, "mixPipes", "(J)J"⟩
abbrev cX8_mixWires : ByteArray := prog_1_method_44_code
def yX8_mixWires : MethodName := ⟨RX8, "mixWires", "(J)J"⟩
abbrev cX8_mixEnds : ByteArray := prog_1_method_45_code
def yX8_mixEnds : MethodName := ⟨RX8, "mixEnds", "(J)J"⟩
abbrev cX8_mix : ByteArray := prog_1_method_46_code
def yX8_mix : MethodName := ⟨RX8, "mix", "(JI)J"⟩
abbrev cX8_within : ByteArray := prog_1_method_47_code
def yX8_within : MethodName := ⟨RX8, "within", "(III)Z"⟩
abbrev cX8_isEnd : ByteArray := prog_1_method_48_code
def yX8_isEnd : MethodName := ⟨RX8, "isEnd", "(I)Z"⟩
abbrev cX8_areTwoEnds : ByteArray := prog_1_method_49_code
def yX8_areTwoEnds : MethodName := ⟨RX8, "areTwoEnds", "(II)Z"⟩
abbrev cX8_isWire : ByteArray := prog_1_method_50_code
def yX8_isWire : MethodName := ⟨RX8, "isWire", "(I)Z"⟩
abbrev cX8_isBehind : ByteArray := prog_1_method_51_code
def yX8_isBehind : MethodName := ⟨RX8, "isBehind", "(I)Z"⟩
abbrev cX8_bit : ByteArray := prog_1_method_52_code
def yX8_bit : MethodName := ⟨RX8, "bit", "(I)I"⟩
abbrev cX8_hasBit : ByteArray := prog_1_method_53_code
def yX8_hasBit : MethodName := ⟨RX8, "hasBit", "(II)Z"⟩
abbrev cX8_findWay : ByteArray := prog_1_method_54_code
def yX8_findWay : MethodName := ⟨RX8, "findWay", "(II)Z"⟩
abbrev cX8_burningBehind : ByteArray := prog_1_method_55_code
def yX8_burningBehind : MethodName := ⟨RX8, "burningBehind", "(I)I"⟩
abbrev cX8_failingDay : ByteArray := prog_1_method_56_code
def yX8_failingDay : MethodName := ⟨RX8, "failingDay", "(II)I"⟩
def RX9 : String := "FerretCablesModel"
def TX9 : u_T := fun k => match k with
  | 0 => ("FerretCablesModel", "forms", "[I", true)
  | 1 => ("FerretCablesModel", "sizes", "[I", true)
  | 2 => ("FerretCablesModel", "items", "[I", true)
  | 3 => ("FerretCablesModel", "moved", "[I", true)
  | 4 => ("FerretCablesModel", "latest", "I", false)
  | 5 => ("FerretCablesModel", "text", "[I", true)
  | 6 => ("FerretCablesModel", "typed", "I", false)
  | 7 => ("FerretCablesModel", "at", "I", false)
  | 8 => ("FerretCablesModel", "pipes", "I", false)
  | 9 => ("FerretCablesModel", "pipe", "[I", true)
  | 10 => ("FerretCablesModel", "settings", "[I", true)
  | 11 => ("FerretCablesModel", "steps", "I", false)
  | 12 => ("FerretCablesModel", "step", "[I", true)
  | 13 => ("FerretCablesModel", "wire", "[I", true)
  | 14 => ("FerretCablesModel", "has", "[I", true)
  | 15 => ("FerretCablesModel", "lying", "I", false)
  | 16 => ("FerretCablesModel", "doneMany", "I", false)
  | 17 => ("FerretCablesModel", "firstNot", "I", false)
  | 18 => ("FerretCablesModel", "far", "[I", true)
  | 19 => ("FerretCablesModel", "way", "[I", true)
  | 20 => ("FerretCablesModel", "kept", "[I", true)
  | 21 => ("FerretCablesModel", "flow", "[I", true)
  | 22 => ("FerretCablesModel", "cameBy", "[I", true)
  | 23 => ("FerretCablesModel", "lets", "[I", true)
  | 24 => ("FerretCablesModel", "ways", "[I", true)
  | 25 => ("FerretCablesModel", "then", "[I", true)
  | 26 => ("FerretCablesModel", "marks", "I", false)
  | 27 => ("FerretCablesModel", "mark", "[I", true)
  | 28 => ("FerretCablesModel", "sceneMany", "I", false)
  | _ => ("FerretCablesModel", "scene", "[I", true)
def tyX9 : Nat → FieldType := fun k => match k with
  | 0 => .array .int
  | 1 => .array .int
  | 2 => .array .int
  | 3 => .array .int
  | 4 => .int
  | 5 => .array .int
  | 6 => .int
  | 7 => .int
  | 8 => .int
  | 9 => .array .int
  | 10 => .array .int
  | 11 => .int
  | 12 => .array .int
  | 13 => .array .int
  | 14 => .array .int
  | 15 => .int
  | 16 => .int
  | 17 => .int
  | 18 => .array .int
  | 19 => .array .int
  | 20 => .array .int
  | 21 => .array .int
  | 22 => .array .int
  | 23 => .array .int
  | 24 => .array .int
  | 25 => .array .int
  | 26 => .int
  | 27 => .array .int
  | 28 => .int
  | _ => .array .int
theorem nmX9 : ∀ a, a < 30 → ∀ b, b < 30 → a ≠ b → (TX9 a).2.1 ≠ (TX9 b).2.1 := by decide +kernel
theorem tyX9_ok : ∀ k, k < 30 → parseFieldDescriptor (TX9 k).2.2.1 = some (tyX9 k) := by decide +kernel
abbrev cX9_init : ByteArray := prog_11_method_1_code
def yX9_init : MethodName := ⟨RX9, "<init>", "()V"⟩
abbrev cX9_in : ByteArray := prog_11_method_3_code
def yX9_in : MethodName := ⟨RX9, "in", "(JJJ)Z"⟩
abbrev cX9_isTwo : ByteArray := prog_11_method_4_code
def yX9_isTwo : MethodName := ⟨RX9, "isTwo", "(I)Z"⟩
abbrev cX9_isIn : ByteArray := prog_11_method_5_code
def yX9_isIn : MethodName := ⟨RX9, "isIn", "(II)Z"⟩
abbrev cX9_ones : ByteArray := prog_11_method_6_code
def yX9_ones : MethodName := ⟨RX9, "ones", "(I)I"⟩
abbrev cX9_finds : ByteArray := prog_11_method_7_code
def yX9_finds : MethodName := ⟨RX9, "finds", "(I)I"⟩
abbrev cX9_isSheet : ByteArray := prog_11_method_8_code
def yX9_isSheet : MethodName := ⟨RX9, "isSheet", "(I)Z"⟩
abbrev cX9_sheet : ByteArray := prog_11_method_9_code
def yX9_sheet : MethodName := ⟨RX9, "sheet", "(III)I"⟩
abbrev cX9_lose : ByteArray := prog_11_method_10_code
def yX9_lose : MethodName := ⟨RX9, "lose", "(I)I"⟩
abbrev cX9_lacks : ByteArray := prog_11_method_11_code
def yX9_lacks : MethodName := ⟨RX9, "lacks", "(III)I"⟩
abbrev cX9_cut : ByteArray := prog_11_method_12_code
def yX9_cut : MethodName := ⟨RX9, "cut", "(II)I"⟩
abbrev cX9_lay : ByteArray := prog_11_method_13_code
def yX9_lay : MethodName := ⟨RX9, "lay", "(IIII)I"⟩
abbrev cX9_get : ByteArray := prog_11_method_14_code
def yX9_get : MethodName := ⟨RX9, "get", "(III)I"⟩
abbrev cX9_copy : ByteArray := prog_11_method_15_code
def yX9_copy : MethodName := ⟨RX9, "copy", "(IIIII)I"⟩
abbrev cX9_type : ByteArray := prog_11_method_16_code
def yX9_type : MethodName := ⟨RX9, "type", "(I)I"⟩
abbrev cX9_wipe : ByteArray := prog_11_method_17_code
def yX9_wipe : MethodName := ⟨RX9, "wipe", "()I"⟩
abbrev cX9_readsPipe : ByteArray := prog_11_method_18_code
def yX9_readsPipe : MethodName := ⟨RX9, "readsPipe", "()Z"⟩
abbrev cX9_reads : ByteArray := prog_11_method_19_code
def yX9_reads : MethodName := ⟨RX9, "reads", "()I"⟩
abbrev cX9_fault : ByteArray := prog_11_method_20_code
def yX9_fault : MethodName := ⟨RX9, "fault", "()I"⟩
abbrev cX9_undo : ByteArray := prog_11_method_21_code
def yX9_undo : MethodName := ⟨RX9, "undo", "()I"⟩
abbrev cX9_set : ByteArray := prog_11_method_22_code
def yX9_set : MethodName := ⟨RX9, "set", "(II)I"⟩
abbrev cX9_isEnd : ByteArray := prog_11_method_23_code
def yX9_isEnd : MethodName := ⟨RX9, "isEnd", "(I)Z"⟩
abbrev cX9_isWire : ByteArray := prog_11_method_24_code
def yX9_isWire : MethodName := ⟨RX9, "isWire", "(I)Z"⟩
abbrev cX9_areEnds : ByteArray := prog_11_method_25_code
def yX9_areEnds : MethodName := ⟨RX9, "areEnds", "(II)Z"⟩
abbrev cX9_more : ByteArray := prog_11_method_26_code
def yX9_more : MethodName := ⟨RX9, "more", "(II)I"⟩
abbrev cX9_letIn : ByteArray := prog_11_method_27_code
def yX9_letIn : MethodName := ⟨RX9, "letIn", "(II)I"⟩
abbrev cX9_pull : ByteArray := prog_11_method_28_code
def yX9_pull : MethodName := ⟨RX9, "pull", "(I)I"⟩
abbrev cX9_back : ByteArray := prog_11_method_29_code
def yX9_back : MethodName := ⟨RX9, "back", "()I"⟩
abbrev cX9_read : ByteArray := prog_11_method_30_code
def yX9_read : MethodName := ⟨RX9, "read", "(I)I"⟩
abbrev cX9_other : ByteArray := prog_11_method_31_code
def yX9_other : MethodName := ⟨RX9, "other", "(II)I"⟩
abbrev cX9_isOpen : ByteArray := prog_11_method_32_code
def yX9_isOpen : MethodName := ⟨RX9, "isOpen", "(I)Z"⟩
abbrev cX9_findFar : ByteArray := prog_11_method_33_code
def yX9_findFar : MethodName := ⟨RX9, "findFar", "(I)V"⟩
abbrev cX9_findWay : ByteArray := prog_11_method_34_code
def yX9_findWay : MethodName := ⟨RX9, "findWay", "(II)I"⟩
abbrev cX9_draws : ByteArray := prog_11_method_35_code
def yX9_draws : MethodName := ⟨RX9, "draws", "(II)I"⟩
abbrev cX9_canPull : ByteArray := prog_11_method_36_code
def yX9_canPull : MethodName := ⟨RX9, "canPull", "(I)Z"⟩
abbrev cX9_pulls : ByteArray := prog_11_method_37_code
def yX9_pulls : MethodName := ⟨RX9, "pulls", "(I)V"⟩
abbrev cX9_goes : ByteArray := prog_11_method_38_code
def yX9_goes : MethodName := ⟨RX9, "goes", "(I)V"⟩
abbrev cX9_goesAll : ByteArray := prog_11_method_39_code
def yX9_goesAll : MethodName := ⟨RX9, "goesAll", "()V"⟩
abbrev cX9_pipe : ByteArray := prog_11_method_40_code
def yX9_pipe : MethodName := ⟨RX9, "pipe", "(II)I"⟩
abbrev cX9_judged : ByteArray := prog_11_method_41_code
def yX9_judged : MethodName := ⟨RX9, "judged", "()I"⟩
abbrev cX9_fullNow : ByteArray := prog_11_method_42_code
def yX9_fullNow : MethodName := ⟨RX9, "fullNow", "()I"⟩
abbrev cX9_stateOf : ByteArray := prog_11_method_43_code
def yX9_stateOf : MethodName := ⟨RX9, "stateOf", "(II)I"⟩
abbrev cX9_state : ByteArray := prog_11_method_44_code
def yX9_state : MethodName := ⟨RX9, "state", "(II)I"⟩
abbrev cX9_pipesOf : ByteArray := prog_11_method_45_code
def yX9_pipesOf : MethodName := ⟨RX9, "pipesOf", "(I)I"⟩
abbrev cX9_wire : ByteArray := prog_11_method_46_code
def yX9_wire : MethodName := ⟨RX9, "wire", "(II)I"⟩
abbrev cX9_outOf : ByteArray := prog_11_method_47_code
def yX9_outOf : MethodName := ⟨RX9, "outOf", "(I)I"⟩
abbrev cX9_out : ByteArray := prog_11_method_48_code
def yX9_out : MethodName := ⟨RX9, "out", "(I)I"⟩
abbrev cX9_shortestOf : ByteArray := prog_11_method_49_code
def yX9_shortestOf : MethodName := ⟨RX9, "shortestOf", "(III)I"⟩
abbrev cX9_shortest : ByteArray := prog_11_method_50_code
def yX9_shortest : MethodName := ⟨RX9, "shortest", "(III)I"⟩
abbrev cX9_keeps : ByteArray := prog_11_method_51_code
def yX9_keeps : MethodName := ⟨RX9, "keeps", "()V"⟩
abbrev cX9_putsBack : ByteArray := prog_11_method_52_code
def yX9_putsBack : MethodName := ⟨RX9, "putsBack", "()V"⟩
abbrev cX9_drawnOf : ByteArray := prog_11_method_53_code
def yX9_drawnOf : MethodName := ⟨RX9, "drawnOf", "(II)I"⟩
abbrev cX9_flows : ByteArray := prog_11_method_54_code
def yX9_flows : MethodName := ⟨RX9, "flows", "(II)Z"⟩
abbrev cX9_mostOf : ByteArray := prog_11_method_55_code
def yX9_mostOf : MethodName := ⟨RX9, "mostOf", "(II)I"⟩
abbrev cX9_most : ByteArray := prog_11_method_56_code
def yX9_most : MethodName := ⟨RX9, "most", "(III)I"⟩
abbrev cX9_failsOf : ByteArray := prog_11_method_57_code
def yX9_failsOf : MethodName := ⟨RX9, "failsOf", "(I)I"⟩
abbrev cX9_fails : ByteArray := prog_11_method_58_code
def yX9_fails : MethodName := ⟨RX9, "fails", "(I)I"⟩
abbrev cX9_soonestNow : ByteArray := prog_11_method_59_code
def yX9_soonestNow : MethodName := ⟨RX9, "soonestNow", "()I"⟩
abbrev cX9_soonest : ByteArray := prog_11_method_60_code
def yX9_soonest : MethodName := ⟨RX9, "soonest", "()I"⟩
abbrev cX9_leftOn : ByteArray := prog_11_method_61_code
def yX9_leftOn : MethodName := ⟨RX9, "leftOn", "(I)I"⟩
abbrev cX9_left : ByteArray := prog_11_method_62_code
def yX9_left : MethodName := ⟨RX9, "left", "(I)I"⟩
abbrev cX9_burnsBy : ByteArray := prog_11_method_63_code
def yX9_burnsBy : MethodName := ⟨RX9, "burnsBy", "(IIIII)I"⟩
abbrev cX9_joined : ByteArray := prog_11_method_64_code
def yX9_joined : MethodName := ⟨RX9, "joined", "(III)I"⟩
abbrev cX9_burnsNow : ByteArray := prog_11_method_65_code
def yX9_burnsNow : MethodName := ⟨RX9, "burnsNow", "(I)I"⟩
abbrev cX9_burns : ByteArray := prog_11_method_66_code
def yX9_burns : MethodName := ⟨RX9, "burns", "(I)I"⟩
abbrev cX9_lights : ByteArray := prog_11_method_67_code
def yX9_lights : MethodName := ⟨RX9, "lights", "(III)Z"⟩
abbrev cX9_findLit : ByteArray := prog_11_method_68_code
def yX9_findLit : MethodName := ⟨RX9, "findLit", "(I)V"⟩
abbrev cX9_lit : ByteArray := prog_11_method_69_code
def yX9_lit : MethodName := ⟨RX9, "lit", "(II)I"⟩
abbrev cX9_outAt : ByteArray := prog_11_method_70_code
def yX9_outAt : MethodName := ⟨RX9, "outAt", "(I)I"⟩
abbrev cX9_inAt : ByteArray := prog_11_method_71_code
def yX9_inAt : MethodName := ⟨RX9, "inAt", "(I)I"⟩
abbrev cX9_goesThrough : ByteArray := prog_11_method_72_code
def yX9_goesThrough : MethodName := ⟨RX9, "goesThrough", "(I)Z"⟩
abbrev cX9_walks : ByteArray := prog_11_method_73_code
def yX9_walks : MethodName := ⟨RX9, "walks", "(II)V"⟩
abbrev cX9_waysTo : ByteArray := prog_11_method_74_code
def yX9_waysTo : MethodName := ⟨RX9, "waysTo", "(III)I"⟩
abbrev cX9_heardOf : ByteArray := prog_11_method_75_code
def yX9_heardOf : MethodName := ⟨RX9, "heardOf", "(III)I"⟩
abbrev cX9_heard : ByteArray := prog_11_method_76_code
def yX9_heard : MethodName := ⟨RX9, "heard", "(III)I"⟩
abbrev cX9_meetOf : ByteArray := prog_11_method_77_code
def yX9_meetOf : MethodName := ⟨RX9, "meetOf", "(IIII)I"⟩
abbrev cX9_meet : ByteArray := prog_11_method_78_code
def yX9_meet : MethodName := ⟨RX9, "meet", "(IIII)I"⟩
abbrev cX9_drowsyOf : ByteArray := prog_11_method_79_code
def yX9_drowsyOf : MethodName := ⟨RX9, "drowsyOf", "(III)I"⟩
abbrev cX9_drowsy : ByteArray := prog_11_method_80_code
def yX9_drowsy : MethodName := ⟨RX9, "drowsy", "(III)I"⟩
abbrev cX9_chalk : ByteArray := prog_11_method_81_code
def yX9_chalk : MethodName := ⟨RX9, "chalk", "(III)I"⟩
abbrev cX9_liesNow : ByteArray := prog_11_method_82_code
def yX9_liesNow : MethodName := ⟨RX9, "liesNow", "()I"⟩
abbrev cX9_lies : ByteArray := prog_11_method_83_code
def yX9_lies : MethodName := ⟨RX9, "lies", "()I"⟩
abbrev cX9_scene : ByteArray := prog_11_method_84_code
def yX9_scene : MethodName := ⟨RX9, "scene", "(I)I"⟩
abbrev cX9_scenesOf : ByteArray := prog_11_method_85_code
def yX9_scenesOf : MethodName := ⟨RX9, "scenesOf", "(I)I"⟩
abbrev cX9_scenes : ByteArray := prog_11_method_86_code
def yX9_scenes : MethodName := ⟨RX9, "scenes", "(I)I"⟩
abbrev cX9_cueOf : ByteArray := prog_11_method_87_code
def yX9_cueOf : MethodName := ⟨RX9, "cueOf", "(I)I"⟩
abbrev cX9_cue : ByteArray := prog_11_method_88_code
def yX9_cue : MethodName := ⟨RX9, "cue", "(I)I"⟩
abbrev cX9_forget : ByteArray := prog_11_method_89_code
def yX9_forget : MethodName := ⟨RX9, "forget", "(I)I"⟩
abbrev cX9_write : ByteArray := prog_11_method_90_code
def yX9_write : MethodName := ⟨RX9, "write", "(III)I"⟩
abbrev cX9_count : ByteArray := prog_11_method_91_code
def yX9_count : MethodName := ⟨RX9, "count", "(I)I"⟩
abbrev cX9_digest : ByteArray := prog_11_method_92_code
def yX9_digest : MethodName := ⟨RX9, "digest", "()J"⟩
def RJ6 : String := "java/lang/Integer"
def TJ6 : u_T := fun k => match k with
  | _ => ("", "", "", false)
def tyJ6 : Nat → FieldType := fun k => match k with
  | _ => .int
theorem nmJ6 : ∀ a, a < 0 → ∀ b, b < 0 → a ≠ b → (TJ6 a).2.1 ≠ (TJ6 b).2.1 := by decide +kernel
theorem tyJ6_ok : ∀ k, k < 0 → parseFieldDescriptor (TJ6 k).2.2.1 = some (tyJ6 k) := by decide +kernel
abbrev cJ6_bitCount_0f7a4 : ByteArray := prog_12_method_49_code
def yJ6_bitCount_0f7a4 : MethodName := ⟨RJ6, "bitCount", "(I)I"⟩
def RJ9 : String := "java/lang/Math"
def TJ9 : u_T := fun k => match k with
  | _ => ("", "", "", false)
def tyJ9 : Nat → FieldType := fun k => match k with
  | _ => .int
theorem nmJ9 : ∀ a, a < 0 → ∀ b, b < 0 → a ≠ b → (TJ9 a).2.1 ≠ (TJ9 b).2.1 := by decide +kernel
theorem tyJ9_ok : ∀ k, k < 0 → parseFieldDescriptor (TJ9 k).2.2.1 = some (tyJ9 k) := by decide +kernel
abbrev cJ9_abs_0f7a4 : ByteArray := prog_13_method_59_code
def yJ9_abs_0f7a4 : MethodName := ⟨RJ9, "abs", "(I)I"⟩
abbrev cJ9_max_7cf53 : ByteArray := prog_13_method_65_code
def yJ9_max_7cf53 : MethodName := ⟨RJ9, "max", "(II)I"⟩
abbrev cJ9_min_7cf53 : ByteArray := prog_13_method_69_code
def yJ9_min_7cf53 : MethodName := ⟨RJ9, "min", "(II)I"⟩
def RJ10 : String := "java/lang/System"
def TJ10 : u_T := fun k => match k with
  | _ => ("", "", "", false)
def tyJ10 : Nat → FieldType := fun k => match k with
  | _ => .int
theorem nmJ10 : ∀ a, a < 0 → ∀ b, b < 0 → a ≠ b → (TJ10 a).2.1 ≠ (TJ10 b).2.1 := by decide +kernel
theorem tyJ10_ok : ∀ k, k < 0 → parseFieldDescriptor (TJ10 k).2.2.1 = some (tyJ10 k) := by decide +kernel
def RJ7 : String := "java/util/Arrays"
def TJ7 : u_T := fun k => match k with
  | _ => ("", "", "", false)
def tyJ7 : Nat → FieldType := fun k => match k with
  | _ => .int
theorem nmJ7 : ∀ a, a < 0 → ∀ b, b < 0 → a ≠ b → (TJ7 a).2.1 ≠ (TJ7 b).2.1 := by decide +kernel
theorem tyJ7_ok : ∀ k, k < 0 → parseFieldDescriptor (TJ7 k).2.2.1 = some (tyJ7 k) := by decide +kernel
abbrev cJ7_fill_53178 : ByteArray := prog_15_method_103_code
def yJ7_fill_53178 : MethodName := ⟨RJ7, "fill", "([II)V"⟩
def RL : String := "FerretCablesLaw"
abbrev cL_law : ByteArray := code
def yL_law : MethodName := ⟨RL, "law", "([I)Z"⟩
abbrev vwCl : List vw_C := [(RX0, TX0, 7), (RX1, TX1, 5), (RX2, TX2, 5), (RX3, TX3, 6), (RX4, TX4, 11), (RX5, TX5, 4), (RX6, TX6, 4), (RX7, TX7, 5), (RX8, TX8, 9), (RX9, TX9, 30)]
end
section
/-! the world of the two objects as one function; the judgement Wp; a row an instruction -/
abbrev Sg : Type := Nat → Nat → Int32
def sgU (g : Sg) (k j : Nat) (x : Int32) : Sg := fun k' => if k' = k then upd (g k') j x else g k'
def sgC (g : Sg) (k : Nat) (f : Nat → Int32) : Sg := fun k' => if k' = k then f else g k'
abbrev Shp : Type := Nat ⊕ (Nat × List (Option Nat))
/-- the cells: 0 FerretCables, 1 Pipes (2..6 its rows), 7 Ways (8..10), 11 Book (12..15), 16 Flow (17..19), 20 Lamps (21), 22 Roaming (23..25), 26 Jottings (27..29), 30 Sheets (31..33), 34 the reference (35..54 its rows) -/
def shape : List Shp := [
  .inr (8, [some 1, some 7, some 11, some 16, some 20, some 22, some 26, some 30, none]),
  .inr (4, [some 2, some 3, some 4, some 5, some 6, none, none, none, none, none, none]),
  .inl 79, .inl 16, .inl 16, .inl 16, .inl 16,
  .inr (7, [some 1, some 8, some 9, some 10, none]),
  .inl 16, .inl 8, .inl 8,
  .inr (0, [some 7, some 1, some 12, some 13, some 14, some 15, none]),
  .inl 16, .inl 16, .inl 17, .inl 16,
  .inr (1, [some 7, some 1, some 17, some 18, some 19]),
  .inl 16, .inl 8, .inl 8,
  .inr (3, [some 11, some 7, some 21, none, none, none]),
  .inl 8,
  .inr (5, [some 1, some 23, some 24, some 25]),
  .inl 8, .inl 16, .inl 16,
  .inr (2, [some 27, some 28, some 29, none, none]),
  .inl 8, .inl 8, .inl 6,
  .inr (6, [some 31, some 32, some 33, none]),
  .inl 240, .inl 4, .inl 4,
  .inr (9, [some 35, some 36, some 37, some 38, none, some 39, none, none, none, some 40, some 41, none, some 42, some 43, some 44, none, none, none, some 45, some 46, some 47, some 48, some 49, some 50, some 51, some 52, none, some 53, none, some 54]),
  .inl 4, .inl 4, .inl 240, .inl 60, .inl 79, .inl 64, .inl 3, .inl 32, .inl 16, .inl 16, .inl 8, .inl 16, .inl 16, .inl 16, .inl 8, .inl 3, .inl 32, .inl 32, .inl 24, .inl 6]
def rv (ad : Nat → Nat) : Value → Value
  | .ref a => .ref (ad a)
  | v => v
theorem rv_cat (ad : Nat → Nat) (v : Value) : (rv ad v).category = v.category := by cases v <;> rfl
def wfld (ad : Nat → Nat) (g : Sg) (k j : Nat) : Option Nat → Value
  | some r => .ref (ad r)
  | none => .int (g k j)
def wcell (ad : Nat → Nat) (cA : ClassId) (g : Sg) (k : Nat) : Shp → va_E
  | .inl n => .inl (cA, n, .inl (g k))
  | .inr (ci, fs) => .inr (ci, fs.mapIdx (fun j o => wfld ad g k j o))
def wl (ad : Nat → Nat) (cA : ClassId) (g : Sg) : va_W := shape.mapIdx (fun k c => (ad k, wcell ad cA g k c))
theorem wl_at {ad : Nat → Nat} {cA : ClassId} {g : Sg} {k : Nat} {c : Shp} (h : shape[k]? = some c) : (wl ad cA g)[k]? = some (ad k, wcell ad cA g k c) := by
  simp [wl, List.getElem?_mapIdx, h]
theorem wl_of {ad : Nat → Nat} {cA : ClassId} {g : Sg} {k : Nat} {q : Nat × va_E} (h : (wl ad cA g)[k]? = some q) : ∃ c, shape[k]? = some c ∧ q = (ad k, wcell ad cA g k c) := by
  simp only [wl, List.getElem?_mapIdx] at h
  cases hc : shape[k]? with
  | none => rw [hc] at h; cases h
  | some c => rw [hc] at h; exact ⟨c, rfl, (Option.some.inj h).symm⟩
theorem wl_set {ad : Nat → Nat} {cA : ClassId} {g g' : Sg} {k : Nat} {c : Shp} {x : va_E} (h : shape[k]? = some c) (hx : wcell ad cA g' k c = x) (ho : ∀ i, i ≠ k → g' i = g i) : (wl ad cA g).set k (ad k, x) = wl ad cA g' := by
  apply List.ext_getElem?
  intro i
  rw [List.getElem?_set]
  have hlk : k < (wl ad cA g).length := by
    have h1 := wl_at (ad := ad) (cA := cA) (g := g) h
    exact (List.getElem?_eq_some_iff.mp h1).1
  by_cases hi : k = i
  · subst hi
    rw [if_pos rfl, if_pos hlk, wl_at h, hx]
  · rw [if_neg hi]
    simp only [wl, List.getElem?_mapIdx]
    cases hc : shape[i]? with
    | none => rfl
    | some c' =>
      have e := ho i (fun q => hi q.symm)
      have e2 : wcell ad cA g' i c' = wcell ad cA g i c' := by
        cases c' with
        | inl n => simp [wcell, e]
        | inr o =>
          obtain ⟨ci, fs⟩ := o
          have : (fun j o => wfld ad g' i j o) = (fun j o => wfld ad g i j o) := by
            funext j o
            cases o <;> simp [wfld, e]
          simp [wcell, this]
      simp [e2]
def wA (ad : Nat → Nat) : Nat → Prop := fun q => ∃ k, k < 55 ∧ q = ad k
def adI (ad : Nat → Nat) : Prop := ∀ i j, i < 55 → j < 55 → ad i = ad j → i = j
theorem shape_lt {k : Nat} {c : Shp} (h : shape[k]? = some c) : k < 55 := (List.getElem?_eq_some_iff.mp h).1
theorem wl_D {ad : Nat → Nat} {cA : ClassId} {g : Sg} (h : adI ad) : va_D (wA ad) (wl ad cA g) := by
  refine ⟨fun i j p q hi hj e => ?_, fun k q hk => ?_⟩
  · obtain ⟨c, h1, rfl⟩ := wl_of hi
    obtain ⟨d, h2, rfl⟩ := wl_of hj
    exact h i j (shape_lt h1) (shape_lt h2) e
  · obtain ⟨c, h1, rfl⟩ := wl_of hk
    exact ⟨k, shape_lt h1, rfl⟩
/-- a method: name, code, locals, answer, frames and locals' words that it needs below it -/
abbrev MI : Type := MethodName × ByteArray × Nat × Option FieldType × Nat × Nat
def gtbl : List Cond := lw_tbl.filter goodWord
def nst (s : State) : Prop := ∀ own i y host, Cond.methodLinkNest own i y host ∈ lw_tbl → va_Nw (.methodLinkNest own i y host) s
abbrev Ls : Type := List (Option Value)
def lh (ad : Nat → Nat) (ls : Array Slot) (nL : Nat) (L : Ls) : Prop := ls.size = nL ∧ lv_wf ls ∧ ∀ (i : Nat) (v : Value), L[i]? = some (some v) → ls[i]? = some (.val (rv ad v))
def prs (ad : Nat → Nat) (L : Ls) : List (Nat × Value) := (List.range L.length).filterMap (fun i => match L[i]? with | some (some v) => some (i, rv ad v) | _ => none)
theorem mem_prs {ad : Nat → Nat} {L : Ls} {i : Nat} {v : Value} (h : L[i]? = some (some v)) : (i, rv ad v) ∈ prs ad L := by
  refine List.mem_filterMap.mpr ⟨i, List.mem_range.mpr (List.getElem?_eq_some_iff.mp h).1, ?_⟩
  rw [h]
theorem of_prs {ad : Nat → Nat} {L : Ls} {q : Nat × Value} (h : q ∈ prs ad L) : ∃ v, L[q.1]? = some (some v) ∧ q.2 = rv ad v := by
  obtain ⟨i, -, h⟩ := List.mem_filterMap.mp h
  split at h
  next v hv => cases h; exact ⟨v, hv, rfl⟩
  next => cases h
theorem lh.has {ad : Nat → Nat} {ls : Array Slot} {nL : Nat} {L : Ls} (h : lh ad ls nL L) : lv_has ls nL (prs ad L) := by
  refine ⟨h.1, h.2.1, fun q hq => ?_⟩
  obtain ⟨v, h1, h2⟩ := of_prs hq
  rw [h2]
  exact h.2.2 _ _ h1
def cat2 : Option Value → Bool
  | some v => v.category == 2
  | none => false
/-- a store of one word, of two words -/
def st1 (L : Ls) (i : Nat) (v : Value) : Ls := L.mapIdx (fun j o => if j = i then some v else if j + 1 = i ∧ cat2 o = true then none else o)
def st2 (L : Ls) (i : Nat) (v : Value) : Ls := L.mapIdx (fun j o => if j = i then some v else if j = i + 1 then none else if j + 1 = i ∧ cat2 o = true then none else o)
theorem lh_st1 {ad : Nat → Nat} {ls : Array Slot} {nL : Nat} {L : Ls} {i : Nat} {v : Value} (h : lv_has ls nL ((i, rv ad v) :: (prs ad L).filter (fun q => !(q.1 == i) && !(q.1 + 1 == i && q.2.category == 2)))) : lh ad ls nL (st1 L i v) := by
  refine ⟨h.1, h.2.1, fun j w hj => ?_⟩
  simp only [st1, List.getElem?_mapIdx] at hj
  cases hc : L[j]? with
  | none => rw [hc] at hj; cases hj
  | some o =>
    rw [hc] at hj
    simp only [Option.map_some, Option.some.injEq] at hj
    by_cases hi : j = i
    · subst hi
      rw [if_pos rfl] at hj
      cases hj
      exact h.2.2 _ List.mem_cons_self
    · rw [if_neg hi] at hj
      by_cases h2 : j + 1 = i ∧ cat2 o = true
      · rw [if_pos h2] at hj; cases hj
      · rw [if_neg h2] at hj
        subst hj
        refine h.2.2 (j, rv ad w) (List.mem_cons_of_mem _ (List.mem_filter.mpr ⟨mem_prs hc, ?_⟩))
        have : ¬ (j + 1 = i ∧ w.category = 2) := fun q => h2 ⟨q.1, by simp [cat2, q.2]⟩
        simp [hi, rv_cat]
        exact Classical.not_and_iff_not_or_not.mp this
theorem lh_st2 {ad : Nat → Nat} {ls : Array Slot} {nL : Nat} {L : Ls} {i : Nat} {v : Value} (h : lv_has ls nL ((i, rv ad v) :: (prs ad L).filter (fun q => !(q.1 == i) && (!(q.1 == i + 1) && !(q.1 + 1 == i && q.2.category == 2))))) : lh ad ls nL (st2 L i v) := by
  refine ⟨h.1, h.2.1, fun j w hj => ?_⟩
  simp only [st2, List.getElem?_mapIdx] at hj
  cases hc : L[j]? with
  | none => rw [hc] at hj; cases hj
  | some o =>
    rw [hc] at hj
    simp only [Option.map_some, Option.some.injEq] at hj
    by_cases hi : j = i
    · subst hi
      rw [if_pos rfl] at hj
      cases hj
      exact h.2.2 _ List.mem_cons_self
    · rw [if_neg hi] at hj
      by_cases h3 : j = i + 1
      · rw [if_pos h3] at hj; cases hj
      · rw [if_neg h3] at hj
        by_cases h2 : j + 1 = i ∧ cat2 o = true
        · rw [if_pos h2] at hj; cases hj
        · rw [if_neg h2] at hj
          subst hj
          refine h.2.2 (j, rv ad w) (List.mem_cons_of_mem _ (List.mem_filter.mpr ⟨mem_prs hc, ?_⟩))
          have : ¬ (j + 1 = i ∧ w.category = 2) := fun q => h2 ⟨q.1, by simp [cat2, q.2]⟩
          simp [hi, h3, rv_cat]
          exact Classical.not_and_iff_not_or_not.mp this
def MC (M : MI) (p : Program) (R : Room) (s : State) (m : MethodId) (args : Array Value) (meth : Method) (c : Code) (D : va_G) (ad : Nat → Nat) (cA : ClassId) (cells slots : Nat) : Prop :=
  p.tables.exec = Jvm.exec ∧ c.code = M.2.1 ∧ c.maxLocals = M.2.2.1 ∧ meth.sig.returnType = M.2.2.2.1 ∧ meth.locks = false ∧ s.vm.findClass M.1.cls = some m.cls ∧ (∀ w ∈ gtbl, w.before args s = true) ∧ nst s ∧
  va_K D vwCl [(cA, .int)] s ∧ adI ad ∧ M.2.2.2.2.1 ≤ R.frames ∧ M.2.2.2.2.2 ≤ R.locals ∧ cells ≤ R.cells ∧ slots ≤ R.slots
def RI (M : MI) (pc : Nat) : Option Value → Prop
  | none => decode M.2.1 pc = .ok (.return_, 1) ∧ M.2.2.2.1 = none
  | some (.int x) => decode M.2.1 pc = .ok (.ireturn, 1) ∧ ∃ ty, M.2.2.2.1 = some ty ∧ narrow ty (.int x) = .int x
  | some (.long x) => decode M.2.1 pc = .ok (.lreturn, 1) ∧ M.2.2.2.1 = some .long
  | _ => False
def RK (M : MI) (p : Program) (l : Launch) (e : Env) (R : Room) (s : State) (m : MethodId) (args : Array Value) (below : List Frame) (meth : Method) (c : Code) (D : va_G) (ad : Nat → Nat) (cA : ClassId) (cells slots : Nat) (Qf : State → Prop) (v : Option Value) (g : Sg) : Prop :=
  ∀ (H : Heap) (locs : List Loc) (pc : Nat) (ls : Array Slot), va_P D vwCl (wl ad cA g) H → va_S (wA ad) s.heap H locs → RI M pc v → W p l e R s m args below meth c H locs cells slots Qf (F0 m pc ls (v.toList.map (rv ad)))
/-- from here the method comes to its end, with an answer and a world of which Q holds -/
def Wp (M : MI) (E : State → (Nat → Nat) → Prop) (pc : Nat) (L : Ls) (st : List Value) (g : Sg) (Q : Option Value → Sg → Prop) : Prop :=
  ∀ (p : Program) (l : Launch) (e : Env) (R : Room) (s : State) (m : MethodId) (args : Array Value) (below : List Frame) (meth : Method) (c : Code) (D : va_G) (ad : Nat → Nat) (cA : ClassId) (cells slots : Nat) (Qf : State → Prop),
    MC M p R s m args meth c D ad cA cells slots → E s ad → (∀ v g', Q v g' → RK M p l e R s m args below meth c D ad cA cells slots Qf v g') →
    ∀ (H : Heap) (locs : List Loc) (ls : Array Slot), va_P D vwCl (wl ad cA g) H → va_S (wA ad) s.heap H locs → lh ad ls M.2.2.1 L →
      W p l e R s m args below meth c H locs cells slots Qf (F0 m pc ls (st.map (rv ad)))
def Cl (M : MI) (as : List Value) (g : Sg) (Q : Option Value → Sg → Prop) : Prop :=
  ∀ (l : Launch) (D : va_G) (ad : Nat → Nat) (cA : ClassId), adI ad →
    Met l M.1 (Cond.code M.1 M.2.1 M.2.2.1 M.2.2.2.1 :: gtbl) { frames := M.2.2.2.2.1, cells := 0, slots := 0, locals := M.2.2.2.2.2 }
      (fun v U => v = (as.map (rv ad)).toArray ∧ va_P D vwCl (wl ad cA g) U.heap ∧ va_K D vwCl [(cA, .int)] U ∧ nst U)
      (fun _ st oc t => (∃ v g', oc = .returned (v.map (rv ad)) ∧ Q v g' ∧ va_P D vwCl (wl ad cA g') t.heap) ∧ va_F (wA ad) st t) 0 0 (wA ad)
theorem Wp.mono {M : MI} {E : State → (Nat → Nat) → Prop} {pc : Nat} {L : Ls} {st : List Value} {g : Sg} {Q Q' : Option Value → Sg → Prop} (h : Wp M E pc L st g Q) (hq : ∀ v g', Q v g' → Q' v g') : Wp M E pc L st g Q' :=
  fun p l e R s m args below meth c D ad cA cells slots Qf C hE hQ => h p l e R s m args below meth c D ad cA cells slots Qf C hE (fun v g' q => hQ v g' (hq v g' q))
/-- the locals with which a method begins -/
def enL : List Value → Ls
  | [] => []
  | v :: vs => if v.category = 2 then some v :: none :: enL vs else some v :: enL vs
theorem enL_args {ad : Nat → Nat} : ∀ (as : List Value) (n i : Nat) (v : Value), (enL as)[i]? = some (some v) → (n + i, rv ad v) ∈ lv_args n (as.map (rv ad)) := by
  intro as
  induction as with
  | nil => intro n i v h; simp [enL] at h
  | cons a as ih =>
    intro n i v h
    simp only [List.map_cons, lv_args, rv_cat]
    by_cases hc : a.category = 2
    · simp only [enL, hc, if_true] at h
      rw [if_pos hc]
      match i, h with
      | 0, h => simp at h; subst h; exact List.mem_cons_self
      | 1, h => simp at h
      | i + 2, h =>
        simp at h
        have := ih (n + 2) i v h
        rw [show n + 2 + i = n + (i + 2) by omega] at this
        exact List.mem_cons_of_mem _ this
    · simp only [enL, hc, if_false] at h
      rw [if_neg hc]
      match i, h with
      | 0, h => simp at h; subst h; exact List.mem_cons_self
      | i + 1, h =>
        simp at h
        have := ih (n + 1) i v h
        rw [show n + 1 + i = n + (i + 1) by omega] at this
        exact List.mem_cons_of_mem _ this
theorem enL_len (ad : Nat → Nat) (as : List Value) : (lg_sl (as.map (rv ad))).length = (enL as).length := by
  induction as with
  | nil => rfl
  | cons a as ih =>
    simp only [lg_sl, List.map_cons, List.flatMap_cons, rv_cat, enL] at ih ⊢
    by_cases hc : a.category = 2
    · simp [hc] at ih ⊢; omega
    · simp [hc] at ih ⊢; omega
end
section
/-! from Wp to a contract, and a row an instruction -/
theorem Cl.of {M : MI} {as : List Value} {g : Sg} {Q : Option Value → Sg → Prop} (n : Nat) (hy : Jvm.plainName M.1.cls = true) (hn : (enL as).length + n = M.2.2.1) (h : Wp M (fun _ _ => True) 0 (enL as ++ List.replicate n none) [] g Q) : Cl M as g Q := by
  intro l D ad cA hI
  refine Met.ofW (cc := M.2.1) (maxL := M.2.2.1) (ret := M.2.2.2.1) hy rfl ?_
  intro p e s m args below meth c s₁ B hml hv
  obtain ⟨rfl, hP, hK, hN⟩ := hv
  have hts := atoms_spec (ws := Cond.code M.1 M.2.1 M.2.2.1 M.2.2.2.1 :: gtbl) B.pre
  have hown : s.vm.findClass M.1.cls = some m.cls := findClass_of_methodNamed B.named
  have hle : (lg_sl (as.map (rv ad))).length ≤ M.2.2.1 := by rw [enL_len]; omega
  have hl := lv_entry (as.map (rv ad)) hle
  rw [lg_entry_eq]
  have hlh : lh ad ((lg_sl (as.map (rv ad)) ++ List.replicate (M.2.2.1 - (lg_sl (as.map (rv ad))).length) Slot.unset).toArray) M.2.2.1 (enL as ++ List.replicate n none) := by
    refine ⟨hl.1, hl.2.1, fun i v hi => ?_⟩
    by_cases hil : i < (enL as).length
    · rw [List.getElem?_append_left hil] at hi
      have := enL_args (ad := ad) as 0 i v hi
      rw [Nat.zero_add] at this
      exact hl.2.2 _ this
    · rw [List.getElem?_append_right (by omega)] at hi
      have := List.eq_of_mem_replicate (List.mem_of_getElem? hi)
      cases this
  refine h p l e _ s m _ below meth c D ad cA 0 0 _ ⟨B.exec, B.bytes, hml, B.returns, B.notSynchronized, hown, fun w hw => hts w (List.mem_cons_of_mem _ hw), hN, hK, hI, Nat.le_refl _, Nat.le_refl _, Nat.zero_le _, Nat.zero_le _⟩ trivial ?_ s.heap [] _ hP va_S.rf hlh
  intro v g' hq H locs pc ls hP hS hR
  have hlk := B.notSynchronized
  match v, hR with
  | none, hR => exact W.vret B.exec B.bytes (B.returns.trans hR.2) (fun t ht hW => ⟨⟨none, g', rfl, hq, by rw [ht]; exact hP⟩, hS.F ht⟩) hS.2.2 hR.1
  | some (.int x), hR =>
    obtain ⟨hd, ty, h1, h2⟩ := hR
    exact W.zret B.exec B.bytes (B.returns.trans h1) h2 (fun t ht hW => ⟨⟨some (.int x), g', rfl, hq, by rw [ht]; exact hP⟩, hS.F ht⟩) hS.2.2 hd
  | some (.long x), hR => exact W.lret B.exec B.bytes (B.returns.trans hR.2) (fun t ht hW => ⟨⟨some (.long x), g', rfl, hq, by rw [ht]; exact hP⟩, hS.F ht⟩) hS.2.2 hR.1
section Ev
variable {M : MI} {E : State → (Nat → Nat) → Prop} {pc : Nat} {L : Ls} {st : List Value} {g : Sg} {Q : Option Value → Sg → Prop}
theorem e_iconst {n : Int} (hd : decode M.2.1 pc = .ok (.iconst n, 1)) (k : Wp M E (pc + 1) L (.int (Int32.ofInt n) :: st) g Q) : Wp M E pc L st g Q :=
  fun p l e R s m args below meth c D ad cA cells slots Qf C hE hQ H locs ls hP hS hl => lv_iconst C.1 C.2.1 hd rfl (k p l e R s m args below meth c D ad cA cells slots Qf C hE hQ H locs ls hP hS hl)
theorem e_bipush {n : Int} (hd : decode M.2.1 pc = .ok (.bipush n, 2)) (k : Wp M E (pc + 2) L (.int (Int8.ofInt n).toInt32 :: st) g Q) : Wp M E pc L st g Q :=
  fun p l e R s m args below meth c D ad cA cells slots Qf C hE hQ H locs ls hP hS hl => lv_bipush C.1 C.2.1 hd rfl (k p l e R s m args below meth c D ad cA cells slots Qf C hE hQ H locs ls hP hS hl)
theorem e_sipush {n : Int} (hd : decode M.2.1 pc = .ok (.sipush n, 3)) (k : Wp M E (pc + 3) L (.int (Int16.ofInt n).toInt32 :: st) g Q) : Wp M E pc L st g Q :=
  fun p l e R s m args below meth c D ad cA cells slots Qf C hE hQ H locs ls hP hS hl => lv_sipush C.1 C.2.1 hd rfl (k p l e R s m args below meth c D ad cA cells slots Qf C hE hQ H locs ls hP hS hl)
theorem e_lconst {n : Fin 2} (hd : decode M.2.1 pc = .ok (.lconst n, 1)) (k : Wp M E (pc + 1) L (.long (Int64.ofNat (n : Nat)) :: st) g Q) : Wp M E pc L st g Q :=
  fun p l e R s m args below meth c D ad cA cells slots Qf C hE hQ H locs ls hP hS hl => lv_lconst C.1 C.2.1 hd rfl (k p l e R s m args below meth c D ad cA cells slots Qf C hE hQ H locs ls hP hS hl)
theorem e_ldc {idx : Nat} {v : Int32} (hd : decode M.2.1 pc = .ok (.ldc idx, 2)) (hc : Cond.constant M.1.cls idx v ∈ gtbl) (k : Wp M E (pc + 2) L (.int v :: st) g Q) : Wp M E pc L st g Q :=
  fun p l e R s m args below meth c D ad cA cells slots Qf C hE hQ H locs ls hP hS hl => lv_ldc C.1 C.2.1 C.2.2.2.2.2.1 (C.2.2.2.2.2.2.1 _ hc) hd (k p l e R s m args below meth c D ad cA cells slots Qf C hE hQ H locs ls hP hS hl)
theorem e_ldcw {idx : Nat} {v : Int32} (hd : decode M.2.1 pc = .ok (.ldc_w idx, 3)) (hc : Cond.constant M.1.cls idx v ∈ gtbl) (k : Wp M E (pc + 3) L (.int v :: st) g Q) : Wp M E pc L st g Q :=
  fun p l e R s m args below meth c D ad cA cells slots Qf C hE hQ H locs ls hP hS hl => lv_ldcw C.1 C.2.1 C.2.2.2.2.2.1 (C.2.2.2.2.2.2.1 _ hc) hd (k p l e R s m args below meth c D ad cA cells slots Qf C hE hQ H locs ls hP hS hl)
theorem e_ldc2 {idx : Nat} {v : Int64} (hd : decode M.2.1 pc = .ok (.ldc2_w idx, 3)) (hc : Cond.constantLong M.1.cls idx v ∈ gtbl) (k : Wp M E (pc + 3) L (.long v :: st) g Q) : Wp M E pc L st g Q :=
  fun p l e R s m args below meth c D ad cA cells slots Qf C hE hQ H locs ls hP hS hl => lv_ldc2 C.1 C.2.1 C.2.2.2.2.2.1 (C.2.2.2.2.2.2.1 _ hc) hd (k p l e R s m args below meth c D ad cA cells slots Qf C hE hQ H locs ls hP hS hl)
theorem e_iload_n {j : Fin 4} {x : Int32} (hd : decode M.2.1 pc = .ok (.iload_n j, 1)) (hx : L[(j : Nat)]? = some (some (.int x))) (k : Wp M E (pc + 1) L (.int x :: st) g Q) : Wp M E pc L st g Q :=
  fun p l e R s m args below meth c D ad cA cells slots Qf C hE hQ H locs ls hP hS hl => lv_iload_n C.1 C.2.1 hd rfl (hl.2.2 _ _ hx) (k p l e R s m args below meth c D ad cA cells slots Qf C hE hQ H locs ls hP hS hl)
theorem e_iload {j : Nat} {x : Int32} (hd : decode M.2.1 pc = .ok (.iload j, 2)) (hx : L[j]? = some (some (.int x))) (k : Wp M E (pc + 2) L (.int x :: st) g Q) : Wp M E pc L st g Q :=
  fun p l e R s m args below meth c D ad cA cells slots Qf C hE hQ H locs ls hP hS hl => lv_iload C.1 C.2.1 hd (hl.2.2 _ _ hx) (k p l e R s m args below meth c D ad cA cells slots Qf C hE hQ H locs ls hP hS hl)
theorem e_lload_n {j : Fin 4} {x : Int64} (hd : decode M.2.1 pc = .ok (.lload_n j, 1)) (hx : L[(j : Nat)]? = some (some (.long x))) (k : Wp M E (pc + 1) L (.long x :: st) g Q) : Wp M E pc L st g Q :=
  fun p l e R s m args below meth c D ad cA cells slots Qf C hE hQ H locs ls hP hS hl => lv_lload_n C.1 C.2.1 hd rfl (hl.2.2 _ _ hx) (k p l e R s m args below meth c D ad cA cells slots Qf C hE hQ H locs ls hP hS hl)
theorem e_lload {j : Nat} {x : Int64} (hd : decode M.2.1 pc = .ok (.lload j, 2)) (hx : L[j]? = some (some (.long x))) (k : Wp M E (pc + 2) L (.long x :: st) g Q) : Wp M E pc L st g Q :=
  fun p l e R s m args below meth c D ad cA cells slots Qf C hE hQ H locs ls hP hS hl => lv_lload C.1 C.2.1 hd (hl.2.2 _ _ hx) (k p l e R s m args below meth c D ad cA cells slots Qf C hE hQ H locs ls hP hS hl)
theorem e_aload_n {j : Fin 4} {x : Nat} (hd : decode M.2.1 pc = .ok (.aload_n j, 1)) (hx : L[(j : Nat)]? = some (some (.ref x))) (k : Wp M E (pc + 1) L (.ref x :: st) g Q) : Wp M E pc L st g Q :=
  fun p l e R s m args below meth c D ad cA cells slots Qf C hE hQ H locs ls hP hS hl => lv_aload_n C.1 C.2.1 hd rfl (hl.2.2 _ _ hx) (k p l e R s m args below meth c D ad cA cells slots Qf C hE hQ H locs ls hP hS hl)
theorem e_aload {j : Nat} {x : Nat} (hd : decode M.2.1 pc = .ok (.aload j, 2)) (hx : L[j]? = some (some (.ref x))) (k : Wp M E (pc + 2) L (.ref x :: st) g Q) : Wp M E pc L st g Q :=
  fun p l e R s m args below meth c D ad cA cells slots Qf C hE hQ H locs ls hP hS hl => lv_aload C.1 C.2.1 hd (hl.2.2 _ _ hx) (k p l e R s m args below meth c D ad cA cells slots Qf C hE hQ H locs ls hP hS hl)
theorem e_istore_n {j : Fin 4} {x : Int32} (hd : decode M.2.1 pc = .ok (.istore_n j, 1)) (hn : (j : Nat) < M.2.2.1) (k : Wp M E (pc + 1) (st1 L j (.int x)) st g Q) : Wp M E pc L (.int x :: st) g Q :=
  fun p l e R s m args below meth c D ad cA cells slots Qf C hE hQ H locs ls hP hS hl => lv_istore_n C.1 C.2.1 hd rfl hl.has hn rfl (fun ls' hl' => k p l e R s m args below meth c D ad cA cells slots Qf C hE hQ H locs ls' hP hS (lh_st1 hl'))
theorem e_istore {j : Nat} {x : Int32} (hd : decode M.2.1 pc = .ok (.istore j, 2)) (hn : j < M.2.2.1) (k : Wp M E (pc + 2) (st1 L j (.int x)) st g Q) : Wp M E pc L (.int x :: st) g Q :=
  fun p l e R s m args below meth c D ad cA cells slots Qf C hE hQ H locs ls hP hS hl => lv_istore C.1 C.2.1 hd hl.has hn rfl (fun ls' hl' => k p l e R s m args below meth c D ad cA cells slots Qf C hE hQ H locs ls' hP hS (lh_st1 hl'))
theorem e_lstore_n {j : Fin 4} {x : Int64} (hd : decode M.2.1 pc = .ok (.lstore_n j, 1)) (hn : (j : Nat) + 1 < M.2.2.1) (k : Wp M E (pc + 1) (st2 L j (.long x)) st g Q) : Wp M E pc L (.long x :: st) g Q :=
  fun p l e R s m args below meth c D ad cA cells slots Qf C hE hQ H locs ls hP hS hl => lv_lstore_n C.1 C.2.1 hd rfl hl.has hn rfl (fun ls' hl' => k p l e R s m args below meth c D ad cA cells slots Qf C hE hQ H locs ls' hP hS (lh_st2 hl'))
theorem e_lstore {j : Nat} {x : Int64} (hd : decode M.2.1 pc = .ok (.lstore j, 2)) (hn : j + 1 < M.2.2.1) (k : Wp M E (pc + 2) (st2 L j (.long x)) st g Q) : Wp M E pc L (.long x :: st) g Q :=
  fun p l e R s m args below meth c D ad cA cells slots Qf C hE hQ H locs ls hP hS hl => lv_lstore C.1 C.2.1 hd hl.has hn rfl (fun ls' hl' => k p l e R s m args below meth c D ad cA cells slots Qf C hE hQ H locs ls' hP hS (lh_st2 hl'))
theorem e_astore_n {j : Fin 4} {x : Nat} (hd : decode M.2.1 pc = .ok (.astore_n j, 1)) (hn : (j : Nat) < M.2.2.1) (k : Wp M E (pc + 1) (st1 L j (.ref x)) st g Q) : Wp M E pc L (.ref x :: st) g Q :=
  fun p l e R s m args below meth c D ad cA cells slots Qf C hE hQ H locs ls hP hS hl => lv_astore_n C.1 C.2.1 hd rfl hl.has hn rfl (fun ls' hl' => k p l e R s m args below meth c D ad cA cells slots Qf C hE hQ H locs ls' hP hS (lh_st1 hl'))
theorem e_astore {j : Nat} {x : Nat} (hd : decode M.2.1 pc = .ok (.astore j, 2)) (hn : j < M.2.2.1) (k : Wp M E (pc + 2) (st1 L j (.ref x)) st g Q) : Wp M E pc L (.ref x :: st) g Q :=
  fun p l e R s m args below meth c D ad cA cells slots Qf C hE hQ H locs ls hP hS hl => lv_astore C.1 C.2.1 hd hl.has hn rfl (fun ls' hl' => k p l e R s m args below meth c D ad cA cells slots Qf C hE hQ H locs ls' hP hS (lh_st1 hl'))
theorem e_iinc {j : Nat} {n : Int} {x : Int32} (hd : decode M.2.1 pc = .ok (.iinc j n, 3)) (hx : L[j]? = some (some (.int x))) (hn : j < M.2.2.1) (k : Wp M E (pc + 3) (st1 L j (.int (x + Int32.ofInt n))) st g Q) : Wp M E pc L st g Q := by
  intro p l e R s m args below meth c D ad cA cells slots Qf C hE hQ H locs ls hP hS hl
  obtain ⟨i, hi⟩ := List.getElem?_of_mem (mem_prs (ad := ad) hx)
  exact lv_iinc C.1 C.2.1 hd hl.has hi rfl hn rfl (fun ls' hl' => k p l e R s m args below meth c D ad cA cells slots Qf C hE hQ H locs ls' hP hS (lh_st1 hl'))
theorem e_iadd {x y : Int32} (hd : decode M.2.1 pc = .ok (.iadd, 1)) (k : Wp M E (pc + 1) L (.int (x + y) :: st) g Q) : Wp M E pc L (.int y :: .int x :: st) g Q :=
  fun p l e R s m args below meth c D ad cA cells slots Qf C hE hQ H locs ls hP hS hl => lv_iadd C.1 C.2.1 hd (k p l e R s m args below meth c D ad cA cells slots Qf C hE hQ H locs ls hP hS hl)
theorem e_isub {x y : Int32} (hd : decode M.2.1 pc = .ok (.isub, 1)) (k : Wp M E (pc + 1) L (.int (x - y) :: st) g Q) : Wp M E pc L (.int y :: .int x :: st) g Q :=
  fun p l e R s m args below meth c D ad cA cells slots Qf C hE hQ H locs ls hP hS hl => lv_isub C.1 C.2.1 hd (k p l e R s m args below meth c D ad cA cells slots Qf C hE hQ H locs ls hP hS hl)
theorem e_imul {x y : Int32} (hd : decode M.2.1 pc = .ok (.imul, 1)) (k : Wp M E (pc + 1) L (.int (x * y) :: st) g Q) : Wp M E pc L (.int y :: .int x :: st) g Q :=
  fun p l e R s m args below meth c D ad cA cells slots Qf C hE hQ H locs ls hP hS hl => lv_imul C.1 C.2.1 hd (k p l e R s m args below meth c D ad cA cells slots Qf C hE hQ H locs ls hP hS hl)
theorem e_iand {x y : Int32} (hd : decode M.2.1 pc = .ok (.iand, 1)) (k : Wp M E (pc + 1) L (.int (x &&& y) :: st) g Q) : Wp M E pc L (.int y :: .int x :: st) g Q :=
  fun p l e R s m args below meth c D ad cA cells slots Qf C hE hQ H locs ls hP hS hl => lv_iand C.1 C.2.1 hd (k p l e R s m args below meth c D ad cA cells slots Qf C hE hQ H locs ls hP hS hl)
theorem e_ior {x y : Int32} (hd : decode M.2.1 pc = .ok (.ior, 1)) (k : Wp M E (pc + 1) L (.int (x ||| y) :: st) g Q) : Wp M E pc L (.int y :: .int x :: st) g Q :=
  fun p l e R s m args below meth c D ad cA cells slots Qf C hE hQ H locs ls hP hS hl => lv_ior C.1 C.2.1 hd (k p l e R s m args below meth c D ad cA cells slots Qf C hE hQ H locs ls hP hS hl)
theorem e_ixor {x y : Int32} (hd : decode M.2.1 pc = .ok (.ixor, 1)) (k : Wp M E (pc + 1) L (.int (x ^^^ y) :: st) g Q) : Wp M E pc L (.int y :: .int x :: st) g Q :=
  fun p l e R s m args below meth c D ad cA cells slots Qf C hE hQ H locs ls hP hS hl => lv_ixor C.1 C.2.1 hd (k p l e R s m args below meth c D ad cA cells slots Qf C hE hQ H locs ls hP hS hl)
theorem e_idiv {x y : Int32} (hd : decode M.2.1 pc = .ok (.idiv, 1)) (hy : ¬ y = 0) (k : Wp M E (pc + 1) L (.int (x / y) :: st) g Q) : Wp M E pc L (.int y :: .int x :: st) g Q :=
  fun p l e R s m args below meth c D ad cA cells slots Qf C hE hQ H locs ls hP hS hl => lv_idiv C.1 C.2.1 hd hy (k p l e R s m args below meth c D ad cA cells slots Qf C hE hQ H locs ls hP hS hl)
theorem e_irem {x y : Int32} (hd : decode M.2.1 pc = .ok (.irem, 1)) (hy : ¬ y = 0) (k : Wp M E (pc + 1) L (.int (x - x / y * y) :: st) g Q) : Wp M E pc L (.int y :: .int x :: st) g Q :=
  fun p l e R s m args below meth c D ad cA cells slots Qf C hE hQ H locs ls hP hS hl => lv_irem C.1 C.2.1 hd hy (k p l e R s m args below meth c D ad cA cells slots Qf C hE hQ H locs ls hP hS hl)
theorem e_ineg {x : Int32} (hd : decode M.2.1 pc = .ok (.ineg, 1)) (k : Wp M E (pc + 1) L (.int (-x) :: st) g Q) : Wp M E pc L (.int x :: st) g Q :=
  fun p l e R s m args below meth c D ad cA cells slots Qf C hE hQ H locs ls hP hS hl => lv_ineg C.1 C.2.1 hd (k p l e R s m args below meth c D ad cA cells slots Qf C hE hQ H locs ls hP hS hl)
theorem e_ladd {x y : Int64} (hd : decode M.2.1 pc = .ok (.ladd, 1)) (k : Wp M E (pc + 1) L (.long (x + y) :: st) g Q) : Wp M E pc L (.long y :: .long x :: st) g Q :=
  fun p l e R s m args below meth c D ad cA cells slots Qf C hE hQ H locs ls hP hS hl => lv_ladd C.1 C.2.1 hd (k p l e R s m args below meth c D ad cA cells slots Qf C hE hQ H locs ls hP hS hl)
theorem e_lmul {x y : Int64} (hd : decode M.2.1 pc = .ok (.lmul, 1)) (k : Wp M E (pc + 1) L (.long (x * y) :: st) g Q) : Wp M E pc L (.long y :: .long x :: st) g Q :=
  fun p l e R s m args below meth c D ad cA cells slots Qf C hE hQ H locs ls hP hS hl => lv_lmul C.1 C.2.1 hd (k p l e R s m args below meth c D ad cA cells slots Qf C hE hQ H locs ls hP hS hl)
theorem e_lcmp {x y : Int64} (hd : decode M.2.1 pc = .ok (.lcmp, 1)) (k : Wp M E (pc + 1) L (.int (lg_cmp x y) :: st) g Q) : Wp M E pc L (.long y :: .long x :: st) g Q :=
  fun p l e R s m args below meth c D ad cA cells slots Qf C hE hQ H locs ls hP hS hl => W.lcmp C.1 C.2.1 hd (k p l e R s m args below meth c D ad cA cells slots Qf C hE hQ H locs ls hP hS hl)
theorem e_ishl {x y : Int32} (hd : decode M.2.1 pc = .ok (.ishl, 1)) (k : Wp M E (pc + 1) L (.int (x <<< (y &&& 31)) :: st) g Q) : Wp M E pc L (.int y :: .int x :: st) g Q :=
  fun p l e R s m args below meth c D ad cA cells slots Qf C hE hQ H locs ls hP hS hl => lv_ishl C.1 C.2.1 hd (k p l e R s m args below meth c D ad cA cells slots Qf C hE hQ H locs ls hP hS hl)
theorem e_ishr {x y : Int32} (hd : decode M.2.1 pc = .ok (.ishr, 1)) (k : Wp M E (pc + 1) L (.int (x >>> (y &&& 31)) :: st) g Q) : Wp M E pc L (.int y :: .int x :: st) g Q :=
  fun p l e R s m args below meth c D ad cA cells slots Qf C hE hQ H locs ls hP hS hl => lv_ishr C.1 C.2.1 hd (k p l e R s m args below meth c D ad cA cells slots Qf C hE hQ H locs ls hP hS hl)
theorem e_iushr {x y : Int32} (hd : decode M.2.1 pc = .ok (.iushr, 1)) (k : Wp M E (pc + 1) L (.int (x.toUInt32 >>> (y.toUInt32 &&& Int32.toUInt32 31)).toInt32 :: st) g Q) : Wp M E pc L (.int y :: .int x :: st) g Q :=
  fun p l e R s m args below meth c D ad cA cells slots Qf C hE hQ H locs ls hP hS hl => lv_iushr C.1 C.2.1 hd rfl (k p l e R s m args below meth c D ad cA cells slots Qf C hE hQ H locs ls hP hS hl)
theorem e_i2l {x : Int32} (hd : decode M.2.1 pc = .ok (.i2l, 1)) (k : Wp M E (pc + 1) L (.long x.toInt64 :: st) g Q) : Wp M E pc L (.int x :: st) g Q :=
  fun p l e R s m args below meth c D ad cA cells slots Qf C hE hQ H locs ls hP hS hl => lv_i2l C.1 C.2.1 hd rfl (k p l e R s m args below meth c D ad cA cells slots Qf C hE hQ H locs ls hP hS hl)
theorem e_i2b {x : Int32} (hd : decode M.2.1 pc = .ok (.i2b, 1)) (k : Wp M E (pc + 1) L (.int x.toInt8.toInt32 :: st) g Q) : Wp M E pc L (.int x :: st) g Q :=
  fun p l e R s m args below meth c D ad cA cells slots Qf C hE hQ H locs ls hP hS hl => lv_i2b C.1 C.2.1 hd rfl (k p l e R s m args below meth c D ad cA cells slots Qf C hE hQ H locs ls hP hS hl)
theorem e_i2s {x : Int32} (hd : decode M.2.1 pc = .ok (.i2s, 1)) (k : Wp M E (pc + 1) L (.int x.toInt16.toInt32 :: st) g Q) : Wp M E pc L (.int x :: st) g Q :=
  fun p l e R s m args below meth c D ad cA cells slots Qf C hE hQ H locs ls hP hS hl => lv_i2s C.1 C.2.1 hd rfl (k p l e R s m args below meth c D ad cA cells slots Qf C hE hQ H locs ls hP hS hl)
theorem e_dup {v : Value} (hd : decode M.2.1 pc = .ok (.dup, 1)) (hv : v.category = 1) (k : Wp M E (pc + 1) L (v :: v :: st) g Q) : Wp M E pc L (v :: st) g Q :=
  fun p l e R s m args below meth c D ad cA cells slots Qf C hE hQ H locs ls hP hS hl => lv_dup C.1 C.2.1 hd (by rw [rv_cat]; exact hv) (k p l e R s m args below meth c D ad cA cells slots Qf C hE hQ H locs ls hP hS hl)
theorem e_pop {v : Value} (hd : decode M.2.1 pc = .ok (.pop, 1)) (hv : v.category = 1) (k : Wp M E (pc + 1) L st g Q) : Wp M E pc L (v :: st) g Q :=
  fun p l e R s m args below meth c D ad cA cells slots Qf C hE hQ H locs ls hP hS hl => lv_pop C.1 C.2.1 hd (by rw [rv_cat]; exact hv) (k p l e R s m args below meth c D ad cA cells slots Qf C hE hQ H locs ls hP hS hl)
theorem e_dup2 {v w : Value} (hd : decode M.2.1 pc = .ok (.dup2, 1)) (hv : v.category = 1) (hw : w.category = 1) (k : Wp M E (pc + 1) L (v :: w :: v :: w :: st) g Q) : Wp M E pc L (v :: w :: st) g Q :=
  fun p l e R s m args below meth c D ad cA cells slots Qf C hE hQ H locs ls hP hS hl => lv_dup2_11 C.1 C.2.1 hd (by rw [rv_cat]; exact hv) (by rw [rv_cat]; exact hw) (k p l e R s m args below meth c D ad cA cells slots Qf C hE hQ H locs ls hP hS hl)
theorem e_goto {off : Int} {tgt : Nat} (hd : decode M.2.1 pc = .ok (.goto off, 3)) (ht : (pc : Int) + off = (tgt : Int)) (k : Wp M E tgt L st g Q) : Wp M E pc L st g Q :=
  fun p l e R s m args below meth c D ad cA cells slots Qf C hE hQ H locs ls hP hS hl => lv_goto C.1 C.2.1 hd ht (k p l e R s m args below meth c D ad cA cells slots Qf C hE hQ H locs ls hP hS hl)
theorem e_if_eq {x : Int32} {off : Int} {tgt : Nat} (hd : decode M.2.1 pc = .ok (.ifCond .eq off, 3)) (ht : (pc : Int) + off = (tgt : Int)) (kt : x = 0 → Wp M E tgt L st g Q) (kf : ¬ x = 0 → Wp M E (pc + 3) L st g Q) : Wp M E pc L (.int x :: st) g Q :=
  fun p l e R s m args below meth c D ad cA cells slots Qf C hE hQ H locs ls hP hS hl => lv_if_eq C.1 C.2.1 hd ht (fun h => kt h p l e R s m args below meth c D ad cA cells slots Qf C hE hQ H locs ls hP hS hl) (fun h => kf h p l e R s m args below meth c D ad cA cells slots Qf C hE hQ H locs ls hP hS hl)
theorem e_icmp_eq {x y : Int32} {off : Int} {tgt : Nat} (hd : decode M.2.1 pc = .ok (.if_icmp .eq off, 3)) (ht : (pc : Int) + off = (tgt : Int)) (kt : x = y → Wp M E tgt L st g Q) (kf : ¬ x = y → Wp M E (pc + 3) L st g Q) : Wp M E pc L (.int y :: .int x :: st) g Q :=
  fun p l e R s m args below meth c D ad cA cells slots Qf C hE hQ H locs ls hP hS hl => lv_icmp_eq C.1 C.2.1 hd ht (fun h => kt h p l e R s m args below meth c D ad cA cells slots Qf C hE hQ H locs ls hP hS hl) (fun h => kf h p l e R s m args below meth c D ad cA cells slots Qf C hE hQ H locs ls hP hS hl)
theorem e_if_ne {x : Int32} {off : Int} {tgt : Nat} (hd : decode M.2.1 pc = .ok (.ifCond .ne off, 3)) (ht : (pc : Int) + off = (tgt : Int)) (kt : (¬ x = 0) → Wp M E tgt L st g Q) (kf : x = 0 → Wp M E (pc + 3) L st g Q) : Wp M E pc L (.int x :: st) g Q :=
  fun p l e R s m args below meth c D ad cA cells slots Qf C hE hQ H locs ls hP hS hl => lv_if_ne C.1 C.2.1 hd ht (fun h => kt h p l e R s m args below meth c D ad cA cells slots Qf C hE hQ H locs ls hP hS hl) (fun h => kf h p l e R s m args below meth c D ad cA cells slots Qf C hE hQ H locs ls hP hS hl)
theorem e_icmp_ne {x y : Int32} {off : Int} {tgt : Nat} (hd : decode M.2.1 pc = .ok (.if_icmp .ne off, 3)) (ht : (pc : Int) + off = (tgt : Int)) (kt : (¬ x = y) → Wp M E tgt L st g Q) (kf : x = y → Wp M E (pc + 3) L st g Q) : Wp M E pc L (.int y :: .int x :: st) g Q :=
  fun p l e R s m args below meth c D ad cA cells slots Qf C hE hQ H locs ls hP hS hl => lv_icmp_ne C.1 C.2.1 hd ht (fun h => kt h p l e R s m args below meth c D ad cA cells slots Qf C hE hQ H locs ls hP hS hl) (fun h => kf h p l e R s m args below meth c D ad cA cells slots Qf C hE hQ H locs ls hP hS hl)
theorem e_if_lt {x : Int32} {off : Int} {tgt : Nat} (hd : decode M.2.1 pc = .ok (.ifCond .lt off, 3)) (ht : (pc : Int) + off = (tgt : Int)) (kt : x < 0 → Wp M E tgt L st g Q) (kf : ¬ x < 0 → Wp M E (pc + 3) L st g Q) : Wp M E pc L (.int x :: st) g Q :=
  fun p l e R s m args below meth c D ad cA cells slots Qf C hE hQ H locs ls hP hS hl => lv_if_lt C.1 C.2.1 hd ht (fun h => kt h p l e R s m args below meth c D ad cA cells slots Qf C hE hQ H locs ls hP hS hl) (fun h => kf h p l e R s m args below meth c D ad cA cells slots Qf C hE hQ H locs ls hP hS hl)
theorem e_icmp_lt {x y : Int32} {off : Int} {tgt : Nat} (hd : decode M.2.1 pc = .ok (.if_icmp .lt off, 3)) (ht : (pc : Int) + off = (tgt : Int)) (kt : x < y → Wp M E tgt L st g Q) (kf : ¬ x < y → Wp M E (pc + 3) L st g Q) : Wp M E pc L (.int y :: .int x :: st) g Q :=
  fun p l e R s m args below meth c D ad cA cells slots Qf C hE hQ H locs ls hP hS hl => lv_icmp_lt C.1 C.2.1 hd ht (fun h => kt h p l e R s m args below meth c D ad cA cells slots Qf C hE hQ H locs ls hP hS hl) (fun h => kf h p l e R s m args below meth c D ad cA cells slots Qf C hE hQ H locs ls hP hS hl)
theorem e_if_ge {x : Int32} {off : Int} {tgt : Nat} (hd : decode M.2.1 pc = .ok (.ifCond .ge off, 3)) (ht : (pc : Int) + off = (tgt : Int)) (kt : 0 ≤ x → Wp M E tgt L st g Q) (kf : ¬ 0 ≤ x → Wp M E (pc + 3) L st g Q) : Wp M E pc L (.int x :: st) g Q :=
  fun p l e R s m args below meth c D ad cA cells slots Qf C hE hQ H locs ls hP hS hl => lv_if_ge C.1 C.2.1 hd ht (fun h => kt h p l e R s m args below meth c D ad cA cells slots Qf C hE hQ H locs ls hP hS hl) (fun h => kf h p l e R s m args below meth c D ad cA cells slots Qf C hE hQ H locs ls hP hS hl)
theorem e_icmp_ge {x y : Int32} {off : Int} {tgt : Nat} (hd : decode M.2.1 pc = .ok (.if_icmp .ge off, 3)) (ht : (pc : Int) + off = (tgt : Int)) (kt : y ≤ x → Wp M E tgt L st g Q) (kf : ¬ y ≤ x → Wp M E (pc + 3) L st g Q) : Wp M E pc L (.int y :: .int x :: st) g Q :=
  fun p l e R s m args below meth c D ad cA cells slots Qf C hE hQ H locs ls hP hS hl => lv_icmp_ge C.1 C.2.1 hd ht (fun h => kt h p l e R s m args below meth c D ad cA cells slots Qf C hE hQ H locs ls hP hS hl) (fun h => kf h p l e R s m args below meth c D ad cA cells slots Qf C hE hQ H locs ls hP hS hl)
theorem e_if_gt {x : Int32} {off : Int} {tgt : Nat} (hd : decode M.2.1 pc = .ok (.ifCond .gt off, 3)) (ht : (pc : Int) + off = (tgt : Int)) (kt : 0 < x → Wp M E tgt L st g Q) (kf : ¬ 0 < x → Wp M E (pc + 3) L st g Q) : Wp M E pc L (.int x :: st) g Q :=
  fun p l e R s m args below meth c D ad cA cells slots Qf C hE hQ H locs ls hP hS hl => lv_if_gt C.1 C.2.1 hd ht (fun h => kt h p l e R s m args below meth c D ad cA cells slots Qf C hE hQ H locs ls hP hS hl) (fun h => kf h p l e R s m args below meth c D ad cA cells slots Qf C hE hQ H locs ls hP hS hl)
theorem e_icmp_gt {x y : Int32} {off : Int} {tgt : Nat} (hd : decode M.2.1 pc = .ok (.if_icmp .gt off, 3)) (ht : (pc : Int) + off = (tgt : Int)) (kt : y < x → Wp M E tgt L st g Q) (kf : ¬ y < x → Wp M E (pc + 3) L st g Q) : Wp M E pc L (.int y :: .int x :: st) g Q :=
  fun p l e R s m args below meth c D ad cA cells slots Qf C hE hQ H locs ls hP hS hl => lv_icmp_gt C.1 C.2.1 hd ht (fun h => kt h p l e R s m args below meth c D ad cA cells slots Qf C hE hQ H locs ls hP hS hl) (fun h => kf h p l e R s m args below meth c D ad cA cells slots Qf C hE hQ H locs ls hP hS hl)
theorem e_if_le {x : Int32} {off : Int} {tgt : Nat} (hd : decode M.2.1 pc = .ok (.ifCond .le off, 3)) (ht : (pc : Int) + off = (tgt : Int)) (kt : x ≤ 0 → Wp M E tgt L st g Q) (kf : ¬ x ≤ 0 → Wp M E (pc + 3) L st g Q) : Wp M E pc L (.int x :: st) g Q :=
  fun p l e R s m args below meth c D ad cA cells slots Qf C hE hQ H locs ls hP hS hl => lv_if_le C.1 C.2.1 hd ht (fun h => kt h p l e R s m args below meth c D ad cA cells slots Qf C hE hQ H locs ls hP hS hl) (fun h => kf h p l e R s m args below meth c D ad cA cells slots Qf C hE hQ H locs ls hP hS hl)
theorem e_icmp_le {x y : Int32} {off : Int} {tgt : Nat} (hd : decode M.2.1 pc = .ok (.if_icmp .le off, 3)) (ht : (pc : Int) + off = (tgt : Int)) (kt : x ≤ y → Wp M E tgt L st g Q) (kf : ¬ x ≤ y → Wp M E (pc + 3) L st g Q) : Wp M E pc L (.int y :: .int x :: st) g Q :=
  fun p l e R s m args below meth c D ad cA cells slots Qf C hE hQ H locs ls hP hS hl => lv_icmp_le C.1 C.2.1 hd ht (fun h => kt h p l e R s m args below meth c D ad cA cells slots Qf C hE hQ H locs ls hP hS hl) (fun h => kf h p l e R s m args below meth c D ad cA cells slots Qf C hE hQ H locs ls hP hS hl)
theorem e_iret {x : Int32} {ty : FieldType} (hd : decode M.2.1 pc = .ok (.ireturn, 1)) (hr : M.2.2.2.1 = some ty) (hn : narrow ty (.int x) = .int x) (k : Q (some (.int x)) g) : Wp M E pc L [.int x] g Q :=
  fun p l e R s m args below meth c D ad cA cells slots Qf C hE hQ H locs ls hP hS hl => hQ _ _ k H locs pc ls hP hS ⟨hd, ty, hr, hn⟩
theorem e_lret {x : Int64} (hd : decode M.2.1 pc = .ok (.lreturn, 1)) (hr : M.2.2.2.1 = some .long) (k : Q (some (.long x)) g) : Wp M E pc L [.long x] g Q :=
  fun p l e R s m args below meth c D ad cA cells slots Qf C hE hQ H locs ls hP hS hl => hQ _ _ k H locs pc ls hP hS ⟨hd, hr⟩
theorem e_vret (hd : decode M.2.1 pc = .ok (.return_, 1)) (hr : M.2.2.2.1 = none) (k : Q none g) : Wp M E pc L [] g Q :=
  fun p l e R s m args below meth c D ad cA cells slots Qf C hE hQ H locs ls hP hS hl => hQ _ _ k H locs pc ls hP hS ⟨hd, hr⟩
/-- a field's link, and what the tables say of its class -/
def FL (own : String) (idx ci j : Nat) : Prop := ∃ (C : String) (T : u_T) (N : Nat), vwCl[ci]? = some (C, T, N) ∧ j < N ∧ (∀ w ∈ u_ws C T N, w ∈ gtbl) ∧ Cond.fieldLink own idx (T j).1 (T j).2.1 (T j).2.2.1 ∈ gtbl
/-- an int field that may be written -/
def FP (own : String) (idx ci j : Nat) : Prop := ∃ (C : String) (T : u_T) (N : Nat), vwCl[ci]? = some (C, T, N) ∧ j < N ∧ (∀ w ∈ u_ws C T N, w ∈ gtbl) ∧ Cond.fieldLink own idx (T j).1 (T j).2.1 (T j).2.2.1 ∈ gtbl ∧
  (∃ ty0 : Nat → FieldType, ∀ k, k < N → parseFieldDescriptor (T k).2.2.1 = some (ty0 k)) ∧ (∀ a, a < N → ∀ b, b < N → a ≠ b → (T a).2.1 ≠ (T b).2.1) ∧ (T j).2.2.2 = false ∧ parseFieldDescriptor (T j).2.2.1 = some .int
theorem e_getI {idx ci j a : Nat} {fs : List (Option Nat)} (hd : decode M.2.1 pc = .ok (.getfield idx, 3)) (hf : FL M.1.cls idx ci j) (hs : shape[a]? = some (.inr (ci, fs))) (hj : fs[j]? = some none) (k : Wp M E (pc + 3) L (.int (g a j) :: st) g Q) : Wp M E pc L (.ref a :: st) g Q := by
  intro p l e R s m args below meth c D ad cA cells slots Qf C hE hQ H locs ls hP hS hl
  obtain ⟨Cn, T, N, h1, h2, h3, h4⟩ := hf
  refine va_get (D := D) (ci := ci) (v := .int (g a j)) (C := Cn) (T := T) (N := N) C.1 C.2.1 C.2.2.2.2.2.2.1 h3 C.2.2.2.2.2.1 C.2.2.2.2.2.2.2.2.1 hP a (wl_at hs) h1 j h2 (C.2.2.2.2.2.2.1 _ h4) (fun _ h9 => h9) ?_ hd (k p l e R s m args below meth c D ad cA cells slots Qf C hE hQ H locs ls hP hS hl)
  simp [List.getElem?_mapIdx, hj, wfld]
theorem e_getR {idx ci j a r : Nat} {fs : List (Option Nat)} (hd : decode M.2.1 pc = .ok (.getfield idx, 3)) (hf : FL M.1.cls idx ci j) (hs : shape[a]? = some (.inr (ci, fs))) (hj : fs[j]? = some (some r)) (k : Wp M E (pc + 3) L (.ref r :: st) g Q) : Wp M E pc L (.ref a :: st) g Q := by
  intro p l e R s m args below meth c D ad cA cells slots Qf C hE hQ H locs ls hP hS hl
  obtain ⟨Cn, T, N, h1, h2, h3, h4⟩ := hf
  refine va_get (D := D) (ci := ci) (v := .ref (ad r)) (C := Cn) (T := T) (N := N) C.1 C.2.1 C.2.2.2.2.2.2.1 h3 C.2.2.2.2.2.1 C.2.2.2.2.2.2.2.2.1 hP a (wl_at hs) h1 j h2 (C.2.2.2.2.2.2.1 _ h4) (fun _ h9 => h9) ?_ hd (k p l e R s m args below meth c D ad cA cells slots Qf C hE hQ H locs ls hP hS hl)
  simp [List.getElem?_mapIdx, hj, wfld]
theorem e_putI {idx ci j a : Nat} {x : Int32} {fs : List (Option Nat)} (hd : decode M.2.1 pc = .ok (.putfield idx, 3)) (hf : FP M.1.cls idx ci j) (hs : shape[a]? = some (.inr (ci, fs))) (hj : fs[j]? = some none) (k : Wp M E (pc + 3) L st (sgU g a j x) Q) : Wp M E pc L (.int x :: .ref a :: st) g Q := by
  intro p l e R s m args below meth c D ad cA cells slots Qf C hE hQ H locs ls hP hS hl
  obtain ⟨Cn, T, N, h1, h2, h3, h4, ⟨ty0, h5⟩, h6, h7, h8⟩ := hf
  have hjl : j < fs.length := (List.getElem?_eq_some_iff.mp hj).1
  refine va_put (D := D) (ci := ci) (v := .int x) (ty := .int) (C := Cn) (T := T) (N := N) C.1 C.2.1 C.2.2.2.2.2.2.1 h3 ty0 h5 h6 C.2.2.2.2.2.1 C.2.2.2.2.2.2.2.2.1 hP (wl_D C.2.2.2.2.2.2.2.2.2.1) hS a (wl_at hs) h1 j h2 (C.2.2.2.2.2.2.1 _ h4) (fun _ h9 => h9) h7 h8 rfl rfl (by rw [List.length_mapIdx]; exact hjl) hd (fun H locs hP hD hS => ?_)
  have e1 : (wl ad cA g).set a (ad a, .inr (ci, (fs.mapIdx (fun j o => wfld ad g a j o)).set j (.int x))) = wl ad cA (sgU g a j x) := by
    refine wl_set hs ?_ (fun i hi => by simp [sgU, hi])
    simp only [wcell, Sum.inr.injEq, Prod.mk.injEq, true_and]
    apply List.ext_getElem?
    intro i
    rw [List.getElem?_set, List.getElem?_mapIdx, List.getElem?_mapIdx, List.length_mapIdx]
    by_cases hi : j = i
    · subst hi
      rw [hj]
      simp [hjl, wfld, sgU, upd]
    · rw [if_neg hi]
      have : (fun o => wfld ad (sgU g a j x) a i o) = (fun o => wfld ad g a i o) := by
        funext o
        cases o <;> simp [wfld, sgU, upd, Ne.symm hi]
      rw [this]
  exact k p l e R s m args below meth c D ad cA cells slots Qf C hE hQ H locs ls (by rw [← e1]; exact hP) hS hl
theorem e_iald {a n : Nat} {i : Int32} (hd : decode M.2.1 pc = .ok (.iaload, 1)) (hs : shape[a]? = some (.inl n)) (hi : vp_in i n) (k : Wp M E (pc + 1) L (.int (g a i.toNatClampNeg) :: st) g Q) : Wp M E pc L (.int i :: .ref a :: st) g Q :=
  fun p l e R s m args below meth c D ad cA cells slots Qf C hE hQ H locs ls hP hS hl => va_iald C.1 C.2.1 C.2.2.2.2.2.2.2.2.1 hP a 0 (wl_at hs) rfl hi hd (k p l e R s m args below meth c D ad cA cells slots Qf C hE hQ H locs ls hP hS hl)
theorem e_iast {a n : Nat} {i x : Int32} (hd : decode M.2.1 pc = .ok (.iastore, 1)) (hs : shape[a]? = some (.inl n)) (hi : vp_in i n) (k : Wp M E (pc + 1) L st (sgU g a i.toNatClampNeg x) Q) : Wp M E pc L (.int x :: .int i :: .ref a :: st) g Q := by
  intro p l e R s m args below meth c D ad cA cells slots Qf C hE hQ H locs ls hP hS hl
  refine va_iast C.1 C.2.1 C.2.2.2.2.2.2.2.2.1 hP (wl_D C.2.2.2.2.2.2.2.2.2.1) hS a 0 (wl_at hs) rfl hi hd (fun H locs hP hD hS => ?_)
  have e1 : (wl ad cA g).set a (ad a, .inl (cA, n, .inl (upd (g a) i.toNatClampNeg x))) = wl ad cA (sgU g a i.toNatClampNeg x) :=
    wl_set hs (by simp [wcell, sgU]) (fun i hi => by simp [sgU, hi])
  exact k p l e R s m args below meth c D ad cA cells slots Qf C hE hQ H locs ls (by rw [← e1]; exact hP) hS hl
theorem e_alen {a n : Nat} (hd : decode M.2.1 pc = .ok (.arraylength, 1)) (hs : shape[a]? = some (.inl n)) (k : Wp M E (pc + 1) L (.int (Int32.ofNat n) :: st) g Q) : Wp M E pc L (.ref a :: st) g Q :=
  fun p l e R s m args below meth c D ad cA cells slots Qf C hE hQ H locs ls hP hS hl => va_alen C.1 C.2.1 C.2.2.2.2.2.2.2.2.1 hP a 0 (wl_at hs) rfl rfl hd (k p l e R s m args below meth c D ad cA cells slots Qf C hE hQ H locs ls hP hS hl)
theorem e_tbl {dflt lo hi : Int} {offs : Array Int} {len : Nat} {x : Int32} (hd : decode M.2.1 pc = .ok (.tableswitch dflt lo hi offs, len)) (tg : Int → Nat) (td : Nat) (htd : (pc : Int) + dflt = (td : Int)) (htg : ∀ i, i < offs.size → (pc : Int) + offs.getD i 0 = (tg (lo + i) : Int)) (hsz : lo + offs.size = hi + 1)
    (kd : (x.toInt < lo ∨ hi < x.toInt) → Wp M E td L st g Q) (kt : lo ≤ x.toInt → x.toInt ≤ hi → Wp M E (tg x.toInt) L st g Q) : Wp M E pc L (.int x :: st) g Q := by
  intro p l e R s m args below meth c D ad cA cells slots Qf C hE hQ H locs ls hP hS hl
  by_cases h : x.toInt < lo ∨ hi < x.toInt
  · exact lv_tableOut C.1 C.2.1 hd h htd (kd h p l e R s m args below meth c D ad cA cells slots Qf C hE hQ H locs ls hP hS hl)
  · have h1 : lo ≤ x.toInt := by omega
    have h2 : x.toInt ≤ hi := by omega
    have hlt : (x.toInt - lo).toNat < offs.size := by omega
    have e1 := htg (x.toInt - lo).toNat hlt
    have e2 : lo + ((x.toInt - lo).toNat : Int) = x.toInt := by omega
    rw [e2] at e1
    exact lv_tableIn C.1 C.2.1 hd (by omega) (by omega) (off := offs.getD (x.toInt - lo).toNat 0) (by simp [hlt]) e1 (kt h1 h2 p l e R s m args below meth c D ad cA cells slots Qf C hE hQ H locs ls hP hS hl)
/-- behind a call -/
theorem run_k {p : Program} {l : Launch} {e : Env} {R : Room} {s : State} {m : MethodId} {args : Array Value} {below : List Frame} {meth : Method} {c : Code} {H : Heap} {locs : List Loc} {cells slots : Nat} {Qf : State → Prop} {ls : Array Slot} {st0 rest : List Value} {D : va_G} {ad : Nat → Nat} {cA : ClassId} {Q1 : Option Value → Sg → Prop}
    (hr : va_Run p l e R s m args below meth c H locs cells slots 0 0 (F0 m pc ls st0) rest (fun st oc t => (∃ v g', oc = .returned (v.map (rv ad)) ∧ Q1 v g' ∧ va_P D vwCl (wl ad cA g') t.heap) ∧ va_F (wA ad) st t) (wA ad)) (hS : va_S (wA ad) s.heap H locs)
    (kk : ∀ v g' H1 locs1, Q1 v g' → va_P D vwCl (wl ad cA g') H1 → va_S (wA ad) s.heap H1 locs1 → W p l e R s m args below meth c H1 locs1 cells slots Qf (F0 m (pc + 3) ls ((v.map (rv ad)).toList ++ rest))) : W p l e R s m args below meth c H locs cells slots Qf (F0 m pc ls st0) := by
  intro T hT X
  obtain ⟨v, st₀, t, T', L, h0, X', hL, e1, e2, ⟨⟨v', g', hv, hq, hp⟩, hz, hk⟩, st⟩ := hr T hT X
  cases hv
  rw [h0] at hz hk
  obtain ⟨t2, a1, b1⟩ := kk v' g' T'.heap (locs ++ L) hq (by rw [e1]; exact hp)
    ⟨Nat.le_trans hS.1 (by rw [e1]; exact hz), fun q h1 h2 => by rw [e1, hk q (Nat.lt_of_lt_of_le h1 hS.1) h2]; exact hS.2.1 q h1 h2, fun q hq => by
      rcases List.mem_append.mp hq with h | h
      · exact hS.2.2 q h
      · exact hL q h⟩ T' rfl X'
  exact ⟨t2, st t2 a1, b1⟩
end Ev
end
section
/-! calls -/
theorem gtbl_good : ∀ w ∈ gtbl, (w.onTables && w.keeps) = true ∨ ∃ ty, w = .arrayClass ty := fun w h => good_of_word (List.mem_filter.mp h).2
theorem gtbl_in {y : MethodName} {cc : ByteArray} {n : Nat} {ret : Option FieldType} (h : Cond.code y cc n ret ∈ gtbl) : GoodIn gtbl (Cond.code y cc n ret :: gtbl) := fun w hw => by
  rcases List.mem_cons.mp hw with rfl | h2
  · exact ⟨h, gtbl_good _ h⟩
  · exact ⟨h2, gtbl_good _ h2⟩
def CK (M M' : MI) (n : Nat) : Prop := Cond.initialized M'.1.cls ∈ gtbl ∧ Cond.code M'.1 M'.2.1 M'.2.2.1 M'.2.2.2.1 ∈ gtbl ∧ (M'.1.cls ≠ "java/lang/invoke/MethodHandle" ∧ M'.1.cls ≠ "java/lang/invoke/VarHandle" ∧ (parseMethodDescriptor M'.1.desc).map (fun d => d.parameters.length) = some n) ∧ M'.2.2.2.2.1 + 1 ≤ M.2.2.2.2.1 ∧ 8 + (M'.2.2.1 + 11) + M'.2.2.2.2.2 ≤ M.2.2.2.2.2
def SL (M M' : MI) (idx n : Nat) : Prop := Cond.methodLink M.1.cls idx M'.1 ∈ gtbl ∧ Cond.static M'.1 ∈ gtbl ∧ CK M M' n
def SN (M M' : MI) (idx n : Nat) : Prop := (∃ host, Cond.methodLinkNest M.1.cls idx M'.1 host ∈ lw_tbl) ∧ Cond.static M'.1 ∈ gtbl ∧ CK M M' n
def VL (M M' : MI) (idx n ci : Nat) : Prop := Cond.methodLink M.1.cls idx M'.1 ∈ gtbl ∧ Cond.instanceMethod M'.1 ∈ gtbl ∧ Cond.selects M'.1.cls M'.1 M'.1 ∈ gtbl ∧ (∃ T N, vwCl[ci]? = some (M'.1.cls, T, N)) ∧ CK M M' n
theorem nst_moved {s U : State} (h : nst s) (hW : s.WarmedH U.vm) : nst U := fun own i y host hm => va_Nw.warmM hW (h own i y host hm)
theorem cl_blind {D : va_G} {ad : Nat → Nat} {cA : ClassId} {g : Sg} {as : List Value} : FrameBlind (fun v U => v = (as.map (rv ad)).toArray ∧ va_P D vwCl (wl ad cA g) U.heap ∧ va_K D vwCl [(cA, .int)] U ∧ nst U) := by
  intro a U gg mk q
  obtain ⟨q0, q1, q2, q3⟩ := q
  exact ⟨q0, q1, va_K.moved (u := U) (U := U.calling gg mk a) (Vm.Alike.refl U.vm) q2, fun own i y host hm => va_Nw.same rfl (show U.vm = (U.calling gg mk a).vm from rfl) (q3 own i y host hm)⟩
theorem cat_sum (ad : Nat → Nat) (rest : List Value) : ((rest.map (rv ad)).map fun v => v.category).sum = (rest.map fun v => v.category).sum := by
  rw [List.map_map]
  congr 1
  apply List.map_congr_left
  intro v _
  exact rv_cat ad v
section Ev2
variable {M M' : MI} {E : State → (Nat → Nat) → Prop} {pc : Nat} {L : Ls} {st rest : List Value} {g : Sg} {Q Q1 : Option Value → Sg → Prop} {idx n : Nat}
theorem e_callS (as : List Value) (hd : decode M.2.1 pc = .ok (.invokestatic idx, 3)) (hk : SL M M' idx n) (hn : as.length = n) (hst : st = as.reverse ++ rest) (hr : (rest.map fun v => v.category).sum ≤ 8) (hC : Cl M' as g Q1) (k : ∀ v g', Q1 v g' → Wp M E (pc + 3) L (v.toList ++ rest) g' Q) : Wp M E pc L st g Q := by
  intro p l e R s m args below meth c D ad cA cells slots Qf C hE hQ H locs ls hP hS hl
  obtain ⟨hx, hb, hml, hrt, hlk, hown, hts, hN, hK, hI, hF, hLo, hce, hsl⟩ := id C
  obtain ⟨k1, k2, k3, k4, k5, k6, k7⟩ := hk
  subst hst
  have hstk : (as.reverse ++ rest).map (rv ad) = (as.map (rv ad)).reverse ++ rest.map (rv ad) := by rw [List.map_append, List.map_reverse]
  rw [hstk]
  refine run_k (Q1 := Q1) (rest := rest.map (rv ad)) (va_runS (As := as.map (rv ad)) (Ts := gtbl) ⟨hx, hb, hml, hown, hts⟩ (hC l D ad cA hI) ⟨callB_of n hts (gtbl_in k4) rfl rfl rfl (hts _ k3) (hts _ k1) k5 ⟨Nat.le_trans k6 hF, Nat.le_trans k7 hLo⟩, hts _ k2⟩
    ⟨cl_blind, fun U hU hW => ⟨rfl, by rw [hU]; exact hP, va_K.moved hW.alike hK, nst_moved hN hW⟩⟩ rfl (by rw [List.length_map]; exact hn) hl.1 rfl (lv_room (by rw [cat_sum]; exact hr)) hd ⟨hce, hsl⟩) hS (fun v g' H1 locs1 hq hP1 hS1 => ?_)
  have := k v g' hq p l e R s m args below meth c D ad cA cells slots Qf C hE hQ H1 locs1 ls hP1 hS1 hl
  rw [List.map_append, ← Option.toList_map] at this
  exact this
theorem e_callSN (as : List Value) (hd : decode M.2.1 pc = .ok (.invokestatic idx, 3)) (hk : SN M M' idx n) (hn : as.length = n) (hst : st = as.reverse ++ rest) (hr : (rest.map fun v => v.category).sum ≤ 8) (hC : Cl M' as g Q1) (k : ∀ v g', Q1 v g' → Wp M E (pc + 3) L (v.toList ++ rest) g' Q) : Wp M E pc L st g Q := by
  intro p l e R s m args below meth c D ad cA cells slots Qf C hE hQ H locs ls hP hS hl
  obtain ⟨hx, hb, hml, hrt, hlk, hown, hts, hN, hK, hI, hF, hLo, hce, hsl⟩ := id C
  obtain ⟨⟨host, k1⟩, k2, k3, k4, k5, k6, k7⟩ := hk
  subst hst
  have hstk : (as.reverse ++ rest).map (rv ad) = (as.map (rv ad)).reverse ++ rest.map (rv ad) := by rw [List.map_append, List.map_reverse]
  rw [hstk]
  refine run_k (Q1 := Q1) (rest := rest.map (rv ad)) (va_runSN (As := as.map (rv ad)) (Ts := gtbl) ⟨hx, hb, hml, hown, hts⟩ (hC l D ad cA hI) ⟨va_cnB n hts (gtbl_in k4) rfl rfl rfl (hN _ _ _ _ k1) (hts _ k3) k5 ⟨Nat.le_trans k6 hF, Nat.le_trans k7 hLo⟩, hts _ k2, trivial⟩
    ⟨cl_blind, fun U hU hW => ⟨rfl, by rw [hU]; exact hP, va_K.moved hW.alike hK, nst_moved hN hW⟩⟩ rfl (by rw [List.length_map]; exact hn) hl.1 rfl (lv_room (by rw [cat_sum]; exact hr)) hd ⟨hce, hsl⟩) hS (fun v g' H1 locs1 hq hP1 hS1 => ?_)
  have := k v g' hq p l e R s m args below meth c D ad cA cells slots Qf C hE hQ H1 locs1 ls hP1 hS1 hl
  rw [List.map_append, ← Option.toList_map] at this
  exact this
theorem e_callV {a ci : Nat} {fs : List (Option Nat)} (as : List Value) (hd : decode M.2.1 pc = .ok (.invokevirtual idx, 3)) (hk : VL M M' idx n ci) (hs : shape[a]? = some (.inr (ci, fs))) (hn : as.length = n) (hst : st = as.reverse ++ .ref a :: rest) (hr : (rest.map fun v => v.category).sum ≤ 8) (hC : Cl M' (.ref a :: as) g Q1) (k : ∀ v g', Q1 v g' → Wp M E (pc + 3) L (v.toList ++ rest) g' Q) : Wp M E pc L st g Q := by
  intro p l e R s m args below meth c D ad cA cells slots Qf C hE hQ H locs ls hP hS hl
  obtain ⟨hx, hb, hml, hrt, hlk, hown, hts, hN, hK, hI, hF, hLo, hce, hsl⟩ := id C
  obtain ⟨k1, k2, k2s, ⟨T, N, k8⟩, k3, k4, k5, k6, k7⟩ := hk
  subst hst
  have hstk : (as.reverse ++ .ref a :: rest).map (rv ad) = (as.map (rv ad)).reverse ++ .ref (ad a) :: rest.map (rv ad) := by rw [List.map_append, List.map_reverse]; rfl
  rw [hstk]
  refine run_k (Q1 := Q1) (rest := rest.map (rv ad)) (va_runV (C := M'.1.cls) (As := as.map (rv ad)) (Ts := gtbl) ⟨hx, hb, hml, hown, hts⟩ (hC l D ad cA hI) ⟨callB_of n hts (gtbl_in k4) rfl rfl rfl (hts _ k3) (hts _ k1) k5 ⟨Nat.le_trans k6 hF, Nat.le_trans k7 hLo⟩, hts _ k2, hts _ k2s⟩
    ⟨cl_blind, va_recv hK hP k8 (wl_at hs), fun U hU hW => ⟨rfl, by rw [hU]; exact hP, va_K.moved hW.alike hK, nst_moved hN hW⟩⟩ rfl (by rw [List.length_map]; exact hn) hl.1 rfl (lv_room (by rw [cat_sum]; exact hr)) hd ⟨hce, hsl⟩) hS (fun v g' H1 locs1 hq hP1 hS1 => ?_)
  have := k v g' hq p l e R s m args below meth c D ad cA cells slots Qf C hE hQ H1 locs1 ls hP1 hS1 hl
  rw [List.map_append, ← Option.toList_map] at this
  exact this
end Ev2
/-! calls by what they answer -/
def Ci (M : MI) (as : List Value) (g : Sg) (Q : Int32 → Sg → Prop) : Prop := Cl M as g (fun v g' => ∃ x, v = some (.int x) ∧ Q x g')
def Cj (M : MI) (as : List Value) (g : Sg) (Q : Int64 → Sg → Prop) : Prop := Cl M as g (fun v g' => ∃ x, v = some (.long x) ∧ Q x g')
def Cv (M : MI) (as : List Value) (g : Sg) (Q : Sg → Prop) : Prop := Cl M as g (fun v g' => v = none ∧ Q g')
/-- a point in a method by what the method answers -/
def Hi (M : MI) (pc : Nat) (L : Ls) (st : List Value) (g : Sg) (Q : Int32 → Sg → Prop) : Prop := Wp M (fun _ _ => True) pc L st g (fun v g' => ∃ x, v = some (.int x) ∧ Q x g')
def Hj (M : MI) (pc : Nat) (L : Ls) (st : List Value) (g : Sg) (Q : Int64 → Sg → Prop) : Prop := Wp M (fun _ _ => True) pc L st g (fun v g' => ∃ x, v = some (.long x) ∧ Q x g')
def Hv (M : MI) (pc : Nat) (L : Ls) (st : List Value) (g : Sg) (Q : Sg → Prop) : Prop := Wp M (fun _ _ => True) pc L st g (fun v g' => v = none ∧ Q g')
section Ev3
variable {M M' : MI} {E : State → (Nat → Nat) → Prop} {pc : Nat} {L : Ls} {st rest : List Value} {g : Sg} {Q : Option Value → Sg → Prop} {idx n : Nat}
theorem e_callSi {Q1 : Int32 → Sg → Prop} (as : List Value) (hd : decode M.2.1 pc = .ok (.invokestatic idx, 3)) (hk : SL M M' idx n) (hn : as.length = n) (hst : st = as.reverse ++ rest) (hr : (rest.map fun v => v.category).sum ≤ 8) (hC : Ci M' as g Q1) (k : ∀ x g', Q1 x g' → Wp M E (pc + 3) L (.int x :: rest) g' Q) : Wp M E pc L st g Q :=
  e_callS as hd hk hn hst hr hC (fun v g' h => by obtain ⟨x, rfl, hx⟩ := h; exact k x g' hx)
theorem e_callSv {Q1 : Sg → Prop} (as : List Value) (hd : decode M.2.1 pc = .ok (.invokestatic idx, 3)) (hk : SL M M' idx n) (hn : as.length = n) (hst : st = as.reverse ++ rest) (hr : (rest.map fun v => v.category).sum ≤ 8) (hC : Cv M' as g Q1) (k : ∀ g', Q1 g' → Wp M E (pc + 3) L rest g' Q) : Wp M E pc L st g Q :=
  e_callS as hd hk hn hst hr hC (fun v g' h => by obtain ⟨rfl, hx⟩ := h; exact k g' hx)
theorem e_callSj {Q1 : Int64 → Sg → Prop} (as : List Value) (hd : decode M.2.1 pc = .ok (.invokestatic idx, 3)) (hk : SL M M' idx n) (hn : as.length = n) (hst : st = as.reverse ++ rest) (hr : (rest.map fun v => v.category).sum ≤ 8) (hC : Cj M' as g Q1) (k : ∀ x g', Q1 x g' → Wp M E (pc + 3) L (.long x :: rest) g' Q) : Wp M E pc L st g Q :=
  e_callS as hd hk hn hst hr hC (fun v g' h => by obtain ⟨x, rfl, hx⟩ := h; exact k x g' hx)
theorem e_callSNi {Q1 : Int32 → Sg → Prop} (as : List Value) (hd : decode M.2.1 pc = .ok (.invokestatic idx, 3)) (hk : SN M M' idx n) (hn : as.length = n) (hst : st = as.reverse ++ rest) (hr : (rest.map fun v => v.category).sum ≤ 8) (hC : Ci M' as g Q1) (k : ∀ x g', Q1 x g' → Wp M E (pc + 3) L (.int x :: rest) g' Q) : Wp M E pc L st g Q :=
  e_callSN as hd hk hn hst hr hC (fun v g' h => by obtain ⟨x, rfl, hx⟩ := h; exact k x g' hx)
theorem e_callVi {Q1 : Int32 → Sg → Prop} {a ci : Nat} {fs : List (Option Nat)} (as : List Value) (hd : decode M.2.1 pc = .ok (.invokevirtual idx, 3)) (hk : VL M M' idx n ci) (hs : shape[a]? = some (.inr (ci, fs))) (hn : as.length = n) (hst : st = as.reverse ++ .ref a :: rest) (hr : (rest.map fun v => v.category).sum ≤ 8) (hC : Ci M' (.ref a :: as) g Q1) (k : ∀ x g', Q1 x g' → Wp M E (pc + 3) L (.int x :: rest) g' Q) : Wp M E pc L st g Q :=
  e_callV as hd hk hs hn hst hr hC (fun v g' h => by obtain ⟨x, rfl, hx⟩ := h; exact k x g' hx)
theorem e_callVv {Q1 : Sg → Prop} {a ci : Nat} {fs : List (Option Nat)} (as : List Value) (hd : decode M.2.1 pc = .ok (.invokevirtual idx, 3)) (hk : VL M M' idx n ci) (hs : shape[a]? = some (.inr (ci, fs))) (hn : as.length = n) (hst : st = as.reverse ++ .ref a :: rest) (hr : (rest.map fun v => v.category).sum ≤ 8) (hC : Cv M' (.ref a :: as) g Q1) (k : ∀ g', Q1 g' → Wp M E (pc + 3) L rest g' Q) : Wp M E pc L st g Q :=
  e_callV as hd hk hs hn hst hr hC (fun v g' h => by obtain ⟨rfl, hx⟩ := h; exact k g' hx)
theorem e_callVj {Q1 : Int64 → Sg → Prop} {a ci : Nat} {fs : List (Option Nat)} (as : List Value) (hd : decode M.2.1 pc = .ok (.invokevirtual idx, 3)) (hk : VL M M' idx n ci) (hs : shape[a]? = some (.inr (ci, fs))) (hn : as.length = n) (hst : st = as.reverse ++ .ref a :: rest) (hr : (rest.map fun v => v.category).sum ≤ 8) (hC : Cj M' (.ref a :: as) g Q1) (k : ∀ x g', Q1 x g' → Wp M E (pc + 3) L (.long x :: rest) g' Q) : Wp M E pc L st g Q :=
  e_callV as hd hk hs hn hst hr hC (fun v g' h => by obtain ⟨x, rfl, hx⟩ := h; exact k x g' hx)
/-- System.arraycopy among the rows of the world -/
theorem e_copy {a0 a n0 n1 : Nat} {sp dp x : Int32} (hd : decode M.2.1 pc = .ok (.invokestatic idx, 3)) (hk : Cond.methodLink M.1.cls idx arraycopyName ∈ gtbl ∧ Cond.native arraycopyName ∈ gtbl ∧ Cond.static arraycopyName ∈ gtbl ∧ Cond.initialized "java/lang/System" ∈ gtbl) (hs0 : shape[a0]? = some (.inl n0)) (hs : shape[a]? = some (.inl n1))
    (h1 : ¬ sp < 0) (h2 : ¬ dp < 0) (h3 : ¬ x < 0) (h4 : sp.toNatClampNeg + x.toNatClampNeg ≤ n0) (h5 : dp.toNatClampNeg + x.toNatClampNeg ≤ n1) (hfr : 1 ≤ M.2.2.2.2.1) (hlo : (rest.map fun v => v.category).sum + (nativeFrameWords "java/lang/System" "arraycopy" 5 + 11) ≤ M.2.2.2.2.2)
    (k : Wp M E (pc + 3) L rest (sgC g a (va_cpy (g a0) (g a) sp.toNatClampNeg dp.toNatClampNeg x.toNatClampNeg)) Q) : Wp M E pc L (.int x :: .int dp :: .ref a :: .int sp :: .ref a0 :: rest) g Q := by
  intro p l e R s m args below meth c D ad cA cells slots Qf C hE hQ H locs ls hP hS hl
  obtain ⟨hx, hb, hml, hrt, hlk, hown, hts, hN, hK, hI, hF, hLo, hce, hsl⟩ := id C
  refine va_copyi hx hb (hml.trans hl.1.symm) hown (hts _ hk.1) (hts _ hk.2.1) (hts _ hk.2.2.1) (hts _ hk.2.2.2) hK hP (wl_D hI) hS a0 a 0 0 (wl_at hs0) (wl_at hs) rfl rfl rfl h1 h2 h3 h4 h5 (fun i _ => rfl) (Nat.le_trans hfr hF) (Nat.le_trans (by rw [cat_sum]; exact hlo) hLo) hd (fun H locs hP hD hS => ?_)
  have e1 : (wl ad cA g).set a (ad a, .inl (cA, n1, .inl (va_cpy (g a0) (g a) sp.toNatClampNeg dp.toNatClampNeg x.toNatClampNeg))) = wl ad cA (sgC g a (va_cpy (g a0) (g a) sp.toNatClampNeg dp.toNatClampNeg x.toNatClampNeg)) :=
    wl_set hs (by simp [wcell, sgC]) (fun i hi => by simp [sgC, hi])
  exact k p l e R s m args below meth c D ad cA cells slots Qf C hE hQ H locs ls (by rw [← e1]; exact hP) hS hl
end Ev3
end
