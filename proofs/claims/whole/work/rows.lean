section
-- ===== PART A: goes FIRST, ahead of the names: the tables' words, and 'selects' of the private methods out of them =====
/-- a private method of a class that the tables say can be made, by its rows of tables_1 -/
def lw_okq (q : MethodName × Nat) : Prop := (q.1.cls ≠ "java/lang/invoke/MethodHandle" ∧ q.1.cls ≠ "java/lang/invoke/VarHandle") ∧ Cond.instantiable q.1.cls q.2 ∈ tables_1 ∧ Cond.privateMethod q.1 ∈ tables_1 ∧ Cond.instanceMethod q.1 ∈ tables_1
theorem lw_p0 : lw_okq (⟨"FerretCables$Pipes", "fits", "(I)Z"⟩, 11) := ⟨⟨by decide +kernel, by decide +kernel⟩, List.mem_of_getElem? (i := 24) (by decide +kernel), List.mem_of_getElem? (i := 308) (by decide +kernel), List.mem_of_getElem? (i := 309) (by decide +kernel)⟩
theorem lw_p1 : lw_okq (⟨"FerretCables$Pipes", "takeUp", "(I)V"⟩, 11) := ⟨⟨by decide +kernel, by decide +kernel⟩, List.mem_of_getElem? (i := 24) (by decide +kernel), List.mem_of_getElem? (i := 313) (by decide +kernel), List.mem_of_getElem? (i := 314) (by decide +kernel)⟩
theorem lw_p2 : lw_okq (⟨"FerretCables$Pipes", "settle", "()V"⟩, 11) := ⟨⟨by decide +kernel, by decide +kernel⟩, List.mem_of_getElem? (i := 24) (by decide +kernel), List.mem_of_getElem? (i := 317) (by decide +kernel), List.mem_of_getElem? (i := 318) (by decide +kernel)⟩
theorem lw_p3 : lw_okq (⟨"FerretCables$Book", "afterPull", "(II)I"⟩, 7) := ⟨⟨by decide +kernel, by decide +kernel⟩, List.mem_of_getElem? (i := 117) (by decide +kernel), List.mem_of_getElem? (i := 325) (by decide +kernel), List.mem_of_getElem? (i := 326) (by decide +kernel)⟩
theorem lw_p4 : lw_okq (⟨"FerretCables$Book", "afterLetIn", "(I)I"⟩, 7) := ⟨⟨by decide +kernel, by decide +kernel⟩, List.mem_of_getElem? (i := 117) (by decide +kernel), List.mem_of_getElem? (i := 335) (by decide +kernel), List.mem_of_getElem? (i := 336) (by decide +kernel)⟩
theorem lw_p5 : lw_okq (⟨"FerretCables$Book", "fillLoad", "(I)V"⟩, 7) := ⟨⟨by decide +kernel, by decide +kernel⟩, List.mem_of_getElem? (i := 117) (by decide +kernel), List.mem_of_getElem? (i := 339) (by decide +kernel), List.mem_of_getElem? (i := 340) (by decide +kernel)⟩
theorem lw_p6 : lw_okq (⟨"FerretCables$Ways", "measure", "(I)V"⟩, 5) := ⟨⟨by decide +kernel, by decide +kernel⟩, List.mem_of_getElem? (i := 89) (by decide +kernel), List.mem_of_getElem? (i := 352) (by decide +kernel), List.mem_of_getElem? (i := 353) (by decide +kernel)⟩
theorem lw_p7 : lw_okq (⟨"FerretCables$Ways", "shorten", "(I)Z"⟩, 5) := ⟨⟨by decide +kernel, by decide +kernel⟩, List.mem_of_getElem? (i := 89) (by decide +kernel), List.mem_of_getElem? (i := 361) (by decide +kernel), List.mem_of_getElem? (i := 362) (by decide +kernel)⟩
theorem lw_p8 : lw_okq (⟨"FerretCables$Ways", "leastOnward", "(I)I"⟩, 5) := ⟨⟨by decide +kernel, by decide +kernel⟩, List.mem_of_getElem? (i := 89) (by decide +kernel), List.mem_of_getElem? (i := 365) (by decide +kernel), List.mem_of_getElem? (i := 366) (by decide +kernel)⟩
theorem lw_p9 : lw_okq (⟨"FerretCables", "setShut", "(I)I"⟩, 9) := ⟨⟨by decide +kernel, by decide +kernel⟩, List.mem_of_getElem? (i := 16) (by decide +kernel), List.mem_of_getElem? (i := 426) (by decide +kernel), List.mem_of_getElem? (i := 427) (by decide +kernel)⟩
theorem lw_p10 : lw_okq (⟨"FerretCables", "setTakes", "(I)I"⟩, 9) := ⟨⟨by decide +kernel, by decide +kernel⟩, List.mem_of_getElem? (i := 16) (by decide +kernel), List.mem_of_getElem? (i := 430) (by decide +kernel), List.mem_of_getElem? (i := 431) (by decide +kernel)⟩
theorem lw_p11 : lw_okq (⟨"FerretCables", "setHard", "(I)I"⟩, 9) := ⟨⟨by decide +kernel, by decide +kernel⟩, List.mem_of_getElem? (i := 16) (by decide +kernel), List.mem_of_getElem? (i := 434) (by decide +kernel), List.mem_of_getElem? (i := 435) (by decide +kernel)⟩
theorem lw_p12 : lw_okq (⟨"FerretCables$Book", "isDone", "(I)Z"⟩, 7) := ⟨⟨by decide +kernel, by decide +kernel⟩, List.mem_of_getElem? (i := 117) (by decide +kernel), List.mem_of_getElem? (i := 497) (by decide +kernel), List.mem_of_getElem? (i := 498) (by decide +kernel)⟩
theorem lw_p13 : lw_okq (⟨"FerretCables", "isBehind", "(I)Z"⟩, 9) := ⟨⟨by decide +kernel, by decide +kernel⟩, List.mem_of_getElem? (i := 16) (by decide +kernel), List.mem_of_getElem? (i := 505) (by decide +kernel), List.mem_of_getElem? (i := 506) (by decide +kernel)⟩
theorem lw_p14 : lw_okq (⟨"FerretCables", "findWay", "(II)Z"⟩, 9) := ⟨⟨by decide +kernel, by decide +kernel⟩, List.mem_of_getElem? (i := 16) (by decide +kernel), List.mem_of_getElem? (i := 533) (by decide +kernel), List.mem_of_getElem? (i := 534) (by decide +kernel)⟩
theorem lw_p15 : lw_okq (⟨"FerretCables$Ways", "roomInRow", "()I"⟩, 5) := ⟨⟨by decide +kernel, by decide +kernel⟩, List.mem_of_getElem? (i := 89) (by decide +kernel), List.mem_of_getElem? (i := 555) (by decide +kernel), List.mem_of_getElem? (i := 556) (by decide +kernel)⟩
def lw_privs_1 : List (MethodName × Nat) := [(⟨"FerretCables$Pipes", "fits", "(I)Z"⟩, 11), (⟨"FerretCables$Pipes", "takeUp", "(I)V"⟩, 11), (⟨"FerretCables$Pipes", "settle", "()V"⟩, 11), (⟨"FerretCables$Book", "afterPull", "(II)I"⟩, 7), (⟨"FerretCables$Book", "afterLetIn", "(I)I"⟩, 7), (⟨"FerretCables$Book", "fillLoad", "(I)V"⟩, 7), (⟨"FerretCables$Ways", "measure", "(I)V"⟩, 5), (⟨"FerretCables$Ways", "shorten", "(I)Z"⟩, 5), (⟨"FerretCables$Ways", "leastOnward", "(I)I"⟩, 5), (⟨"FerretCables", "setShut", "(I)I"⟩, 9), (⟨"FerretCables", "setTakes", "(I)I"⟩, 9), (⟨"FerretCables", "setHard", "(I)I"⟩, 9), (⟨"FerretCables$Book", "isDone", "(I)Z"⟩, 7), (⟨"FerretCables", "isBehind", "(I)Z"⟩, 9), (⟨"FerretCables", "findWay", "(II)Z"⟩, 9), (⟨"FerretCables$Ways", "roomInRow", "()I"⟩, 5)]
theorem lw_r1 : ∀ q ∈ lw_privs_1, lw_okq q := List.forall_mem_cons.mpr ⟨lw_p0, List.forall_mem_cons.mpr ⟨lw_p1, List.forall_mem_cons.mpr ⟨lw_p2, List.forall_mem_cons.mpr ⟨lw_p3, List.forall_mem_cons.mpr ⟨lw_p4, List.forall_mem_cons.mpr ⟨lw_p5, List.forall_mem_cons.mpr ⟨lw_p6, List.forall_mem_cons.mpr ⟨lw_p7, List.forall_mem_cons.mpr ⟨lw_p8, List.forall_mem_cons.mpr ⟨lw_p9, List.forall_mem_cons.mpr ⟨lw_p10, List.forall_mem_cons.mpr ⟨lw_p11, List.forall_mem_cons.mpr ⟨lw_p12, List.forall_mem_cons.mpr ⟨lw_p13, List.forall_mem_cons.mpr ⟨lw_p14, List.forall_mem_cons.mpr ⟨lw_p15, fun _ h => absurd h List.not_mem_nil⟩⟩⟩⟩⟩⟩⟩⟩⟩⟩⟩⟩⟩⟩⟩⟩
theorem lw_p16 : lw_okq (⟨"FerretCables$Flow", "seekRoom", "(II)Z"⟩, 5) := ⟨⟨by decide +kernel, by decide +kernel⟩, List.mem_of_getElem? (i := 147) (by decide +kernel), List.mem_of_getElem? (i := 571) (by decide +kernel), List.mem_of_getElem? (i := 572) (by decide +kernel)⟩
theorem lw_p17 : lw_okq (⟨"FerretCables$Flow", "hasRoom", "(II)Z"⟩, 5) := ⟨⟨by decide +kernel, by decide +kernel⟩, List.mem_of_getElem? (i := 147) (by decide +kernel), List.mem_of_getElem? (i := 578) (by decide +kernel), List.mem_of_getElem? (i := 579) (by decide +kernel)⟩
theorem lw_p18 : lw_okq (⟨"FerretCables$Flow", "push", "(II)V"⟩, 5) := ⟨⟨by decide +kernel, by decide +kernel⟩, List.mem_of_getElem? (i := 147) (by decide +kernel), List.mem_of_getElem? (i := 587) (by decide +kernel), List.mem_of_getElem? (i := 588) (by decide +kernel)⟩
theorem lw_p19 : lw_okq (⟨"FerretCables", "failingDay", "(II)I"⟩, 9) := ⟨⟨by decide +kernel, by decide +kernel⟩, List.mem_of_getElem? (i := 16) (by decide +kernel), List.mem_of_getElem? (i := 595) (by decide +kernel), List.mem_of_getElem? (i := 596) (by decide +kernel)⟩
theorem lw_p20 : lw_okq (⟨"FerretCables$Lamps", "lastLetIn", "(II)I"⟩, 6) := ⟨⟨by decide +kernel, by decide +kernel⟩, List.mem_of_getElem? (i := 169) (by decide +kernel), List.mem_of_getElem? (i := 638) (by decide +kernel), List.mem_of_getElem? (i := 639) (by decide +kernel)⟩
theorem lw_p21 : lw_okq (⟨"FerretCables$Lamps", "burningWith", "(II)I"⟩, 6) := ⟨⟨by decide +kernel, by decide +kernel⟩, List.mem_of_getElem? (i := 169) (by decide +kernel), List.mem_of_getElem? (i := 642) (by decide +kernel), List.mem_of_getElem? (i := 643) (by decide +kernel)⟩
theorem lw_p22 : lw_okq (⟨"FerretCables$Lamps", "spread", "(II)I"⟩, 6) := ⟨⟨by decide +kernel, by decide +kernel⟩, List.mem_of_getElem? (i := 169) (by decide +kernel), List.mem_of_getElem? (i := 646) (by decide +kernel), List.mem_of_getElem? (i := 647) (by decide +kernel)⟩
theorem lw_p23 : lw_okq (⟨"FerretCables$Lamps", "seekTwo", "(I)V"⟩, 6) := ⟨⟨by decide +kernel, by decide +kernel⟩, List.mem_of_getElem? (i := 169) (by decide +kernel), List.mem_of_getElem? (i := 656) (by decide +kernel), List.mem_of_getElem? (i := 657) (by decide +kernel)⟩
theorem lw_p24 : lw_okq (⟨"FerretCables$Roaming", "ring", "()V"⟩, 4) := ⟨⟨by decide +kernel, by decide +kernel⟩, List.mem_of_getElem? (i := 197) (by decide +kernel), List.mem_of_getElem? (i := 671) (by decide +kernel), List.mem_of_getElem? (i := 672) (by decide +kernel)⟩
theorem lw_p25 : lw_okq (⟨"FerretCables$Roaming", "choicesAt", "(I)I"⟩, 4) := ⟨⟨by decide +kernel, by decide +kernel⟩, List.mem_of_getElem? (i := 197) (by decide +kernel), List.mem_of_getElem? (i := 696) (by decide +kernel), List.mem_of_getElem? (i := 697) (by decide +kernel)⟩
theorem lw_p26 : lw_okq (⟨"FerretCables$Roaming", "isChoice", "(II)Z"⟩, 4) := ⟨⟨by decide +kernel, by decide +kernel⟩, List.mem_of_getElem? (i := 197) (by decide +kernel), List.mem_of_getElem? (i := 700) (by decide +kernel), List.mem_of_getElem? (i := 701) (by decide +kernel)⟩
theorem lw_p27 : lw_okq (⟨"FerretCables$Roaming", "behindChoice", "(II)I"⟩, 4) := ⟨⟨by decide +kernel, by decide +kernel⟩, List.mem_of_getElem? (i := 197) (by decide +kernel), List.mem_of_getElem? (i := 706) (by decide +kernel), List.mem_of_getElem? (i := 707) (by decide +kernel)⟩
theorem lw_p28 : lw_okq (⟨"FerretCables", "burningBehind", "(I)I"⟩, 9) := ⟨⟨by decide +kernel, by decide +kernel⟩, List.mem_of_getElem? (i := 16) (by decide +kernel), List.mem_of_getElem? (i := 737) (by decide +kernel), List.mem_of_getElem? (i := 738) (by decide +kernel)⟩
theorem lw_p29 : lw_okq (⟨"FerretCables", "mixPipes", "(J)J"⟩, 9) := ⟨⟨by decide +kernel, by decide +kernel⟩, List.mem_of_getElem? (i := 16) (by decide +kernel), List.mem_of_getElem? (i := 848) (by decide +kernel), List.mem_of_getElem? (i := 849) (by decide +kernel)⟩
theorem lw_p30 : lw_okq (⟨"FerretCables", "mixWires", "(J)J"⟩, 9) := ⟨⟨by decide +kernel, by decide +kernel⟩, List.mem_of_getElem? (i := 16) (by decide +kernel), List.mem_of_getElem? (i := 853) (by decide +kernel), List.mem_of_getElem? (i := 854) (by decide +kernel)⟩
theorem lw_p31 : lw_okq (⟨"FerretCables", "mixEnds", "(J)J"⟩, 9) := ⟨⟨by decide +kernel, by decide +kernel⟩, List.mem_of_getElem? (i := 16) (by decide +kernel), List.mem_of_getElem? (i := 864) (by decide +kernel), List.mem_of_getElem? (i := 865) (by decide +kernel)⟩
def lw_privs_2 : List (MethodName × Nat) := [(⟨"FerretCables$Flow", "seekRoom", "(II)Z"⟩, 5), (⟨"FerretCables$Flow", "hasRoom", "(II)Z"⟩, 5), (⟨"FerretCables$Flow", "push", "(II)V"⟩, 5), (⟨"FerretCables", "failingDay", "(II)I"⟩, 9), (⟨"FerretCables$Lamps", "lastLetIn", "(II)I"⟩, 6), (⟨"FerretCables$Lamps", "burningWith", "(II)I"⟩, 6), (⟨"FerretCables$Lamps", "spread", "(II)I"⟩, 6), (⟨"FerretCables$Lamps", "seekTwo", "(I)V"⟩, 6), (⟨"FerretCables$Roaming", "ring", "()V"⟩, 4), (⟨"FerretCables$Roaming", "choicesAt", "(I)I"⟩, 4), (⟨"FerretCables$Roaming", "isChoice", "(II)Z"⟩, 4), (⟨"FerretCables$Roaming", "behindChoice", "(II)I"⟩, 4), (⟨"FerretCables", "burningBehind", "(I)I"⟩, 9), (⟨"FerretCables", "mixPipes", "(J)J"⟩, 9), (⟨"FerretCables", "mixWires", "(J)J"⟩, 9), (⟨"FerretCables", "mixEnds", "(J)J"⟩, 9)]
theorem lw_r2 : ∀ q ∈ lw_privs_2, lw_okq q := List.forall_mem_cons.mpr ⟨lw_p16, List.forall_mem_cons.mpr ⟨lw_p17, List.forall_mem_cons.mpr ⟨lw_p18, List.forall_mem_cons.mpr ⟨lw_p19, List.forall_mem_cons.mpr ⟨lw_p20, List.forall_mem_cons.mpr ⟨lw_p21, List.forall_mem_cons.mpr ⟨lw_p22, List.forall_mem_cons.mpr ⟨lw_p23, List.forall_mem_cons.mpr ⟨lw_p24, List.forall_mem_cons.mpr ⟨lw_p25, List.forall_mem_cons.mpr ⟨lw_p26, List.forall_mem_cons.mpr ⟨lw_p27, List.forall_mem_cons.mpr ⟨lw_p28, List.forall_mem_cons.mpr ⟨lw_p29, List.forall_mem_cons.mpr ⟨lw_p30, List.forall_mem_cons.mpr ⟨lw_p31, fun _ h => absurd h List.not_mem_nil⟩⟩⟩⟩⟩⟩⟩⟩⟩⟩⟩⟩⟩⟩⟩⟩
theorem lw_p32 : lw_okq (⟨"FerretCablesModel", "finds", "(I)I"⟩, 30) := ⟨⟨by decide +kernel, by decide +kernel⟩, List.mem_of_getElem? (i := 875) (by decide +kernel), List.mem_of_getElem? (i := 984) (by decide +kernel), List.mem_of_getElem? (i := 985) (by decide +kernel)⟩
theorem lw_p33 : lw_okq (⟨"FerretCablesModel", "lacks", "(III)I"⟩, 30) := ⟨⟨by decide +kernel, by decide +kernel⟩, List.mem_of_getElem? (i := 875) (by decide +kernel), List.mem_of_getElem? (i := 996) (by decide +kernel), List.mem_of_getElem? (i := 997) (by decide +kernel)⟩
theorem lw_p34 : lw_okq (⟨"FerretCablesModel", "reads", "()I"⟩, 30) := ⟨⟨by decide +kernel, by decide +kernel⟩, List.mem_of_getElem? (i := 875) (by decide +kernel), List.mem_of_getElem? (i := 1025) (by decide +kernel), List.mem_of_getElem? (i := 1026) (by decide +kernel)⟩
theorem lw_p35 : lw_okq (⟨"FerretCablesModel", "readsPipe", "()Z"⟩, 30) := ⟨⟨by decide +kernel, by decide +kernel⟩, List.mem_of_getElem? (i := 875) (by decide +kernel), List.mem_of_getElem? (i := 1029) (by decide +kernel), List.mem_of_getElem? (i := 1030) (by decide +kernel)⟩
theorem lw_p36 : lw_okq (⟨"FerretCablesModel", "more", "(II)I"⟩, 30) := ⟨⟨by decide +kernel, by decide +kernel⟩, List.mem_of_getElem? (i := 875) (by decide +kernel), List.mem_of_getElem? (i := 1056) (by decide +kernel), List.mem_of_getElem? (i := 1057) (by decide +kernel)⟩
theorem lw_p37 : lw_okq (⟨"FerretCablesModel", "goesAll", "()V"⟩, 30) := ⟨⟨by decide +kernel, by decide +kernel⟩, List.mem_of_getElem? (i := 875) (by decide +kernel), List.mem_of_getElem? (i := 1081) (by decide +kernel), List.mem_of_getElem? (i := 1082) (by decide +kernel)⟩
theorem lw_p38 : lw_okq (⟨"FerretCablesModel", "goes", "(I)V"⟩, 30) := ⟨⟨by decide +kernel, by decide +kernel⟩, List.mem_of_getElem? (i := 875) (by decide +kernel), List.mem_of_getElem? (i := 1085) (by decide +kernel), List.mem_of_getElem? (i := 1086) (by decide +kernel)⟩
theorem lw_p39 : lw_okq (⟨"FerretCablesModel", "draws", "(II)I"⟩, 30) := ⟨⟨by decide +kernel, by decide +kernel⟩, List.mem_of_getElem? (i := 875) (by decide +kernel), List.mem_of_getElem? (i := 1089) (by decide +kernel), List.mem_of_getElem? (i := 1090) (by decide +kernel)⟩
theorem lw_p40 : lw_okq (⟨"FerretCablesModel", "findWay", "(II)I"⟩, 30) := ⟨⟨by decide +kernel, by decide +kernel⟩, List.mem_of_getElem? (i := 875) (by decide +kernel), List.mem_of_getElem? (i := 1093) (by decide +kernel), List.mem_of_getElem? (i := 1094) (by decide +kernel)⟩
theorem lw_p41 : lw_okq (⟨"FerretCablesModel", "findFar", "(I)V"⟩, 30) := ⟨⟨by decide +kernel, by decide +kernel⟩, List.mem_of_getElem? (i := 875) (by decide +kernel), List.mem_of_getElem? (i := 1097) (by decide +kernel), List.mem_of_getElem? (i := 1098) (by decide +kernel)⟩
theorem lw_p42 : lw_okq (⟨"FerretCablesModel", "isOpen", "(I)Z"⟩, 30) := ⟨⟨by decide +kernel, by decide +kernel⟩, List.mem_of_getElem? (i := 875) (by decide +kernel), List.mem_of_getElem? (i := 1101) (by decide +kernel), List.mem_of_getElem? (i := 1102) (by decide +kernel)⟩
theorem lw_p43 : lw_okq (⟨"FerretCablesModel", "other", "(II)I"⟩, 30) := ⟨⟨by decide +kernel, by decide +kernel⟩, List.mem_of_getElem? (i := 875) (by decide +kernel), List.mem_of_getElem? (i := 1108) (by decide +kernel), List.mem_of_getElem? (i := 1109) (by decide +kernel)⟩
theorem lw_p44 : lw_okq (⟨"FerretCablesModel", "canPull", "(I)Z"⟩, 30) := ⟨⟨by decide +kernel, by decide +kernel⟩, List.mem_of_getElem? (i := 875) (by decide +kernel), List.mem_of_getElem? (i := 1112) (by decide +kernel), List.mem_of_getElem? (i := 1113) (by decide +kernel)⟩
theorem lw_p45 : lw_okq (⟨"FerretCablesModel", "pulls", "(I)V"⟩, 30) := ⟨⟨by decide +kernel, by decide +kernel⟩, List.mem_of_getElem? (i := 875) (by decide +kernel), List.mem_of_getElem? (i := 1116) (by decide +kernel), List.mem_of_getElem? (i := 1117) (by decide +kernel)⟩
theorem lw_p46 : lw_okq (⟨"FerretCablesModel", "stateOf", "(II)I"⟩, 30) := ⟨⟨by decide +kernel, by decide +kernel⟩, List.mem_of_getElem? (i := 875) (by decide +kernel), List.mem_of_getElem? (i := 1131) (by decide +kernel), List.mem_of_getElem? (i := 1132) (by decide +kernel)⟩
theorem lw_p47 : lw_okq (⟨"FerretCablesModel", "fullNow", "()I"⟩, 30) := ⟨⟨by decide +kernel, by decide +kernel⟩, List.mem_of_getElem? (i := 875) (by decide +kernel), List.mem_of_getElem? (i := 1135) (by decide +kernel), List.mem_of_getElem? (i := 1136) (by decide +kernel)⟩
def lw_privs_3 : List (MethodName × Nat) := [(⟨"FerretCablesModel", "finds", "(I)I"⟩, 30), (⟨"FerretCablesModel", "lacks", "(III)I"⟩, 30), (⟨"FerretCablesModel", "reads", "()I"⟩, 30), (⟨"FerretCablesModel", "readsPipe", "()Z"⟩, 30), (⟨"FerretCablesModel", "more", "(II)I"⟩, 30), (⟨"FerretCablesModel", "goesAll", "()V"⟩, 30), (⟨"FerretCablesModel", "goes", "(I)V"⟩, 30), (⟨"FerretCablesModel", "draws", "(II)I"⟩, 30), (⟨"FerretCablesModel", "findWay", "(II)I"⟩, 30), (⟨"FerretCablesModel", "findFar", "(I)V"⟩, 30), (⟨"FerretCablesModel", "isOpen", "(I)Z"⟩, 30), (⟨"FerretCablesModel", "other", "(II)I"⟩, 30), (⟨"FerretCablesModel", "canPull", "(I)Z"⟩, 30), (⟨"FerretCablesModel", "pulls", "(I)V"⟩, 30), (⟨"FerretCablesModel", "stateOf", "(II)I"⟩, 30), (⟨"FerretCablesModel", "fullNow", "()I"⟩, 30)]
theorem lw_r3 : ∀ q ∈ lw_privs_3, lw_okq q := List.forall_mem_cons.mpr ⟨lw_p32, List.forall_mem_cons.mpr ⟨lw_p33, List.forall_mem_cons.mpr ⟨lw_p34, List.forall_mem_cons.mpr ⟨lw_p35, List.forall_mem_cons.mpr ⟨lw_p36, List.forall_mem_cons.mpr ⟨lw_p37, List.forall_mem_cons.mpr ⟨lw_p38, List.forall_mem_cons.mpr ⟨lw_p39, List.forall_mem_cons.mpr ⟨lw_p40, List.forall_mem_cons.mpr ⟨lw_p41, List.forall_mem_cons.mpr ⟨lw_p42, List.forall_mem_cons.mpr ⟨lw_p43, List.forall_mem_cons.mpr ⟨lw_p44, List.forall_mem_cons.mpr ⟨lw_p45, List.forall_mem_cons.mpr ⟨lw_p46, List.forall_mem_cons.mpr ⟨lw_p47, fun _ h => absurd h List.not_mem_nil⟩⟩⟩⟩⟩⟩⟩⟩⟩⟩⟩⟩⟩⟩⟩⟩
theorem lw_p48 : lw_okq (⟨"FerretCablesModel", "pipesOf", "(I)I"⟩, 30) := ⟨⟨by decide +kernel, by decide +kernel⟩, List.mem_of_getElem? (i := 875) (by decide +kernel), List.mem_of_getElem? (i := 1143) (by decide +kernel), List.mem_of_getElem? (i := 1144) (by decide +kernel)⟩
theorem lw_p49 : lw_okq (⟨"FerretCablesModel", "outOf", "(I)I"⟩, 30) := ⟨⟨by decide +kernel, by decide +kernel⟩, List.mem_of_getElem? (i := 875) (by decide +kernel), List.mem_of_getElem? (i := 1151) (by decide +kernel), List.mem_of_getElem? (i := 1152) (by decide +kernel)⟩
theorem lw_p50 : lw_okq (⟨"FerretCablesModel", "shortestOf", "(III)I"⟩, 30) := ⟨⟨by decide +kernel, by decide +kernel⟩, List.mem_of_getElem? (i := 875) (by decide +kernel), List.mem_of_getElem? (i := 1159) (by decide +kernel), List.mem_of_getElem? (i := 1160) (by decide +kernel)⟩
theorem lw_p51 : lw_okq (⟨"FerretCablesModel", "drawnOf", "(II)I"⟩, 30) := ⟨⟨by decide +kernel, by decide +kernel⟩, List.mem_of_getElem? (i := 875) (by decide +kernel), List.mem_of_getElem? (i := 1167) (by decide +kernel), List.mem_of_getElem? (i := 1168) (by decide +kernel)⟩
theorem lw_p52 : lw_okq (⟨"FerretCablesModel", "keeps", "()V"⟩, 30) := ⟨⟨by decide +kernel, by decide +kernel⟩, List.mem_of_getElem? (i := 875) (by decide +kernel), List.mem_of_getElem? (i := 1171) (by decide +kernel), List.mem_of_getElem? (i := 1172) (by decide +kernel)⟩
theorem lw_p53 : lw_okq (⟨"FerretCablesModel", "putsBack", "()V"⟩, 30) := ⟨⟨by decide +kernel, by decide +kernel⟩, List.mem_of_getElem? (i := 875) (by decide +kernel), List.mem_of_getElem? (i := 1175) (by decide +kernel), List.mem_of_getElem? (i := 1176) (by decide +kernel)⟩
theorem lw_p54 : lw_okq (⟨"FerretCablesModel", "mostOf", "(II)I"⟩, 30) := ⟨⟨by decide +kernel, by decide +kernel⟩, List.mem_of_getElem? (i := 875) (by decide +kernel), List.mem_of_getElem? (i := 1179) (by decide +kernel), List.mem_of_getElem? (i := 1180) (by decide +kernel)⟩
theorem lw_p55 : lw_okq (⟨"FerretCablesModel", "flows", "(II)Z"⟩, 30) := ⟨⟨by decide +kernel, by decide +kernel⟩, List.mem_of_getElem? (i := 875) (by decide +kernel), List.mem_of_getElem? (i := 1183) (by decide +kernel), List.mem_of_getElem? (i := 1184) (by decide +kernel)⟩
theorem lw_p56 : lw_okq (⟨"FerretCablesModel", "failsOf", "(I)I"⟩, 30) := ⟨⟨by decide +kernel, by decide +kernel⟩, List.mem_of_getElem? (i := 875) (by decide +kernel), List.mem_of_getElem? (i := 1191) (by decide +kernel), List.mem_of_getElem? (i := 1192) (by decide +kernel)⟩
theorem lw_p57 : lw_okq (⟨"FerretCablesModel", "soonestNow", "()I"⟩, 30) := ⟨⟨by decide +kernel, by decide +kernel⟩, List.mem_of_getElem? (i := 875) (by decide +kernel), List.mem_of_getElem? (i := 1199) (by decide +kernel), List.mem_of_getElem? (i := 1200) (by decide +kernel)⟩
theorem lw_p58 : lw_okq (⟨"FerretCablesModel", "leftOn", "(I)I"⟩, 30) := ⟨⟨by decide +kernel, by decide +kernel⟩, List.mem_of_getElem? (i := 875) (by decide +kernel), List.mem_of_getElem? (i := 1207) (by decide +kernel), List.mem_of_getElem? (i := 1208) (by decide +kernel)⟩
theorem lw_p59 : lw_okq (⟨"FerretCablesModel", "burnsNow", "(I)I"⟩, 30) := ⟨⟨by decide +kernel, by decide +kernel⟩, List.mem_of_getElem? (i := 875) (by decide +kernel), List.mem_of_getElem? (i := 1215) (by decide +kernel), List.mem_of_getElem? (i := 1216) (by decide +kernel)⟩
theorem lw_p60 : lw_okq (⟨"FerretCablesModel", "burnsBy", "(IIIII)I"⟩, 30) := ⟨⟨by decide +kernel, by decide +kernel⟩, List.mem_of_getElem? (i := 875) (by decide +kernel), List.mem_of_getElem? (i := 1219) (by decide +kernel), List.mem_of_getElem? (i := 1220) (by decide +kernel)⟩
theorem lw_p61 : lw_okq (⟨"FerretCablesModel", "findLit", "(I)V"⟩, 30) := ⟨⟨by decide +kernel, by decide +kernel⟩, List.mem_of_getElem? (i := 875) (by decide +kernel), List.mem_of_getElem? (i := 1230) (by decide +kernel), List.mem_of_getElem? (i := 1231) (by decide +kernel)⟩
theorem lw_p62 : lw_okq (⟨"FerretCablesModel", "lights", "(III)Z"⟩, 30) := ⟨⟨by decide +kernel, by decide +kernel⟩, List.mem_of_getElem? (i := 875) (by decide +kernel), List.mem_of_getElem? (i := 1234) (by decide +kernel), List.mem_of_getElem? (i := 1235) (by decide +kernel)⟩
theorem lw_p63 : lw_okq (⟨"FerretCablesModel", "heardOf", "(III)I"⟩, 30) := ⟨⟨by decide +kernel, by decide +kernel⟩, List.mem_of_getElem? (i := 875) (by decide +kernel), List.mem_of_getElem? (i := 1244) (by decide +kernel), List.mem_of_getElem? (i := 1245) (by decide +kernel)⟩
def lw_privs_4 : List (MethodName × Nat) := [(⟨"FerretCablesModel", "pipesOf", "(I)I"⟩, 30), (⟨"FerretCablesModel", "outOf", "(I)I"⟩, 30), (⟨"FerretCablesModel", "shortestOf", "(III)I"⟩, 30), (⟨"FerretCablesModel", "drawnOf", "(II)I"⟩, 30), (⟨"FerretCablesModel", "keeps", "()V"⟩, 30), (⟨"FerretCablesModel", "putsBack", "()V"⟩, 30), (⟨"FerretCablesModel", "mostOf", "(II)I"⟩, 30), (⟨"FerretCablesModel", "flows", "(II)Z"⟩, 30), (⟨"FerretCablesModel", "failsOf", "(I)I"⟩, 30), (⟨"FerretCablesModel", "soonestNow", "()I"⟩, 30), (⟨"FerretCablesModel", "leftOn", "(I)I"⟩, 30), (⟨"FerretCablesModel", "burnsNow", "(I)I"⟩, 30), (⟨"FerretCablesModel", "burnsBy", "(IIIII)I"⟩, 30), (⟨"FerretCablesModel", "findLit", "(I)V"⟩, 30), (⟨"FerretCablesModel", "lights", "(III)Z"⟩, 30), (⟨"FerretCablesModel", "heardOf", "(III)I"⟩, 30)]
theorem lw_r4 : ∀ q ∈ lw_privs_4, lw_okq q := List.forall_mem_cons.mpr ⟨lw_p48, List.forall_mem_cons.mpr ⟨lw_p49, List.forall_mem_cons.mpr ⟨lw_p50, List.forall_mem_cons.mpr ⟨lw_p51, List.forall_mem_cons.mpr ⟨lw_p52, List.forall_mem_cons.mpr ⟨lw_p53, List.forall_mem_cons.mpr ⟨lw_p54, List.forall_mem_cons.mpr ⟨lw_p55, List.forall_mem_cons.mpr ⟨lw_p56, List.forall_mem_cons.mpr ⟨lw_p57, List.forall_mem_cons.mpr ⟨lw_p58, List.forall_mem_cons.mpr ⟨lw_p59, List.forall_mem_cons.mpr ⟨lw_p60, List.forall_mem_cons.mpr ⟨lw_p61, List.forall_mem_cons.mpr ⟨lw_p62, List.forall_mem_cons.mpr ⟨lw_p63, fun _ h => absurd h List.not_mem_nil⟩⟩⟩⟩⟩⟩⟩⟩⟩⟩⟩⟩⟩⟩⟩⟩
theorem lw_p64 : lw_okq (⟨"FerretCablesModel", "walks", "(II)V"⟩, 30) := ⟨⟨by decide +kernel, by decide +kernel⟩, List.mem_of_getElem? (i := 875) (by decide +kernel), List.mem_of_getElem? (i := 1248) (by decide +kernel), List.mem_of_getElem? (i := 1249) (by decide +kernel)⟩
theorem lw_p65 : lw_okq (⟨"FerretCablesModel", "goesThrough", "(I)Z"⟩, 30) := ⟨⟨by decide +kernel, by decide +kernel⟩, List.mem_of_getElem? (i := 875) (by decide +kernel), List.mem_of_getElem? (i := 1252) (by decide +kernel), List.mem_of_getElem? (i := 1253) (by decide +kernel)⟩
theorem lw_p66 : lw_okq (⟨"FerretCablesModel", "inAt", "(I)I"⟩, 30) := ⟨⟨by decide +kernel, by decide +kernel⟩, List.mem_of_getElem? (i := 875) (by decide +kernel), List.mem_of_getElem? (i := 1256) (by decide +kernel), List.mem_of_getElem? (i := 1257) (by decide +kernel)⟩
theorem lw_p67 : lw_okq (⟨"FerretCablesModel", "outAt", "(I)I"⟩, 30) := ⟨⟨by decide +kernel, by decide +kernel⟩, List.mem_of_getElem? (i := 875) (by decide +kernel), List.mem_of_getElem? (i := 1260) (by decide +kernel), List.mem_of_getElem? (i := 1261) (by decide +kernel)⟩
theorem lw_p68 : lw_okq (⟨"FerretCablesModel", "waysTo", "(III)I"⟩, 30) := ⟨⟨by decide +kernel, by decide +kernel⟩, List.mem_of_getElem? (i := 875) (by decide +kernel), List.mem_of_getElem? (i := 1264) (by decide +kernel), List.mem_of_getElem? (i := 1265) (by decide +kernel)⟩
theorem lw_p69 : lw_okq (⟨"FerretCablesModel", "meetOf", "(IIII)I"⟩, 30) := ⟨⟨by decide +kernel, by decide +kernel⟩, List.mem_of_getElem? (i := 875) (by decide +kernel), List.mem_of_getElem? (i := 1272) (by decide +kernel), List.mem_of_getElem? (i := 1273) (by decide +kernel)⟩
theorem lw_p70 : lw_okq (⟨"FerretCablesModel", "drowsyOf", "(III)I"⟩, 30) := ⟨⟨by decide +kernel, by decide +kernel⟩, List.mem_of_getElem? (i := 875) (by decide +kernel), List.mem_of_getElem? (i := 1281) (by decide +kernel), List.mem_of_getElem? (i := 1282) (by decide +kernel)⟩
theorem lw_p71 : lw_okq (⟨"FerretCablesModel", "liesNow", "()I"⟩, 30) := ⟨⟨by decide +kernel, by decide +kernel⟩, List.mem_of_getElem? (i := 875) (by decide +kernel), List.mem_of_getElem? (i := 1294) (by decide +kernel), List.mem_of_getElem? (i := 1295) (by decide +kernel)⟩
theorem lw_p72 : lw_okq (⟨"FerretCablesModel", "scenesOf", "(I)I"⟩, 30) := ⟨⟨by decide +kernel, by decide +kernel⟩, List.mem_of_getElem? (i := 875) (by decide +kernel), List.mem_of_getElem? (i := 1306) (by decide +kernel), List.mem_of_getElem? (i := 1307) (by decide +kernel)⟩
theorem lw_p73 : lw_okq (⟨"FerretCablesModel", "cueOf", "(I)I"⟩, 30) := ⟨⟨by decide +kernel, by decide +kernel⟩, List.mem_of_getElem? (i := 875) (by decide +kernel), List.mem_of_getElem? (i := 1314) (by decide +kernel), List.mem_of_getElem? (i := 1315) (by decide +kernel)⟩
def lw_privs_5 : List (MethodName × Nat) := [(⟨"FerretCablesModel", "walks", "(II)V"⟩, 30), (⟨"FerretCablesModel", "goesThrough", "(I)Z"⟩, 30), (⟨"FerretCablesModel", "inAt", "(I)I"⟩, 30), (⟨"FerretCablesModel", "outAt", "(I)I"⟩, 30), (⟨"FerretCablesModel", "waysTo", "(III)I"⟩, 30), (⟨"FerretCablesModel", "meetOf", "(IIII)I"⟩, 30), (⟨"FerretCablesModel", "drowsyOf", "(III)I"⟩, 30), (⟨"FerretCablesModel", "liesNow", "()I"⟩, 30), (⟨"FerretCablesModel", "scenesOf", "(I)I"⟩, 30), (⟨"FerretCablesModel", "cueOf", "(I)I"⟩, 30)]
theorem lw_r5 : ∀ q ∈ lw_privs_5, lw_okq q := List.forall_mem_cons.mpr ⟨lw_p64, List.forall_mem_cons.mpr ⟨lw_p65, List.forall_mem_cons.mpr ⟨lw_p66, List.forall_mem_cons.mpr ⟨lw_p67, List.forall_mem_cons.mpr ⟨lw_p68, List.forall_mem_cons.mpr ⟨lw_p69, List.forall_mem_cons.mpr ⟨lw_p70, List.forall_mem_cons.mpr ⟨lw_p71, List.forall_mem_cons.mpr ⟨lw_p72, List.forall_mem_cons.mpr ⟨lw_p73, fun _ h => absurd h List.not_mem_nil⟩⟩⟩⟩⟩⟩⟩⟩⟩⟩
def lw_privs : List (MethodName × Nat) := lw_privs_1 ++ (lw_privs_2 ++ (lw_privs_3 ++ (lw_privs_4 ++ (lw_privs_5))))
def lw_tbl : List Cond := k2_sels lw_privs ++ tables_1
theorem lw_privs_ok : ∀ q ∈ lw_privs, lw_okq q := by
  show ∀ q ∈ lw_privs_1 ++ (lw_privs_2 ++ (lw_privs_3 ++ (lw_privs_4 ++ (lw_privs_5)))), lw_okq q
  exact List.forall_mem_append.mpr ⟨lw_r1, List.forall_mem_append.mpr ⟨lw_r2, List.forall_mem_append.mpr ⟨lw_r3, List.forall_mem_append.mpr ⟨lw_r4, lw_r5⟩⟩⟩⟩
end
section
def RX0 : String := "FerretCables$Book"
def TX0 : u_T := fun k => match k with
  | 0 => ("FerretCables$Book", "ways", "LFerretCables$Ways;", true)
  | 1 => ("FerretCables$Book", "pipes", "LFerretCables$Pipes;", true)
  | 2 => ("FerretCables$Book", "from", "[I", true)
  | 3 => ("FerretCables$Book", "to", "[I", true)
  | 4 => ("FerretCables$Book", "lying", "[I", true)
  | 5 => ("FerretCables$Book", "laid", "[I", true)
  | _ => ("FerretCables$Book", "many", "I", false)
def tyX0 : Nat → FieldType := fun k => match k with
  | 0 => .object "FerretCables$Ways"
  | 1 => .object "FerretCables$Pipes"
  | 2 => .array .int
  | 3 => .array .int
  | 4 => .array .int
  | 5 => .array .int
  | _ => .int
theorem nmX0 : ∀ a, a < 7 → ∀ b, b < 7 → a ≠ b → (TX0 a).2.1 ≠ (TX0 b).2.1 := by decide +kernel
theorem tyX0_ok : ∀ k, k < 7 → parseFieldDescriptor (TX0 k).2.2.1 = some (tyX0 k) := by decide +kernel
abbrev cX0_init : ByteArray := prog_2_method_1_code
def yX0_init : MethodName := ⟨RX0, "<init>", "(LFerretCables$Ways;)V"⟩
abbrev cX0_add : ByteArray := prog_2_method_2_code
def yX0_add : MethodName := ⟨RX0, "add", "(II)I"⟩
abbrev cX0_dropStep : ByteArray := prog_2_method_3_code
def yX0_dropStep : MethodName := ⟨RX0, "dropStep", "()V"⟩
abbrev cX0_playFrom : ByteArray := prog_2_method_4_code
def yX0_playFrom : MethodName := ⟨RX0, "playFrom", "(I)V"⟩
abbrev cX0_lyingNow : ByteArray := prog_2_method_5_code
def yX0_lyingNow : MethodName := ⟨RX0, "lyingNow", "()I"⟩
abbrev cX0_afterLetIn : ByteArray := prog_2_method_6_code
def yX0_afterLetIn : MethodName := ⟨RX0, "afterLetIn", "(I)I"⟩
abbrev cX0_afterPull : ByteArray := prog_2_method_7_code
def yX0_afterPull : MethodName := ⟨RX0, "afterPull", "(II)I"⟩
abbrev cX0_isDone : ByteArray := prog_2_method_8_code
def yX0_isDone : MethodName := ⟨RX0, "isDone", "(I)Z"⟩
abbrev cX0_firstNotDone : ByteArray := prog_2_method_9_code
def yX0_firstNotDone : MethodName := ⟨RX0, "firstNotDone", "()I"⟩
abbrev cX0_howManyDone : ByteArray := prog_2_method_10_code
def yX0_howManyDone : MethodName := ⟨RX0, "howManyDone", "()I"⟩
abbrev cX0_pipesOf : ByteArray := prog_2_method_11_code
def yX0_pipesOf : MethodName := ⟨RX0, "pipesOf", "(II)I"⟩
abbrev cX0_endsOf : ByteArray := prog_2_method_12_code
def yX0_endsOf : MethodName := ⟨RX0, "endsOf", "(I)I"⟩
abbrev cX0_wiresIn : ByteArray := prog_2_method_13_code
def yX0_wiresIn : MethodName := ⟨RX0, "wiresIn", "(II)I"⟩
abbrev cX0_fullPipes : ByteArray := prog_2_method_14_code
def yX0_fullPipes : MethodName := ⟨RX0, "fullPipes", "(I)I"⟩
abbrev cX0_loadNow : ByteArray := prog_2_method_15_code
def yX0_loadNow : MethodName := ⟨RX0, "loadNow", "()V"⟩
abbrev cX0_fillLoad : ByteArray := prog_2_method_16_code
def yX0_fillLoad : MethodName := ⟨RX0, "fillLoad", "(I)V"⟩
abbrev cX0_drawnOutWith : ByteArray := prog_2_method_17_code
def yX0_drawnOutWith : MethodName := ⟨RX0, "drawnOutWith", "(I)I"⟩
abbrev cX0_joinedTo : ByteArray := prog_2_method_18_code
def yX0_joinedTo : MethodName := ⟨RX0, "joinedTo", "(II)I"⟩
def RX1 : String := "FerretCables$Flow"
def TX1 : u_T := fun k => match k with
  | 0 => ("FerretCables$Flow", "ways", "LFerretCables$Ways;", true)
  | 1 => ("FerretCables$Flow", "pipes", "LFerretCables$Pipes;", true)
  | 2 => ("FerretCables$Flow", "along", "[I", true)
  | 3 => ("FerretCables$Flow", "by", "[I", true)
  | _ => ("FerretCables$Flow", "queue", "[I", true)
def tyX1 : Nat → FieldType := fun k => match k with
  | 0 => .object "FerretCables$Ways"
  | 1 => .object "FerretCables$Pipes"
  | 2 => .array .int
  | 3 => .array .int
  | _ => .array .int
theorem nmX1 : ∀ a, a < 5 → ∀ b, b < 5 → a ≠ b → (TX1 a).2.1 ≠ (TX1 b).2.1 := by decide +kernel
theorem tyX1_ok : ∀ k, k < 5 → parseFieldDescriptor (TX1 k).2.2.1 = some (tyX1 k) := by decide +kernel
abbrev cX1_init : ByteArray := prog_3_method_1_code
def yX1_init : MethodName := ⟨RX1, "<init>", "(LFerretCables$Ways;)V"⟩
abbrev cX1_greatest : ByteArray := prog_3_method_2_code
def yX1_greatest : MethodName := ⟨RX1, "greatest", "(II)I"⟩
abbrev cX1_seekRoom : ByteArray := prog_3_method_3_code
def yX1_seekRoom : MethodName := ⟨RX1, "seekRoom", "(II)Z"⟩
abbrev cX1_hasRoom : ByteArray := prog_3_method_4_code
def yX1_hasRoom : MethodName := ⟨RX1, "hasRoom", "(II)Z"⟩
abbrev cX1_push : ByteArray := prog_3_method_5_code
def yX1_push : MethodName := ⟨RX1, "push", "(II)V"⟩
def RX2 : String := "FerretCables$Jottings"
def TX2 : u_T := fun k => match k with
  | 0 => ("FerretCables$Jottings", "markWire", "[I", true)
  | 1 => ("FerretCables$Jottings", "markEnds", "[I", true)
  | 2 => ("FerretCables$Jottings", "sceneEnds", "[I", true)
  | 3 => ("FerretCables$Jottings", "markCount", "I", false)
  | _ => ("FerretCables$Jottings", "sceneCount", "I", false)
def tyX2 : Nat → FieldType := fun k => match k with
  | 0 => .array .int
  | 1 => .array .int
  | 2 => .array .int
  | 3 => .int
  | _ => .int
theorem nmX2 : ∀ a, a < 5 → ∀ b, b < 5 → a ≠ b → (TX2 a).2.1 ≠ (TX2 b).2.1 := by decide +kernel
theorem tyX2_ok : ∀ k, k < 5 → parseFieldDescriptor (TX2 k).2.2.1 = some (tyX2 k) := by decide +kernel
abbrev cX2_init : ByteArray := prog_4_method_1_code
def yX2_init : MethodName := ⟨RX2, "<init>", "()V"⟩
abbrev cX2_addMark : ByteArray := prog_4_method_2_code
def yX2_addMark : MethodName := ⟨RX2, "addMark", "(II)I"⟩
abbrev cX2_addScene : ByteArray := prog_4_method_3_code
def yX2_addScene : MethodName := ⟨RX2, "addScene", "(I)I"⟩
abbrev cX2_dropMarks : ByteArray := prog_4_method_4_code
def yX2_dropMarks : MethodName := ⟨RX2, "dropMarks", "()I"⟩
abbrev cX2_dropScenes : ByteArray := prog_4_method_5_code
def yX2_dropScenes : MethodName := ⟨RX2, "dropScenes", "()I"⟩
def RX3 : String := "FerretCables$Lamps"
def TX3 : u_T := fun k => match k with
  | 0 => ("FerretCables$Lamps", "book", "LFerretCables$Book;", true)
  | 1 => ("FerretCables$Lamps", "ways", "LFerretCables$Ways;", true)
  | 2 => ("FerretCables$Lamps", "joined", "[I", true)
  | 3 => ("FerretCables$Lamps", "needed", "I", false)
  | 4 => ("FerretCables$Lamps", "firstLetIn", "I", false)
  | _ => ("FerretCables$Lamps", "secondLetIn", "I", false)
def tyX3 : Nat → FieldType := fun k => match k with
  | 0 => .object "FerretCables$Book"
  | 1 => .object "FerretCables$Ways"
  | 2 => .array .int
  | 3 => .int
  | 4 => .int
  | _ => .int
theorem nmX3 : ∀ a, a < 6 → ∀ b, b < 6 → a ≠ b → (TX3 a).2.1 ≠ (TX3 b).2.1 := by decide +kernel
theorem tyX3_ok : ∀ k, k < 6 → parseFieldDescriptor (TX3 k).2.2.1 = some (tyX3 k) := by decide +kernel
abbrev cX3_init : ByteArray := prog_5_method_1_code
def yX3_init : MethodName := ⟨RX3, "<init>", "(LFerretCables$Book;LFerretCables$Ways;)V"⟩
abbrev cX3_seek : ByteArray := prog_5_method_2_code
def yX3_seek : MethodName := ⟨RX3, "seek", "(I)V"⟩
abbrev cX3_seekTwo : ByteArray := prog_5_method_3_code
def yX3_seekTwo : MethodName := ⟨RX3, "seekTwo", "(I)V"⟩
abbrev cX3_lastLetIn : ByteArray := prog_5_method_4_code
def yX3_lastLetIn : MethodName := ⟨RX3, "lastLetIn", "(II)I"⟩
abbrev cX3_burningWith : ByteArray := prog_5_method_5_code
def yX3_burningWith : MethodName := ⟨RX3, "burningWith", "(II)I"⟩
abbrev cX3_spread : ByteArray := prog_5_method_6_code
def yX3_spread : MethodName := ⟨RX3, "spread", "(II)I"⟩
abbrev cX3_holdsAll : ByteArray := prog_5_method_7_code
def yX3_holdsAll : MethodName := ⟨RX3, "holdsAll", "(II)Z"⟩
def RX4 : String := "FerretCables$Pipes"
def TX4 : u_T := fun k => match k with
  | 0 => ("FerretCables$Pipes", "text", "[I", true)
  | 1 => ("FerretCables$Pipes", "first", "[I", true)
  | 2 => ("FerretCables$Pipes", "second", "[I", true)
  | 3 => ("FerretCables$Pipes", "length", "[I", true)
  | 4 => ("FerretCables$Pipes", "damp", "[I", true)
  | 5 => ("FerretCables$Pipes", "size", "I", false)
  | 6 => ("FerretCables$Pipes", "wrongAt", "I", false)
  | 7 => ("FerretCables$Pipes", "faultAt", "I", false)
  | 8 => ("FerretCables$Pipes", "many", "I", false)
  | 9 => ("FerretCables$Pipes", "shut", "I", false)
  | _ => ("FerretCables$Pipes", "takes", "I", false)
def tyX4 : Nat → FieldType := fun k => match k with
  | 0 => .array .int
  | 1 => .array .int
  | 2 => .array .int
  | 3 => .array .int
  | 4 => .array .int
  | 5 => .int
  | 6 => .int
  | 7 => .int
  | 8 => .int
  | 9 => .int
  | _ => .int
theorem nmX4 : ∀ a, a < 11 → ∀ b, b < 11 → a ≠ b → (TX4 a).2.1 ≠ (TX4 b).2.1 := by decide +kernel
theorem tyX4_ok : ∀ k, k < 11 → parseFieldDescriptor (TX4 k).2.2.1 = some (tyX4 k) := by decide +kernel
abbrev cX4_init : ByteArray := prog_6_method_1_code
def yX4_init : MethodName := ⟨RX4, "<init>", "()V"⟩
abbrev cX4_append : ByteArray := prog_6_method_2_code
def yX4_append : MethodName := ⟨RX4, "append", "(I)V"⟩
abbrev cX4_clear : ByteArray := prog_6_method_3_code
def yX4_clear : MethodName := ⟨RX4, "clear", "()V"⟩
abbrev cX4_dropPipe : ByteArray := prog_6_method_4_code
def yX4_dropPipe : MethodName := ⟨RX4, "dropPipe", "()V"⟩
abbrev cX4_fits : ByteArray := prog_6_method_5_code
def yX4_fits : MethodName := ⟨RX4, "fits", "(I)Z"⟩
abbrev cX4_takeUp : ByteArray := prog_6_method_6_code
def yX4_takeUp : MethodName := ⟨RX4, "takeUp", "(I)V"⟩
abbrev cX4_settle : ByteArray := prog_6_method_7_code
def yX4_settle : MethodName := ⟨RX4, "settle", "()V"⟩
abbrev cX4_hasPipe : ByteArray := prog_6_method_8_code
def yX4_hasPipe : MethodName := ⟨RX4, "hasPipe", "(I)Z"⟩
abbrev cX4_isShut : ByteArray := prog_6_method_9_code
def yX4_isShut : MethodName := ⟨RX4, "isShut", "(I)Z"⟩
abbrev cX4_touches : ByteArray := prog_6_method_10_code
def yX4_touches : MethodName := ⟨RX4, "touches", "(II)Z"⟩
abbrev cX4_opposite : ByteArray := prog_6_method_11_code
def yX4_opposite : MethodName := ⟨RX4, "opposite", "(II)I"⟩
abbrev cX4_wholeLength : ByteArray := prog_6_method_12_code
def yX4_wholeLength : MethodName := ⟨RX4, "wholeLength", "()I"⟩
abbrev cX4_dampIn : ByteArray := prog_6_method_13_code
def yX4_dampIn : MethodName := ⟨RX4, "dampIn", "(I)I"⟩
def RX5 : String := "FerretCables$Roaming"
def TX5 : u_T := fun k => match k with
  | 0 => ("FerretCables$Roaming", "pipes", "LFerretCables$Pipes;", true)
  | 1 => ("FerretCables$Roaming", "waysTo", "[I", true)
  | 2 => ("FerretCables$Roaming", "toFirst", "[I", true)
  | _ => ("FerretCables$Roaming", "toSecond", "[I", true)
def tyX5 : Nat → FieldType := fun k => match k with
  | 0 => .object "FerretCables$Pipes"
  | 1 => .array .int
  | 2 => .array .int
  | _ => .array .int
theorem nmX5 : ∀ a, a < 4 → ∀ b, b < 4 → a ≠ b → (TX5 a).2.1 ≠ (TX5 b).2.1 := by decide +kernel
theorem tyX5_ok : ∀ k, k < 4 → parseFieldDescriptor (TX5 k).2.2.1 = some (tyX5 k) := by decide +kernel
abbrev cX5_init : ByteArray := prog_7_method_1_code
def yX5_init : MethodName := ⟨RX5, "<init>", "(LFerretCables$Pipes;)V"⟩
abbrev cX5_follow : ByteArray := prog_7_method_2_code
def yX5_follow : MethodName := ⟨RX5, "follow", "(II)V"⟩
abbrev cX5_ring : ByteArray := prog_7_method_3_code
def yX5_ring : MethodName := ⟨RX5, "ring", "()V"⟩
abbrev cX5_possibleEnds : ByteArray := prog_7_method_4_code
def yX5_possibleEnds : MethodName := ⟨RX5, "possibleEnds", "()I"⟩
abbrev cX5_stroll : ByteArray := prog_7_method_5_code
def yX5_stroll : MethodName := ⟨RX5, "stroll", "(III)I"⟩
abbrev cX5_choicesAt : ByteArray := prog_7_method_6_code
def yX5_choicesAt : MethodName := ⟨RX5, "choicesAt", "(I)I"⟩
abbrev cX5_behindChoice : ByteArray := prog_7_method_7_code
def yX5_behindChoice : MethodName := ⟨RX5, "behindChoice", "(II)I"⟩
abbrev cX5_isChoice : ByteArray := prog_7_method_8_code
def yX5_isChoice : MethodName := ⟨RX5, "isChoice", "(II)Z"⟩
def RX6 : String := "FerretCables$Sheets"
def TX6 : u_T := fun k => match k with
  | 0 => ("FerretCables$Sheets", "items", "[I", true)
  | 1 => ("FerretCables$Sheets", "forms", "[I", true)
  | 2 => ("FerretCables$Sheets", "sizes", "[I", true)
  | _ => ("FerretCables$Sheets", "latest", "I", false)
def tyX6 : Nat → FieldType := fun k => match k with
  | 0 => .array .int
  | 1 => .array .int
  | 2 => .array .int
  | _ => .int
theorem nmX6 : ∀ a, a < 4 → ∀ b, b < 4 → a ≠ b → (TX6 a).2.1 ≠ (TX6 b).2.1 := by decide +kernel
theorem tyX6_ok : ∀ k, k < 4 → parseFieldDescriptor (TX6 k).2.2.1 = some (tyX6 k) := by decide +kernel
abbrev cX6_init : ByteArray := prog_8_method_1_code
def yX6_init : MethodName := ⟨RX6, "<init>", "()V"⟩
abbrev cX6_found : ByteArray := prog_8_method_2_code
def yX6_found : MethodName := ⟨RX6, "found", "(I)I"⟩
abbrev cX6_hasSheet : ByteArray := prog_8_method_3_code
def yX6_hasSheet : MethodName := ⟨RX6, "hasSheet", "(I)Z"⟩
abbrev cX6_isForm : ByteArray := prog_8_method_4_code
def yX6_isForm : MethodName := ⟨RX6, "isForm", "(I)Z"⟩
abbrev cX6_isLost : ByteArray := prog_8_method_5_code
def yX6_isLost : MethodName := ⟨RX6, "isLost", "(I)Z"⟩
abbrev cX6_renew : ByteArray := prog_8_method_6_code
def yX6_renew : MethodName := ⟨RX6, "renew", "(III)V"⟩
abbrev cX6_drop : ByteArray := prog_8_method_7_code
def yX6_drop : MethodName := ⟨RX6, "drop", "(I)V"⟩
abbrev cX6_findingAt : ByteArray := prog_8_method_8_code
def yX6_findingAt : MethodName := ⟨RX6, "findingAt", "(III)I"⟩
abbrev cX6_item : ByteArray := prog_8_method_9_code
def yX6_item : MethodName := ⟨RX6, "item", "(II)I"⟩
abbrev cX6_store : ByteArray := prog_8_method_10_code
def yX6_store : MethodName := ⟨RX6, "store", "(III)V"⟩
abbrev cX6_narrowed : ByteArray := prog_8_method_11_code
def yX6_narrowed : MethodName := ⟨RX6, "narrowed", "(II)I"⟩
abbrev cX6_hasSpan : ByteArray := prog_8_method_12_code
def yX6_hasSpan : MethodName := ⟨RX6, "hasSpan", "(III)Z"⟩
abbrev cX6_move : ByteArray := prog_8_method_13_code
def yX6_move : MethodName := ⟨RX6, "move", "(IIIII)V"⟩
def RX7 : String := "FerretCables$Ways"
def TX7 : u_T := fun k => match k with
  | 0 => ("FerretCables$Ways", "pipes", "LFerretCables$Pipes;", true)
  | 1 => ("FerretCables$Ways", "load", "[I", true)
  | 2 => ("FerretCables$Ways", "far", "[I", true)
  | 3 => ("FerretCables$Ways", "row", "[I", true)
  | _ => ("FerretCables$Ways", "rowSize", "I", false)
def tyX7 : Nat → FieldType := fun k => match k with
  | 0 => .object "FerretCables$Pipes"
  | 1 => .array .int
  | 2 => .array .int
  | 3 => .array .int
  | _ => .int
theorem nmX7 : ∀ a, a < 5 → ∀ b, b < 5 → a ≠ b → (TX7 a).2.1 ≠ (TX7 b).2.1 := by decide +kernel
theorem tyX7_ok : ∀ k, k < 5 → parseFieldDescriptor (TX7 k).2.2.1 = some (tyX7 k) := by decide +kernel
abbrev cX7_init : ByteArray := prog_9_method_1_code
def yX7_init : MethodName := ⟨RX7, "<init>", "(LFerretCables$Pipes;)V"⟩
abbrev cX7_isOpen : ByteArray := prog_9_method_2_code
def yX7_isOpen : MethodName := ⟨RX7, "isOpen", "(I)Z"⟩
abbrev cX7_find : ByteArray := prog_9_method_3_code
def yX7_find : MethodName := ⟨RX7, "find", "(II)Z"⟩
abbrev cX7_measure : ByteArray := prog_9_method_4_code
def yX7_measure : MethodName := ⟨RX7, "measure", "(I)V"⟩
abbrev cX7_shorten : ByteArray := prog_9_method_5_code
def yX7_shorten : MethodName := ⟨RX7, "shorten", "(I)Z"⟩
abbrev cX7_leastOnward : ByteArray := prog_9_method_6_code
def yX7_leastOnward : MethodName := ⟨RX7, "leastOnward", "(I)I"⟩
abbrev cX7_rowLength : ByteArray := prog_9_method_7_code
def yX7_rowLength : MethodName := ⟨RX7, "rowLength", "()I"⟩
abbrev cX7_rowBits : ByteArray := prog_9_method_8_code
def yX7_rowBits : MethodName := ⟨RX7, "rowBits", "()I"⟩
abbrev cX7_drawAlongRow : ByteArray := prog_9_method_9_code
def yX7_drawAlongRow : MethodName := ⟨RX7, "drawAlongRow", "(I)V"⟩
abbrev cX7_drawAll : ByteArray := prog_9_method_10_code
def yX7_drawAll : MethodName := ⟨RX7, "drawAll", "(II)I"⟩
abbrev cX7_roomInRow : ByteArray := prog_9_method_11_code
def yX7_roomInRow : MethodName := ⟨RX7, "roomInRow", "()I"⟩
abbrev cX7_reachedFrom : ByteArray := prog_9_method_12_code
def yX7_reachedFrom : MethodName := ⟨RX7, "reachedFrom", "(I)I"⟩
def RX8 : String := "FerretCables"
def TX8 : u_T := fun k => match k with
  | 0 => ("FerretCables", "pipes", "LFerretCables$Pipes;", true)
  | 1 => ("FerretCables", "ways", "LFerretCables$Ways;", true)
  | 2 => ("FerretCables", "book", "LFerretCables$Book;", true)
  | 3 => ("FerretCables", "flow", "LFerretCables$Flow;", true)
  | 4 => ("FerretCables", "lamps", "LFerretCables$Lamps;", true)
  | 5 => ("FerretCables", "roaming", "LFerretCables$Roaming;", true)
  | 6 => ("FerretCables", "jottings", "LFerretCables$Jottings;", true)
  | 7 => ("FerretCables", "sheets", "LFerretCables$Sheets;", true)
  | _ => ("FerretCables", "hard", "I", false)
def tyX8 : Nat → FieldType := fun k => match k with
  | 0 => .object "FerretCables$Pipes"
  | 1 => .object "FerretCables$Ways"
  | 2 => .object "FerretCables$Book"
  | 3 => .object "FerretCables$Flow"
  | 4 => .object "FerretCables$Lamps"
  | 5 => .object "FerretCables$Roaming"
  | 6 => .object "FerretCables$Jottings"
  | 7 => .object "FerretCables$Sheets"
  | _ => .int
theorem nmX8 : ∀ a, a < 9 → ∀ b, b < 9 → a ≠ b → (TX8 a).2.1 ≠ (TX8 b).2.1 := by decide +kernel
theorem tyX8_ok : ∀ k, k < 9 → parseFieldDescriptor (TX8 k).2.2.1 = some (tyX8 k) := by decide +kernel
abbrev cX8_init : ByteArray := prog_1_method_1_code
def yX8_init : MethodName := ⟨RX8, "<init>", "()V"⟩
abbrev cX8_type : ByteArray := prog_1_method_2_code
def yX8_type : MethodName := ⟨RX8, "type", "(I)I"⟩
abbrev cX8_wipe : ByteArray := prog_1_method_3_code
def yX8_wipe : MethodName := ⟨RX8, "wipe", "()I"⟩
abbrev cX8_undo : ByteArray := prog_1_method_4_code
def yX8_undo : MethodName := ⟨RX8, "undo", "()I"⟩
abbrev cX8_fault : ByteArray := prog_1_method_5_code
def yX8_fault : MethodName := ⟨RX8, "fault", "()I"⟩
abbrev cX8_pipe : ByteArray := prog_1_method_6_code
def yX8_pipe : MethodName := ⟨RX8, "pipe", "(II)I"⟩
abbrev cX8_set : ByteArray := prog_1_method_7_code
def yX8_set : MethodName := ⟨RX8, "set", "(II)I"⟩
abbrev cX8_setShut : ByteArray := prog_1_method_8_code
def yX8_setShut : MethodName := ⟨RX8, "setShut", "(I)I"⟩
abbrev cX8_setTakes : ByteArray := prog_1_method_9_code
def yX8_setTakes : MethodName := ⟨RX8, "setTakes", "(I)I"⟩
abbrev cX8_setHard : ByteArray := prog_1_method_10_code
def yX8_setHard : MethodName := ⟨RX8, "setHard", "(I)I"⟩
abbrev cX8_letIn : ByteArray := prog_1_method_11_code
def yX8_letIn : MethodName := ⟨RX8, "letIn", "(II)I"⟩
abbrev cX8_pull : ByteArray := prog_1_method_12_code
def yX8_pull : MethodName := ⟨RX8, "pull", "(I)I"⟩
abbrev cX8_back : ByteArray := prog_1_method_13_code
def yX8_back : MethodName := ⟨RX8, "back", "()I"⟩
abbrev cX8_read : ByteArray := prog_1_method_14_code
def yX8_read : MethodName := ⟨RX8, "read", "(I)I"⟩
abbrev cX8_judged : ByteArray := prog_1_method_15_code
def yX8_judged : MethodName := ⟨RX8, "judged", "()I"⟩
abbrev cX8_state : ByteArray := prog_1_method_16_code
def yX8_state : MethodName := ⟨RX8, "state", "(II)I"⟩
abbrev cX8_wire : ByteArray := prog_1_method_17_code
def yX8_wire : MethodName := ⟨RX8, "wire", "(II)I"⟩
abbrev cX8_out : ByteArray := prog_1_method_18_code
def yX8_out : MethodName := ⟨RX8, "out", "(I)I"⟩
abbrev cX8_shortest : ByteArray := prog_1_method_19_code
def yX8_shortest : MethodName := ⟨RX8, "shortest", "(III)I"⟩
abbrev cX8_most : ByteArray := prog_1_method_20_code
def yX8_most : MethodName := ⟨RX8, "most", "(III)I"⟩
abbrev cX8_fails : ByteArray := prog_1_method_21_code
def yX8_fails : MethodName := ⟨RX8, "fails", "(I)I"⟩
abbrev cX8_soonest : ByteArray := prog_1_method_22_code
def yX8_soonest : MethodName := ⟨RX8, "soonest", "()I"⟩
abbrev cX8_left : ByteArray := prog_1_method_23_code
def yX8_left : MethodName := ⟨RX8, "left", "(I)I"⟩
abbrev cX8_burns : ByteArray := prog_1_method_24_code
def yX8_burns : MethodName := ⟨RX8, "burns", "(I)I"⟩
abbrev cX8_lit : ByteArray := prog_1_method_25_code
def yX8_lit : MethodName := ⟨RX8, "lit", "(II)I"⟩
abbrev cX8_heard : ByteArray := prog_1_method_26_code
def yX8_heard : MethodName := ⟨RX8, "heard", "(III)I"⟩
abbrev cX8_meet : ByteArray := prog_1_method_27_code
def yX8_meet : MethodName := ⟨RX8, "meet", "(IIII)I"⟩
abbrev cX8_drowsy : ByteArray := prog_1_method_28_code
def yX8_drowsy : MethodName := ⟨RX8, "drowsy", "(III)I"⟩
abbrev cX8_chalk : ByteArray := prog_1_method_29_code
def yX8_chalk : MethodName := ⟨RX8, "chalk", "(III)I"⟩
abbrev cX8_lies : ByteArray := prog_1_method_30_code
def yX8_lies : MethodName := ⟨RX8, "lies", "()I"⟩
abbrev cX8_scene : ByteArray := prog_1_method_31_code
def yX8_scene : MethodName := ⟨RX8, "scene", "(I)I"⟩
abbrev cX8_scenes : ByteArray := prog_1_method_32_code
def yX8_scenes : MethodName := ⟨RX8, "scenes", "(I)I"⟩
abbrev cX8_cue : ByteArray := prog_1_method_33_code
def yX8_cue : MethodName := ⟨RX8, "cue", "(I)I"⟩
abbrev cX8_forget : ByteArray := prog_1_method_34_code
def yX8_forget : MethodName := ⟨RX8, "forget", "(I)I"⟩
abbrev cX8_sheet : ByteArray := prog_1_method_35_code
def yX8_sheet : MethodName := ⟨RX8, "sheet", "(III)I"⟩
abbrev cX8_lose : ByteArray := prog_1_method_36_code
def yX8_lose : MethodName := ⟨RX8, "lose", "(I)I"⟩
abbrev cX8_lay : ByteArray := prog_1_method_37_code
def yX8_lay : MethodName := ⟨RX8, "lay", "(IIII)I"⟩
abbrev cX8_get : ByteArray := prog_1_method_38_code
def yX8_get : MethodName := ⟨RX8, "get", "(III)I"⟩
abbrev cX8_copy : ByteArray := prog_1_method_39_code
def yX8_copy : MethodName := ⟨RX8, "copy", "(IIIII)I"⟩
abbrev cX8_write : ByteArray := prog_1_method_40_code
def yX8_write : MethodName := ⟨RX8, "write", "(III)I"⟩
abbrev cX8_count : ByteArray := prog_1_method_41_code
def yX8_count : MethodName := ⟨RX8, "count", "(I)I"⟩
abbrev cX8_digest : ByteArray := prog_1_method_42_code
def yX8_digest : MethodName := ⟨RX8, "digest", "()J"⟩
abbrev cX8_mixPipes : ByteArray := prog_1_method_43_code
def yX8_mixPipes : MethodName := ⟨RX8, "mixPipes", "(J)J"⟩
abbrev cX8_mixWires : ByteArray := prog_1_method_44_code
def yX8_mixWires : MethodName := ⟨RX8, "mixWires", "(J)J"⟩
abbrev cX8_mixEnds : ByteArray := prog_1_method_45_code
def yX8_mixEnds : MethodName := ⟨RX8, "mixEnds", "(J)J"⟩
abbrev cX8_mix : ByteArray := prog_1_method_46_code
def yX8_mix : MethodName := ⟨RX8, "mix", "(JI)J"⟩
abbrev cX8_within : ByteArray := prog_1_method_47_code
def yX8_within : MethodName := ⟨RX8, "within", "(III)Z"⟩
abbrev cX8_isEnd : ByteArray := prog_1_method_48_code
def yX8_isEnd : MethodName := ⟨RX8, "isEnd", "(I)Z"⟩
abbrev cX8_areTwoEnds : ByteArray := prog_1_method_49_code
def yX8_areTwoEnds : MethodName := ⟨RX8, "areTwoEnds", "(II)Z"⟩
abbrev cX8_isWire : ByteArray := prog_1_method_50_code
def yX8_isWire : MethodName := ⟨RX8, "isWire", "(I)Z"⟩
abbrev cX8_isBehind : ByteArray := prog_1_method_51_code
def yX8_isBehind : MethodName := ⟨RX8, "isBehind", "(I)Z"⟩
abbrev cX8_bit : ByteArray := prog_1_method_52_code
def yX8_bit : MethodName := ⟨RX8, "bit", "(I)I"⟩
abbrev cX8_hasBit : ByteArray := prog_1_method_53_code
def yX8_hasBit : MethodName := ⟨RX8, "hasBit", "(II)Z"⟩
abbrev cX8_findWay : ByteArray := prog_1_method_54_code
def yX8_findWay : MethodName := ⟨RX8, "findWay", "(II)Z"⟩
abbrev cX8_burningBehind : ByteArray := prog_1_method_55_code
def yX8_burningBehind : MethodName := ⟨RX8, "burningBehind", "(I)I"⟩
abbrev cX8_failingDay : ByteArray := prog_1_method_56_code
def yX8_failingDay : MethodName := ⟨RX8, "failingDay", "(II)I"⟩
def RX9 : String := "FerretCablesModel"
def TX9 : u_T := fun k => match k with
  | 0 => ("FerretCablesModel", "forms", "[I", true)
  | 1 => ("FerretCablesModel", "sizes", "[I", true)
  | 2 => ("FerretCablesModel", "items", "[I", true)
  | 3 => ("FerretCablesModel", "moved", "[I", true)
  | 4 => ("FerretCablesModel", "latest", "I", false)
  | 5 => ("FerretCablesModel", "text", "[I", true)
  | 6 => ("FerretCablesModel", "typed", "I", false)
  | 7 => ("FerretCablesModel", "at", "I", false)
  | 8 => ("FerretCablesModel", "pipes", "I", false)
  | 9 => ("FerretCablesModel", "pipe", "[I", true)
  | 10 => ("FerretCablesModel", "settings", "[I", true)
  | 11 => ("FerretCablesModel", "steps", "I", false)
  | 12 => ("FerretCablesModel", "step", "[I", true)
  | 13 => ("FerretCablesModel", "wire", "[I", true)
  | 14 => ("FerretCablesModel", "has", "[I", true)
  | 15 => ("FerretCablesModel", "lying", "I", false)
  | 16 => ("FerretCablesModel", "doneMany", "I", false)
  | 17 => ("FerretCablesModel", "firstNot", "I", false)
  | 18 => ("FerretCablesModel", "far", "[I", true)
  | 19 => ("FerretCablesModel", "way", "[I", true)
  | 20 => ("FerretCablesModel", "kept", "[I", true)
  | 21 => ("FerretCablesModel", "flow", "[I", true)
  | 22 => ("FerretCablesModel", "cameBy", "[I", true)
  | 23 => ("FerretCablesModel", "lets", "[I", true)
  | 24 => ("FerretCablesModel", "ways", "[I", true)
  | 25 => ("FerretCablesModel", "then", "[I", true)
  | 26 => ("FerretCablesModel", "marks", "I", false)
  | 27 => ("FerretCablesModel", "mark", "[I", true)
  | 28 => ("FerretCablesModel", "sceneMany", "I", false)
  | _ => ("FerretCablesModel", "scene", "[I", true)
def tyX9 : Nat → FieldType := fun k => match k with
  | 0 => .array .int
  | 1 => .array .int
  | 2 => .array .int
  | 3 => .array .int
  | 4 => .int
  | 5 => .array .int
  | 6 => .int
  | 7 => .int
  | 8 => .int
  | 9 => .array .int
  | 10 => .array .int
  | 11 => .int
  | 12 => .array .int
  | 13 => .array .int
  | 14 => .array .int
  | 15 => .int
  | 16 => .int
  | 17 => .int
  | 18 => .array .int
  | 19 => .array .int
  | 20 => .array .int
  | 21 => .array .int
  | 22 => .array .int
  | 23 => .array .int
  | 24 => .array .int
  | 25 => .array .int
  | 26 => .int
  | 27 => .array .int
  | 28 => .int
  | _ => .array .int
theorem nmX9 : ∀ a, a < 30 → ∀ b, b < 30 → a ≠ b → (TX9 a).2.1 ≠ (TX9 b).2.1 := by decide +kernel
theorem tyX9_ok : ∀ k, k < 30 → parseFieldDescriptor (TX9 k).2.2.1 = some (tyX9 k) := by decide +kernel
abbrev cX9_init : ByteArray := prog_11_method_1_code
def yX9_init : MethodName := ⟨RX9, "<init>", "()V"⟩
abbrev cX9_in : ByteArray := prog_11_method_3_code
def yX9_in : MethodName := ⟨RX9, "in", "(JJJ)Z"⟩
abbrev cX9_isTwo : ByteArray := prog_11_method_4_code
def yX9_isTwo : MethodName := ⟨RX9, "isTwo", "(I)Z"⟩
abbrev cX9_isIn : ByteArray := prog_11_method_5_code
def yX9_isIn : MethodName := ⟨RX9, "isIn", "(II)Z"⟩
abbrev cX9_ones : ByteArray := prog_11_method_6_code
def yX9_ones : MethodName := ⟨RX9, "ones", "(I)I"⟩
abbrev cX9_finds : ByteArray := prog_11_method_7_code
def yX9_finds : MethodName := ⟨RX9, "finds", "(I)I"⟩
abbrev cX9_isSheet : ByteArray := prog_11_method_8_code
def yX9_isSheet : MethodName := ⟨RX9, "isSheet", "(I)Z"⟩
abbrev cX9_sheet : ByteArray := prog_11_method_9_code
def yX9_sheet : MethodName := ⟨RX9, "sheet", "(III)I"⟩
abbrev cX9_lose : ByteArray := prog_11_method_10_code
def yX9_lose : MethodName := ⟨RX9, "lose", "(I)I"⟩
abbrev cX9_lacks : ByteArray := prog_11_method_11_code
def yX9_lacks : MethodName := ⟨RX9, "lacks", "(III)I"⟩
abbrev cX9_cut : ByteArray := prog_11_method_12_code
def yX9_cut : MethodName := ⟨RX9, "cut", "(II)I"⟩
abbrev cX9_lay : ByteArray := prog_11_method_13_code
def yX9_lay : MethodName := ⟨RX9, "lay", "(IIII)I"⟩
abbrev cX9_get : ByteArray := prog_11_method_14_code
def yX9_get : MethodName := ⟨RX9, "get", "(III)I"⟩
abbrev cX9_copy : ByteArray := prog_11_method_15_code
def yX9_copy : MethodName := ⟨RX9, "copy", "(IIIII)I"⟩
abbrev cX9_type : ByteArray := prog_11_method_16_code
def yX9_type : MethodName := ⟨RX9, "type", "(I)I"⟩
abbrev cX9_wipe : ByteArray := prog_11_method_17_code
def yX9_wipe : MethodName := ⟨RX9, "wipe", "()I"⟩
abbrev cX9_readsPipe : ByteArray := prog_11_method_18_code
def yX9_readsPipe : MethodName := ⟨RX9, "readsPipe", "()Z"⟩
abbrev cX9_reads : ByteArray := prog_11_method_19_code
def yX9_reads : MethodName := ⟨RX9, "reads", "()I"⟩
abbrev cX9_fault : ByteArray := prog_11_method_20_code
def yX9_fault : MethodName := ⟨RX9, "fault", "()I"⟩
abbrev cX9_undo : ByteArray := prog_11_method_21_code
def yX9_undo : MethodName := ⟨RX9, "undo", "()I"⟩
abbrev cX9_set : ByteArray := prog_11_method_22_code
def yX9_set : MethodName := ⟨RX9, "set", "(II)I"⟩
abbrev cX9_isEnd : ByteArray := prog_11_method_23_code
def yX9_isEnd : MethodName := ⟨RX9, "isEnd", "(I)Z"⟩
abbrev cX9_isWire : ByteArray := prog_11_method_24_code
def yX9_isWire : MethodName := ⟨RX9, "isWire", "(I)Z"⟩
abbrev cX9_areEnds : ByteArray := prog_11_method_25_code
def yX9_areEnds : MethodName := ⟨RX9, "areEnds", "(II)Z"⟩
abbrev cX9_more : ByteArray := prog_11_method_26_code
def yX9_more : MethodName := ⟨RX9, "more", "(II)I"⟩
abbrev cX9_letIn : ByteArray := prog_11_method_27_code
def yX9_letIn : MethodName := ⟨RX9, "letIn", "(II)I"⟩
abbrev cX9_pull : ByteArray := prog_11_method_28_code
def yX9_pull : MethodName := ⟨RX9, "pull", "(I)I"⟩
abbrev cX9_back : ByteArray := prog_11_method_29_code
def yX9_back : MethodName := ⟨RX9, "back", "()I"⟩
abbrev cX9_read : ByteArray := prog_11_method_30_code
def yX9_read : MethodName := ⟨RX9, "read", "(I)I"⟩
abbrev cX9_other : ByteArray := prog_11_method_31_code
def yX9_other : MethodName := ⟨RX9, "other", "(II)I"⟩
abbrev cX9_isOpen : ByteArray := prog_11_method_32_code
def yX9_isOpen : MethodName := ⟨RX9, "isOpen", "(I)Z"⟩
abbrev cX9_findFar : ByteArray := prog_11_method_33_code
def yX9_findFar : MethodName := ⟨RX9, "findFar", "(I)V"⟩
abbrev cX9_findWay : ByteArray := prog_11_method_34_code
def yX9_findWay : MethodName := ⟨RX9, "findWay", "(II)I"⟩
abbrev cX9_draws : ByteArray := prog_11_method_35_code
def yX9_draws : MethodName := ⟨RX9, "draws", "(II)I"⟩
abbrev cX9_canPull : ByteArray := prog_11_method_36_code
def yX9_canPull : MethodName := ⟨RX9, "canPull", "(I)Z"⟩
abbrev cX9_pulls : ByteArray := prog_11_method_37_code
def yX9_pulls : MethodName := ⟨RX9, "pulls", "(I)V"⟩
abbrev cX9_goes : ByteArray := prog_11_method_38_code
def yX9_goes : MethodName := ⟨RX9, "goes", "(I)V"⟩
abbrev cX9_goesAll : ByteArray := prog_11_method_39_code
def yX9_goesAll : MethodName := ⟨RX9, "goesAll", "()V"⟩
abbrev cX9_pipe : ByteArray := prog_11_method_40_code
def yX9_pipe : MethodName := ⟨RX9, "pipe", "(II)I"⟩
abbrev cX9_judged : ByteArray := prog_11_method_41_code
def yX9_judged : MethodName := ⟨RX9, "judged", "()I"⟩
abbrev cX9_fullNow : ByteArray := prog_11_method_42_code
def yX9_fullNow : MethodName := ⟨RX9, "fullNow", "()I"⟩
abbrev cX9_stateOf : ByteArray := prog_11_method_43_code
def yX9_stateOf : MethodName := ⟨RX9, "stateOf", "(II)I"⟩
abbrev cX9_state : ByteArray := prog_11_method_44_code
def yX9_state : MethodName := ⟨RX9, "state", "(II)I"⟩
abbrev cX9_pipesOf : ByteArray := prog_11_method_45_code
def yX9_pipesOf : MethodName := ⟨RX9, "pipesOf", "(I)I"⟩
abbrev cX9_wire : ByteArray := prog_11_method_46_code
def yX9_wire : MethodName := ⟨RX9, "wire", "(II)I"⟩
abbrev cX9_outOf : ByteArray := prog_11_method_47_code
def yX9_outOf : MethodName := ⟨RX9, "outOf", "(I)I"⟩
abbrev cX9_out : ByteArray := prog_11_method_48_code
def yX9_out : MethodName := ⟨RX9, "out", "(I)I"⟩
abbrev cX9_shortestOf : ByteArray := prog_11_method_49_code
def yX9_shortestOf : MethodName := ⟨RX9, "shortestOf", "(III)I"⟩
abbrev cX9_shortest : ByteArray := prog_11_method_50_code
def yX9_shortest : MethodName := ⟨RX9, "shortest", "(III)I"⟩
abbrev cX9_keeps : ByteArray := prog_11_method_51_code
def yX9_keeps : MethodName := ⟨RX9, "keeps", "()V"⟩
abbrev cX9_putsBack : ByteArray := prog_11_method_52_code
def yX9_putsBack : MethodName := ⟨RX9, "putsBack", "()V"⟩
abbrev cX9_drawnOf : ByteArray := prog_11_method_53_code
def yX9_drawnOf : MethodName := ⟨RX9, "drawnOf", "(II)I"⟩
abbrev cX9_flows : ByteArray := prog_11_method_54_code
def yX9_flows : MethodName := ⟨RX9, "flows", "(II)Z"⟩
abbrev cX9_mostOf : ByteArray := prog_11_method_55_code
def yX9_mostOf : MethodName := ⟨RX9, "mostOf", "(II)I"⟩
abbrev cX9_most : ByteArray := prog_11_method_56_code
def yX9_most : MethodName := ⟨RX9, "most", "(III)I"⟩
abbrev cX9_failsOf : ByteArray := prog_11_method_57_code
def yX9_failsOf : MethodName := ⟨RX9, "failsOf", "(I)I"⟩
abbrev cX9_fails : ByteArray := prog_11_method_58_code
def yX9_fails : MethodName := ⟨RX9, "fails", "(I)I"⟩
abbrev cX9_soonestNow : ByteArray := prog_11_method_59_code
def yX9_soonestNow : MethodName := ⟨RX9, "soonestNow", "()I"⟩
abbrev cX9_soonest : ByteArray := prog_11_method_60_code
def yX9_soonest : MethodName := ⟨RX9, "soonest", "()I"⟩
abbrev cX9_leftOn : ByteArray := prog_11_method_61_code
def yX9_leftOn : MethodName := ⟨RX9, "leftOn", "(I)I"⟩
abbrev cX9_left : ByteArray := prog_11_method_62_code
def yX9_left : MethodName := ⟨RX9, "left", "(I)I"⟩
abbrev cX9_burnsBy : ByteArray := prog_11_method_63_code
def yX9_burnsBy : MethodName := ⟨RX9, "burnsBy", "(IIIII)I"⟩
abbrev cX9_joined : ByteArray := prog_11_method_64_code
def yX9_joined : MethodName := ⟨RX9, "joined", "(III)I"⟩
abbrev cX9_burnsNow : ByteArray := prog_11_method_65_code
def yX9_burnsNow : MethodName := ⟨RX9, "burnsNow", "(I)I"⟩
abbrev cX9_burns : ByteArray := prog_11_method_66_code
def yX9_burns : MethodName := ⟨RX9, "burns", "(I)I"⟩
abbrev cX9_lights : ByteArray := prog_11_method_67_code
def yX9_lights : MethodName := ⟨RX9, "lights", "(III)Z"⟩
abbrev cX9_findLit : ByteArray := prog_11_method_68_code
def yX9_findLit : MethodName := ⟨RX9, "findLit", "(I)V"⟩
abbrev cX9_lit : ByteArray := prog_11_method_69_code
def yX9_lit : MethodName := ⟨RX9, "lit", "(II)I"⟩
abbrev cX9_outAt : ByteArray := prog_11_method_70_code
def yX9_outAt : MethodName := ⟨RX9, "outAt", "(I)I"⟩
abbrev cX9_inAt : ByteArray := prog_11_method_71_code
def yX9_inAt : MethodName := ⟨RX9, "inAt", "(I)I"⟩
abbrev cX9_goesThrough : ByteArray := prog_11_method_72_code
def yX9_goesThrough : MethodName := ⟨RX9, "goesThrough", "(I)Z"⟩
abbrev cX9_walks : ByteArray := prog_11_method_73_code
def yX9_walks : MethodName := ⟨RX9, "walks", "(II)V"⟩
abbrev cX9_waysTo : ByteArray := prog_11_method_74_code
def yX9_waysTo : MethodName := ⟨RX9, "waysTo", "(III)I"⟩
abbrev cX9_heardOf : ByteArray := prog_11_method_75_code
def yX9_heardOf : MethodName := ⟨RX9, "heardOf", "(III)I"⟩
abbrev cX9_heard : ByteArray := prog_11_method_76_code
def yX9_heard : MethodName := ⟨RX9, "heard", "(III)I"⟩
abbrev cX9_meetOf : ByteArray := prog_11_method_77_code
def yX9_meetOf : MethodName := ⟨RX9, "meetOf", "(IIII)I"⟩
abbrev cX9_meet : ByteArray := prog_11_method_78_code
def yX9_meet : MethodName := ⟨RX9, "meet", "(IIII)I"⟩
abbrev cX9_drowsyOf : ByteArray := prog_11_method_79_code
def yX9_drowsyOf : MethodName := ⟨RX9, "drowsyOf", "(III)I"⟩
abbrev cX9_drowsy : ByteArray := prog_11_method_80_code
def yX9_drowsy : MethodName := ⟨RX9, "drowsy", "(III)I"⟩
abbrev cX9_chalk : ByteArray := prog_11_method_81_code
def yX9_chalk : MethodName := ⟨RX9, "chalk", "(III)I"⟩
abbrev cX9_liesNow : ByteArray := prog_11_method_82_code
def yX9_liesNow : MethodName := ⟨RX9, "liesNow", "()I"⟩
abbrev cX9_lies : ByteArray := prog_11_method_83_code
def yX9_lies : MethodName := ⟨RX9, "lies", "()I"⟩
abbrev cX9_scene : ByteArray := prog_11_method_84_code
def yX9_scene : MethodName := ⟨RX9, "scene", "(I)I"⟩
abbrev cX9_scenesOf : ByteArray := prog_11_method_85_code
def yX9_scenesOf : MethodName := ⟨RX9, "scenesOf", "(I)I"⟩
abbrev cX9_scenes : ByteArray := prog_11_method_86_code
def yX9_scenes : MethodName := ⟨RX9, "scenes", "(I)I"⟩
abbrev cX9_cueOf : ByteArray := prog_11_method_87_code
def yX9_cueOf : MethodName := ⟨RX9, "cueOf", "(I)I"⟩
abbrev cX9_cue : ByteArray := prog_11_method_88_code
def yX9_cue : MethodName := ⟨RX9, "cue", "(I)I"⟩
abbrev cX9_forget : ByteArray := prog_11_method_89_code
def yX9_forget : MethodName := ⟨RX9, "forget", "(I)I"⟩
abbrev cX9_write : ByteArray := prog_11_method_90_code
def yX9_write : MethodName := ⟨RX9, "write", "(III)I"⟩
abbrev cX9_count : ByteArray := prog_11_method_91_code
def yX9_count : MethodName := ⟨RX9, "count", "(I)I"⟩
abbrev cX9_digest : ByteArray := prog_11_method_92_code
def yX9_digest : MethodName := ⟨RX9, "digest", "()J"⟩
def RJ6 : String := "java/lang/Integer"
def TJ6 : u_T := fun k => match k with
  | _ => ("", "", "", false)
def tyJ6 : Nat → FieldType := fun k => match k with
  | _ => .int
theorem nmJ6 : ∀ a, a < 0 → ∀ b, b < 0 → a ≠ b → (TJ6 a).2.1 ≠ (TJ6 b).2.1 := by decide +kernel
theorem tyJ6_ok : ∀ k, k < 0 → parseFieldDescriptor (TJ6 k).2.2.1 = some (tyJ6 k) := by decide +kernel
abbrev cJ6_bitCount_0f7a4 : ByteArray := prog_12_method_49_code
def yJ6_bitCount_0f7a4 : MethodName := ⟨RJ6, "bitCount", "(I)I"⟩
def RJ9 : String := "java/lang/Math"
def TJ9 : u_T := fun k => match k with
  | _ => ("", "", "", false)
def tyJ9 : Nat → FieldType := fun k => match k with
  | _ => .int
theorem nmJ9 : ∀ a, a < 0 → ∀ b, b < 0 → a ≠ b → (TJ9 a).2.1 ≠ (TJ9 b).2.1 := by decide +kernel
theorem tyJ9_ok : ∀ k, k < 0 → parseFieldDescriptor (TJ9 k).2.2.1 = some (tyJ9 k) := by decide +kernel
abbrev cJ9_abs_0f7a4 : ByteArray := prog_13_method_59_code
def yJ9_abs_0f7a4 : MethodName := ⟨RJ9, "abs", "(I)I"⟩
abbrev cJ9_max_7cf53 : ByteArray := prog_13_method_65_code
def yJ9_max_7cf53 : MethodName := ⟨RJ9, "max", "(II)I"⟩
abbrev cJ9_min_7cf53 : ByteArray := prog_13_method_69_code
def yJ9_min_7cf53 : MethodName := ⟨RJ9, "min", "(II)I"⟩
def RJ10 : String := "java/lang/System"
def TJ10 : u_T := fun k => match k with
  | _ => ("", "", "", false)
def tyJ10 : Nat → FieldType := fun k => match k with
  | _ => .int
theorem nmJ10 : ∀ a, a < 0 → ∀ b, b < 0 → a ≠ b → (TJ10 a).2.1 ≠ (TJ10 b).2.1 := by decide +kernel
theorem tyJ10_ok : ∀ k, k < 0 → parseFieldDescriptor (TJ10 k).2.2.1 = some (tyJ10 k) := by decide +kernel
def RJ7 : String := "java/util/Arrays"
def TJ7 : u_T := fun k => match k with
  | _ => ("", "", "", false)
def tyJ7 : Nat → FieldType := fun k => match k with
  | _ => .int
theorem nmJ7 : ∀ a, a < 0 → ∀ b, b < 0 → a ≠ b → (TJ7 a).2.1 ≠ (TJ7 b).2.1 := by decide +kernel
theorem tyJ7_ok : ∀ k, k < 0 → parseFieldDescriptor (TJ7 k).2.2.1 = some (tyJ7 k) := by decide +kernel
abbrev cJ7_fill_53178 : ByteArray := prog_15_method_103_code
def yJ7_fill_53178 : MethodName := ⟨RJ7, "fill", "([II)V"⟩
def RL : String := "FerretCablesLaw"
abbrev cL_law : ByteArray := code
def yL_law : MethodName := ⟨RL, "law", "([I)Z"⟩
abbrev vwCl : List vw_C := [(RX0, TX0, 7), (RX1, TX1, 5), (RX2, TX2, 5), (RX3, TX3, 6), (RX4, TX4, 11), (RX5, TX5, 4), (RX6, TX6, 4), (RX7, TX7, 5), (RX8, TX8, 9), (RX9, TX9, 30)]
end
section
/-! the world of the two objects as one function; the judgement Wp; a row an instruction -/
abbrev Sg : Type := Nat → Nat → Int32
def sgU (g : Sg) (k j : Nat) (x : Int32) : Sg := fun k' => if k' = k then upd (g k') j x else g k'
def sgC (g : Sg) (k : Nat) (f : Nat → Int32) : Sg := fun k' => if k' = k then f else g k'
abbrev Shp : Type := Nat ⊕ (Nat × List (Option Nat))
/-- the cells: 0 FerretCables, 1 Pipes (2..6 its rows), 7 Ways (8..10), 11 Book (12..15), 16 Flow (17..19), 20 Lamps (21), 22 Roaming (23..25), 26 Jottings (27..29), 30 Sheets (31..33), 34 the reference (35..54 its rows) -/
def shape : List Shp := [
  .inr (8, [some 1, some 7, some 11, some 16, some 20, some 22, some 26, some 30, none]),
  .inr (4, [some 2, some 3, some 4, some 5, some 6, none, none, none, none, none, none]),
  .inl 79, .inl 16, .inl 16, .inl 16, .inl 16,
  .inr (7, [some 1, some 8, some 9, some 10, none]),
  .inl 16, .inl 8, .inl 8,
  .inr (0, [some 7, some 1, some 12, some 13, some 14, some 15, none]),
  .inl 16, .inl 16, .inl 17, .inl 16,
  .inr (1, [some 7, some 1, some 17, some 18, some 19]),
  .inl 16, .inl 8, .inl 8,
  .inr (3, [some 11, some 7, some 21, none, none, none]),
  .inl 8,
  .inr (5, [some 1, some 23, some 24, some 25]),
  .inl 8, .inl 16, .inl 16,
  .inr (2, [some 27, some 28, some 29, none, none]),
  .inl 8, .inl 8, .inl 6,
  .inr (6, [some 31, some 32, some 33, none]),
  .inl 240, .inl 4, .inl 4,
  .inr (9, [some 35, some 36, some 37, some 38, none, some 39, none, none, none, some 40, some 41, none, some 42, some 43, some 44, none, none, none, some 45, some 46, some 47, some 48, some 49, some 50, some 51, some 52, none, some 53, none, some 54]),
  .inl 4, .inl 4, .inl 240, .inl 60, .inl 79, .inl 64, .inl 3, .inl 32, .inl 16, .inl 16, .inl 8, .inl 16, .inl 16, .inl 16, .inl 8, .inl 3, .inl 32, .inl 32, .inl 24, .inl 6]
def rv (ad : Nat → Nat) : Value → Value
  | .ref a => .ref (ad a)
  | v => v
theorem rv_cat (ad : Nat → Nat) (v : Value) : (rv ad v).category = v.category := by cases v <;> rfl
def wfld (ad : Nat → Nat) (g : Sg) (k j : Nat) : Option Nat → Value
  | some r => .ref (ad r)
  | none => .int (g k j)
def wcell (ad : Nat → Nat) (cA : ClassId) (g : Sg) (k : Nat) : Shp → va_E
  | .inl n => .inl (cA, n, .inl (g k))
  | .inr (ci, fs) => .inr (ci, fs.mapIdx (fun j o => wfld ad g k j o))
def wl (ad : Nat → Nat) (cA : ClassId) (g : Sg) : va_W := shape.mapIdx (fun k c => (ad k, wcell ad cA g k c))
theorem wl_at {ad : Nat → Nat} {cA : ClassId} {g : Sg} {k : Nat} {c : Shp} (h : shape[k]? = some c) : (wl ad cA g)[k]? = some (ad k, wcell ad cA g k c) := by
  simp [wl, List.getElem?_mapIdx, h]
theorem wl_of {ad : Nat → Nat} {cA : ClassId} {g : Sg} {k : Nat} {q : Nat × va_E} (h : (wl ad cA g)[k]? = some q) : ∃ c, shape[k]? = some c ∧ q = (ad k, wcell ad cA g k c) := by
  simp only [wl, List.getElem?_mapIdx] at h
  cases hc : shape[k]? with
  | none => rw [hc] at h; cases h
  | some c => rw [hc] at h; exact ⟨c, rfl, (Option.some.inj h).symm⟩
theorem wl_set {ad : Nat → Nat} {cA : ClassId} {g g' : Sg} {k : Nat} {c : Shp} {x : va_E} (h : shape[k]? = some c) (hx : wcell ad cA g' k c = x) (ho : ∀ i, i ≠ k → g' i = g i) : (wl ad cA g).set k (ad k, x) = wl ad cA g' := by
  apply List.ext_getElem?
  intro i
  rw [List.getElem?_set]
  have hlk : k < (wl ad cA g).length := by
    have h1 := wl_at (ad := ad) (cA := cA) (g := g) h
    exact (List.getElem?_eq_some_iff.mp h1).1
  by_cases hi : k = i
  · subst hi
    rw [if_pos rfl, if_pos hlk, wl_at h, hx]
  · rw [if_neg hi]
    simp only [wl, List.getElem?_mapIdx]
    cases hc : shape[i]? with
    | none => rfl
    | some c' =>
      have e := ho i (fun q => hi q.symm)
      have e2 : wcell ad cA g' i c' = wcell ad cA g i c' := by
        cases c' with
        | inl n => simp [wcell, e]
        | inr o =>
          obtain ⟨ci, fs⟩ := o
          have : (fun j o => wfld ad g' i j o) = (fun j o => wfld ad g i j o) := by
            funext j o
            cases o <;> simp [wfld, e]
          simp [wcell, this]
      simp [e2]
def wA (ad : Nat → Nat) : Nat → Prop := fun q => ∃ k, k < 55 ∧ q = ad k
def adI (ad : Nat → Nat) : Prop := ∀ i j, i < 55 → j < 55 → ad i = ad j → i = j
theorem shape_lt {k : Nat} {c : Shp} (h : shape[k]? = some c) : k < 55 := (List.getElem?_eq_some_iff.mp h).1
theorem wl_D {ad : Nat → Nat} {cA : ClassId} {g : Sg} (h : adI ad) : va_D (wA ad) (wl ad cA g) := by
  refine ⟨fun i j p q hi hj e => ?_, fun k q hk => ?_⟩
  · obtain ⟨c, h1, rfl⟩ := wl_of hi
    obtain ⟨d, h2, rfl⟩ := wl_of hj
    exact h i j (shape_lt h1) (shape_lt h2) e
  · obtain ⟨c, h1, rfl⟩ := wl_of hk
    exact ⟨k, shape_lt h1, rfl⟩
/-- a method: name, code, locals, answer, frames and locals' words that it needs below it -/
abbrev MI : Type := MethodName × ByteArray × Nat × Option FieldType × Nat × Nat
def gtbl : List Cond := lw_tbl.filter goodWord
def nst (s : State) : Prop := ∀ own i y host, Cond.methodLinkNest own i y host ∈ lw_tbl → va_Nw (.methodLinkNest own i y host) s
abbrev Ls : Type := List (Option Value)
def lh (ad : Nat → Nat) (ls : Array Slot) (nL : Nat) (L : Ls) : Prop := ls.size = nL ∧ lv_wf ls ∧ ∀ (i : Nat) (v : Value), L[i]? = some (some v) → ls[i]? = some (.val (rv ad v))
def prs (ad : Nat → Nat) (L : Ls) : List (Nat × Value) := (List.range L.length).filterMap (fun i => match L[i]? with | some (some v) => some (i, rv ad v) | _ => none)
theorem mem_prs {ad : Nat → Nat} {L : Ls} {i : Nat} {v : Value} (h : L[i]? = some (some v)) : (i, rv ad v) ∈ prs ad L := by
  refine List.mem_filterMap.mpr ⟨i, List.mem_range.mpr (List.getElem?_eq_some_iff.mp h).1, ?_⟩
  rw [h]
theorem of_prs {ad : Nat → Nat} {L : Ls} {q : Nat × Value} (h : q ∈ prs ad L) : ∃ v, L[q.1]? = some (some v) ∧ q.2 = rv ad v := by
  obtain ⟨i, -, h⟩ := List.mem_filterMap.mp h
  split at h
  next v hv => cases h; exact ⟨v, hv, rfl⟩
  next => cases h
theorem lh.has {ad : Nat → Nat} {ls : Array Slot} {nL : Nat} {L : Ls} (h : lh ad ls nL L) : lv_has ls nL (prs ad L) := by
  refine ⟨h.1, h.2.1, fun q hq => ?_⟩
  obtain ⟨v, h1, h2⟩ := of_prs hq
  rw [h2]
  exact h.2.2 _ _ h1
def cat2 : Option Value → Bool
  | some v => v.category == 2
  | none => false
/-- a store of one word, of two words -/
def st1 (L : Ls) (i : Nat) (v : Value) : Ls := L.mapIdx (fun j o => if j = i then some v else if j + 1 = i ∧ cat2 o = true then none else o)
def st2 (L : Ls) (i : Nat) (v : Value) : Ls := L.mapIdx (fun j o => if j = i then some v else if j = i + 1 then none else if j + 1 = i ∧ cat2 o = true then none else o)
theorem lh_st1 {ad : Nat → Nat} {ls : Array Slot} {nL : Nat} {L : Ls} {i : Nat} {v : Value} (h : lv_has ls nL ((i, rv ad v) :: (prs ad L).filter (fun q => !(q.1 == i) && !(q.1 + 1 == i && q.2.category == 2)))) : lh ad ls nL (st1 L i v) := by
  refine ⟨h.1, h.2.1, fun j w hj => ?_⟩
  simp only [st1, List.getElem?_mapIdx] at hj
  cases hc : L[j]? with
  | none => rw [hc] at hj; cases hj
  | some o =>
    rw [hc] at hj
    simp only [Option.map_some, Option.some.injEq] at hj
    by_cases hi : j = i
    · subst hi
      rw [if_pos rfl] at hj
      cases hj
      exact h.2.2 _ List.mem_cons_self
    · rw [if_neg hi] at hj
      by_cases h2 : j + 1 = i ∧ cat2 o = true
      · rw [if_pos h2] at hj; cases hj
      · rw [if_neg h2] at hj
        subst hj
        refine h.2.2 (j, rv ad w) (List.mem_cons_of_mem _ (List.mem_filter.mpr ⟨mem_prs hc, ?_⟩))
        have : ¬ (j + 1 = i ∧ w.category = 2) := fun q => h2 ⟨q.1, by simp [cat2, q.2]⟩
        simp [hi, rv_cat]
        exact Classical.not_and_iff_not_or_not.mp this
theorem lh_st2 {ad : Nat → Nat} {ls : Array Slot} {nL : Nat} {L : Ls} {i : Nat} {v : Value} (h : lv_has ls nL ((i, rv ad v) :: (prs ad L).filter (fun q => !(q.1 == i) && (!(q.1 == i + 1) && !(q.1 + 1 == i && q.2.category == 2))))) : lh ad ls nL (st2 L i v) := by
  refine ⟨h.1, h.2.1, fun j w hj => ?_⟩
  simp only [st2, List.getElem?_mapIdx] at hj
  cases hc : L[j]? with
  | none => rw [hc] at hj; cases hj
  | some o =>
    rw [hc] at hj
    simp only [Option.map_some, Option.some.injEq] at hj
    by_cases hi : j = i
    · subst hi
      rw [if_pos rfl] at hj
      cases hj
      exact h.2.2 _ List.mem_cons_self
    · rw [if_neg hi] at hj
      by_cases h3 : j = i + 1
      · rw [if_pos h3] at hj; cases hj
      · rw [if_neg h3] at hj
        by_cases h2 : j + 1 = i ∧ cat2 o = true
        · rw [if_pos h2] at hj; cases hj
        · rw [if_neg h2] at hj
          subst hj
          refine h.2.2 (j, rv ad w) (List.mem_cons_of_mem _ (List.mem_filter.mpr ⟨mem_prs hc, ?_⟩))
          have : ¬ (j + 1 = i ∧ w.category = 2) := fun q => h2 ⟨q.1, by simp [cat2, q.2]⟩
          simp [hi, h3, rv_cat]
          exact Classical.not_and_iff_not_or_not.mp this
def MC (M : MI) (p : Program) (R : Room) (s : State) (m : MethodId) (args : Array Value) (meth : Method) (c : Code) (D : va_G) (ad : Nat → Nat) (cA : ClassId) (cells slots : Nat) : Prop :=
  p.tables.exec = Jvm.exec ∧ c.code = M.2.1 ∧ c.maxLocals = M.2.2.1 ∧ meth.sig.returnType = M.2.2.2.1 ∧ meth.locks = false ∧ s.vm.findClass M.1.cls = some m.cls ∧ (∀ w ∈ gtbl, w.before args s = true) ∧ nst s ∧
  va_K D vwCl [(cA, .int)] s ∧ adI ad ∧ M.2.2.2.2.1 ≤ R.frames ∧ M.2.2.2.2.2 ≤ R.locals ∧ cells ≤ R.cells ∧ slots ≤ R.slots
def RI (M : MI) (pc : Nat) : Option Value → Prop
  | none => decode M.2.1 pc = .ok (.return_, 1) ∧ M.2.2.2.1 = none
  | some (.int x) => decode M.2.1 pc = .ok (.ireturn, 1) ∧ ∃ ty, M.2.2.2.1 = some ty ∧ narrow ty (.int x) = .int x
  | some (.long x) => decode M.2.1 pc = .ok (.lreturn, 1) ∧ M.2.2.2.1 = some .long
  | _ => False
def RK (M : MI) (p : Program) (l : Launch) (e : Env) (R : Room) (s : State) (m : MethodId) (args : Array Value) (below : List Frame) (meth : Method) (c : Code) (D : va_G) (ad : Nat → Nat) (cA : ClassId) (cells slots : Nat) (Qf : State → Prop) (v : Option Value) (g : Sg) : Prop :=
  ∀ (H : Heap) (locs : List Loc) (pc : Nat) (ls : Array Slot), va_P D vwCl (wl ad cA g) H → va_S (wA ad) s.heap H locs → RI M pc v → W p l e R s m args below meth c H locs cells slots Qf (F0 m pc ls (v.toList.map (rv ad)))
/-- from here the method comes to its end, with an answer and a world of which Q holds -/
def Wp (M : MI) (E : State → (Nat → Nat) → Prop) (pc : Nat) (L : Ls) (st : List Value) (g : Sg) (Q : Option Value → Sg → Prop) : Prop :=
  ∀ (p : Program) (l : Launch) (e : Env) (R : Room) (s : State) (m : MethodId) (args : Array Value) (below : List Frame) (meth : Method) (c : Code) (D : va_G) (ad : Nat → Nat) (cA : ClassId) (cells slots : Nat) (Qf : State → Prop),
    MC M p R s m args meth c D ad cA cells slots → E s ad → (∀ v g', Q v g' → RK M p l e R s m args below meth c D ad cA cells slots Qf v g') →
    ∀ (H : Heap) (locs : List Loc) (ls : Array Slot), va_P D vwCl (wl ad cA g) H → va_S (wA ad) s.heap H locs → lh ad ls M.2.2.1 L →
      W p l e R s m args below meth c H locs cells slots Qf (F0 m pc ls (st.map (rv ad)))
def Cl (M : MI) (as : List Value) (g : Sg) (Q : Option Value → Sg → Prop) : Prop :=
  ∀ (l : Launch) (D : va_G) (ad : Nat → Nat) (cA : ClassId), adI ad →
    Met l M.1 (Cond.code M.1 M.2.1 M.2.2.1 M.2.2.2.1 :: gtbl) { frames := M.2.2.2.2.1, cells := 0, slots := 0, locals := M.2.2.2.2.2 }
      (fun v U => v = (as.map (rv ad)).toArray ∧ va_P D vwCl (wl ad cA g) U.heap ∧ va_K D vwCl [(cA, .int)] U ∧ nst U)
      (fun _ st oc t => (∃ v g', oc = .returned (v.map (rv ad)) ∧ Q v g' ∧ va_P D vwCl (wl ad cA g') t.heap) ∧ va_F (wA ad) st t) 0 0 (wA ad)
theorem Wp.mono {M : MI} {E : State → (Nat → Nat) → Prop} {pc : Nat} {L : Ls} {st : List Value} {g : Sg} {Q Q' : Option Value → Sg → Prop} (h : Wp M E pc L st g Q) (hq : ∀ v g', Q v g' → Q' v g') : Wp M E pc L st g Q' :=
  fun p l e R s m args below meth c D ad cA cells slots Qf C hE hQ => h p l e R s m args below meth c D ad cA cells slots Qf C hE (fun v g' q => hQ v g' (hq v g' q))
/-- the locals with which a method begins -/
def enL : List Value → Ls
  | [] => []
  | v :: vs => if v.category = 2 then some v :: none :: enL vs else some v :: enL vs
theorem enL_args {ad : Nat → Nat} : ∀ (as : List Value) (n i : Nat) (v : Value), (enL as)[i]? = some (some v) → (n + i, rv ad v) ∈ lv_args n (as.map (rv ad)) := by
  intro as
  induction as with
  | nil => intro n i v h; simp [enL] at h
  | cons a as ih =>
    intro n i v h
    simp only [List.map_cons, lv_args, rv_cat]
    by_cases hc : a.category = 2
    · simp only [enL, hc, if_true] at h
      rw [if_pos hc]
      match i, h with
      | 0, h => simp at h; subst h; exact List.mem_cons_self
      | 1, h => simp at h
      | i + 2, h =>
        simp at h
        have := ih (n + 2) i v h
        rw [show n + 2 + i = n + (i + 2) by omega] at this
        exact List.mem_cons_of_mem _ this
    · simp only [enL, hc, if_false] at h
      rw [if_neg hc]
      match i, h with
      | 0, h => simp at h; subst h; exact List.mem_cons_self
      | i + 1, h =>
        simp at h
        have := ih (n + 1) i v h
        rw [show n + 1 + i = n + (i + 1) by omega] at this
        exact List.mem_cons_of_mem _ this
theorem enL_len (ad : Nat → Nat) (as : List Value) : (lg_sl (as.map (rv ad))).length = (enL as).length := by
  induction as with
  | nil => rfl
  | cons a as ih =>
    simp only [lg_sl, List.map_cons, List.flatMap_cons, rv_cat, enL] at ih ⊢
    by_cases hc : a.category = 2
    · simp [hc] at ih ⊢; omega
    · simp [hc] at ih ⊢; omega
end
section
/-! from Wp to a contract, and a row an instruction -/
theorem Cl.of {M : MI} {as : List Value} {g : Sg} {Q : Option Value → Sg → Prop} (n : Nat) (hy : Jvm.plainName M.1.cls = true) (hn : (enL as).length + n = M.2.2.1) (h : Wp M (fun _ _ => True) 0 (enL as ++ List.replicate n none) [] g Q) : Cl M as g Q := by
  intro l D ad cA hI
  refine Met.ofW (cc := M.2.1) (maxL := M.2.2.1) (ret := M.2.2.2.1) hy rfl ?_
  intro p e s m args below meth c s₁ B hml hv
  obtain ⟨rfl, hP, hK, hN⟩ := hv
  have hts := atoms_spec (ws := Cond.code M.1 M.2.1 M.2.2.1 M.2.2.2.1 :: gtbl) B.pre
  have hown : s.vm.findClass M.1.cls = some m.cls := findClass_of_methodNamed B.named
  have hle : (lg_sl (as.map (rv ad))).length ≤ M.2.2.1 := by rw [enL_len]; omega
  have hl := lv_entry (as.map (rv ad)) hle
  rw [lg_entry_eq]
  have hlh : lh ad ((lg_sl (as.map (rv ad)) ++ List.replicate (M.2.2.1 - (lg_sl (as.map (rv ad))).length) Slot.unset).toArray) M.2.2.1 (enL as ++ List.replicate n none) := by
    refine ⟨hl.1, hl.2.1, fun i v hi => ?_⟩
    by_cases hil : i < (enL as).length
    · rw [List.getElem?_append_left hil] at hi
      have := enL_args (ad := ad) as 0 i v hi
      rw [Nat.zero_add] at this
      exact hl.2.2 _ this
    · rw [List.getElem?_append_right (by omega)] at hi
      have := List.eq_of_mem_replicate (List.mem_of_getElem? hi)
      cases this
  refine h p l e _ s m _ below meth c D ad cA 0 0 _ ⟨B.exec, B.bytes, hml, B.returns, B.notSynchronized, hown, fun w hw => hts w (List.mem_cons_of_mem _ hw), hN, hK, hI, Nat.le_refl _, Nat.le_refl _, Nat.zero_le _, Nat.zero_le _⟩ trivial ?_ s.heap [] _ hP va_S.rf hlh
  intro v g' hq H locs pc ls hP hS hR
  have hlk := B.notSynchronized
  match v, hR with
  | none, hR => exact W.vret B.exec B.bytes (B.returns.trans hR.2) (fun t ht hW => ⟨⟨none, g', rfl, hq, by rw [ht]; exact hP⟩, hS.F ht⟩) hS.2.2 hR.1
  | some (.int x), hR =>
    obtain ⟨hd, ty, h1, h2⟩ := hR
    exact W.zret B.exec B.bytes (B.returns.trans h1) h2 (fun t ht hW => ⟨⟨some (.int x), g', rfl, hq, by rw [ht]; exact hP⟩, hS.F ht⟩) hS.2.2 hd
  | some (.long x), hR => exact W.lret B.exec B.bytes (B.returns.trans hR.2) (fun t ht hW => ⟨⟨some (.long x), g', rfl, hq, by rw [ht]; exact hP⟩, hS.F ht⟩) hS.2.2 hR.1
section Ev
variable {M : MI} {E : State → (Nat → Nat) → Prop} {pc : Nat} {L : Ls} {st : List Value} {g : Sg} {Q : Option Value → Sg → Prop}
theorem e_iconst {n : Int} (hd : decode M.2.1 pc = .ok (.iconst n, 1)) (k : Wp M E (pc + 1) L (.int (Int32.ofInt n) :: st) g Q) : Wp M E pc L st g Q :=
  fun p l e R s m args below meth c D ad cA cells slots Qf C hE hQ H locs ls hP hS hl => lv_iconst C.1 C.2.1 hd rfl (k p l e R s m args below meth c D ad cA cells slots Qf C hE hQ H locs ls hP hS hl)
theorem e_bipush {n : Int} (hd : decode M.2.1 pc = .ok (.bipush n, 2)) (k : Wp M E (pc + 2) L (.int (Int8.ofInt n).toInt32 :: st) g Q) : Wp M E pc L st g Q :=
  fun p l e R s m args below meth c D ad cA cells slots Qf C hE hQ H locs ls hP hS hl => lv_bipush C.1 C.2.1 hd rfl (k p l e R s m args below meth c D ad cA cells slots Qf C hE hQ H locs ls hP hS hl)
theorem e_sipush {n : Int} (hd : decode M.2.1 pc = .ok (.sipush n, 3)) (k : Wp M E (pc + 3) L (.int (Int16.ofInt n).toInt32 :: st) g Q) : Wp M E pc L st g Q :=
  fun p l e R s m args below meth c D ad cA cells slots Qf C hE hQ H locs ls hP hS hl => lv_sipush C.1 C.2.1 hd rfl (k p l e R s m args below meth c D ad cA cells slots Qf C hE hQ H locs ls hP hS hl)
theorem e_lconst {n : Fin 2} (hd : decode M.2.1 pc = .ok (.lconst n, 1)) (k : Wp M E (pc + 1) L (.long (Int64.ofNat (n : Nat)) :: st) g Q) : Wp M E pc L st g Q :=
  fun p l e R s m args below meth c D ad cA cells slots Qf C hE hQ H locs ls hP hS hl => lv_lconst C.1 C.2.1 hd rfl (k p l e R s m args below meth c D ad cA cells slots Qf C hE hQ H locs ls hP hS hl)
theorem e_ldc {idx : Nat} {v : Int32} (hd : decode M.2.1 pc = .ok (.ldc idx, 2)) (hc : Cond.constant M.1.cls idx v ∈ gtbl) (k : Wp M E (pc + 2) L (.int v :: st) g Q) : Wp M E pc L st g Q :=
  fun p l e R s m args below meth c D ad cA cells slots Qf C hE hQ H locs ls hP hS hl => lv_ldc C.1 C.2.1 C.2.2.2.2.2.1 (C.2.2.2.2.2.2.1 _ hc) hd (k p l e R s m args below meth c D ad cA cells slots Qf C hE hQ H locs ls hP hS hl)
theorem e_ldcw {idx : Nat} {v : Int32} (hd : decode M.2.1 pc = .ok (.ldc_w idx, 3)) (hc : Cond.constant M.1.cls idx v ∈ gtbl) (k : Wp M E (pc + 3) L (.int v :: st) g Q) : Wp M E pc L st g Q :=
  fun p l e R s m args below meth c D ad cA cells slots Qf C hE hQ H locs ls hP hS hl => lv_ldcw C.1 C.2.1 C.2.2.2.2.2.1 (C.2.2.2.2.2.2.1 _ hc) hd (k p l e R s m args below meth c D ad cA cells slots Qf C hE hQ H locs ls hP hS hl)
theorem e_ldc2 {idx : Nat} {v : Int64} (hd : decode M.2.1 pc = .ok (.ldc2_w idx, 3)) (hc : Cond.constantLong M.1.cls idx v ∈ gtbl) (k : Wp M E (pc + 3) L (.long v :: st) g Q) : Wp M E pc L st g Q :=
  fun p l e R s m args below meth c D ad cA cells slots Qf C hE hQ H locs ls hP hS hl => lv_ldc2 C.1 C.2.1 C.2.2.2.2.2.1 (C.2.2.2.2.2.2.1 _ hc) hd (k p l e R s m args below meth c D ad cA cells slots Qf C hE hQ H locs ls hP hS hl)
theorem e_iload_n {j : Fin 4} {x : Int32} (hd : decode M.2.1 pc = .ok (.iload_n j, 1)) (hx : L[(j : Nat)]? = some (some (.int x))) (k : Wp M E (pc + 1) L (.int x :: st) g Q) : Wp M E pc L st g Q :=
  fun p l e R s m args below meth c D ad cA cells slots Qf C hE hQ H locs ls hP hS hl => lv_iload_n C.1 C.2.1 hd rfl (hl.2.2 _ _ hx) (k p l e R s m args below meth c D ad cA cells slots Qf C hE hQ H locs ls hP hS hl)
theorem e_iload {j : Nat} {x : Int32} (hd : decode M.2.1 pc = .ok (.iload j, 2)) (hx : L[j]? = some (some (.int x))) (k : Wp M E (pc + 2) L (.int x :: st) g Q) : Wp M E pc L st g Q :=
  fun p l e R s m args below meth c D ad cA cells slots Qf C hE hQ H locs ls hP hS hl => lv_iload C.1 C.2.1 hd (hl.2.2 _ _ hx) (k p l e R s m args below meth c D ad cA cells slots Qf C hE hQ H locs ls hP hS hl)
theorem e_lload_n {j : Fin 4} {x : Int64} (hd : decode M.2.1 pc = .ok (.lload_n j, 1)) (hx : L[(j : Nat)]? = some (some (.long x))) (k : Wp M E (pc + 1) L (.long x :: st) g Q) : Wp M E pc L st g Q :=
  fun p l e R s m args below meth c D ad cA cells slots Qf C hE hQ H locs ls hP hS hl => lv_lload_n C.1 C.2.1 hd rfl (hl.2.2 _ _ hx) (k p l e R s m args below meth c D ad cA cells slots Qf C hE hQ H locs ls hP hS hl)
theorem e_lload {j : Nat} {x : Int64} (hd : decode M.2.1 pc = .ok (.lload j, 2)) (hx : L[j]? = some (some (.long x))) (k : Wp M E (pc + 2) L (.long x :: st) g Q) : Wp M E pc L st g Q :=
  fun p l e R s m args below meth c D ad cA cells slots Qf C hE hQ H locs ls hP hS hl => lv_lload C.1 C.2.1 hd (hl.2.2 _ _ hx) (k p l e R s m args below meth c D ad cA cells slots Qf C hE hQ H locs ls hP hS hl)
theorem e_aload_n {j : Fin 4} {x : Nat} (hd : decode M.2.1 pc = .ok (.aload_n j, 1)) (hx : L[(j : Nat)]? = some (some (.ref x))) (k : Wp M E (pc + 1) L (.ref x :: st) g Q) : Wp M E pc L st g Q :=
  fun p l e R s m args below meth c D ad cA cells slots Qf C hE hQ H locs ls hP hS hl => lv_aload_n C.1 C.2.1 hd rfl (hl.2.2 _ _ hx) (k p l e R s m args below meth c D ad cA cells slots Qf C hE hQ H locs ls hP hS hl)
theorem e_aload {j : Nat} {x : Nat} (hd : decode M.2.1 pc = .ok (.aload j, 2)) (hx : L[j]? = some (some (.ref x))) (k : Wp M E (pc + 2) L (.ref x :: st) g Q) : Wp M E pc L st g Q :=
  fun p l e R s m args below meth c D ad cA cells slots Qf C hE hQ H locs ls hP hS hl => lv_aload C.1 C.2.1 hd (hl.2.2 _ _ hx) (k p l e R s m args below meth c D ad cA cells slots Qf C hE hQ H locs ls hP hS hl)
theorem e_istore_n {j : Fin 4} {x : Int32} (hd : decode M.2.1 pc = .ok (.istore_n j, 1)) (hn : (j : Nat) < M.2.2.1) (k : Wp M E (pc + 1) (st1 L j (.int x)) st g Q) : Wp M E pc L (.int x :: st) g Q :=
  fun p l e R s m args below meth c D ad cA cells slots Qf C hE hQ H locs ls hP hS hl => lv_istore_n C.1 C.2.1 hd rfl hl.has hn rfl (fun ls' hl' => k p l e R s m args below meth c D ad cA cells slots Qf C hE hQ H locs ls' hP hS (lh_st1 hl'))
theorem e_istore {j : Nat} {x : Int32} (hd : decode M.2.1 pc = .ok (.istore j, 2)) (hn : j < M.2.2.1) (k : Wp M E (pc + 2) (st1 L j (.int x)) st g Q) : Wp M E pc L (.int x :: st) g Q :=
  fun p l e R s m args below meth c D ad cA cells slots Qf C hE hQ H locs ls hP hS hl => lv_istore C.1 C.2.1 hd hl.has hn rfl (fun ls' hl' => k p l e R s m args below meth c D ad cA cells slots Qf C hE hQ H locs ls' hP hS (lh_st1 hl'))
theorem e_lstore_n {j : Fin 4} {x : Int64} (hd : decode M.2.1 pc = .ok (.lstore_n j, 1)) (hn : (j : Nat) + 1 < M.2.2.1) (k : Wp M E (pc + 1) (st2 L j (.long x)) st g Q) : Wp M E pc L (.long x :: st) g Q :=
  fun p l e R s m args below meth c D ad cA cells slots Qf C hE hQ H locs ls hP hS hl => lv_lstore_n C.1 C.2.1 hd rfl hl.has hn rfl (fun ls' hl' => k p l e R s m args below meth c D ad cA cells slots Qf C hE hQ H locs ls' hP hS (lh_st2 hl'))
theorem e_lstore {j : Nat} {x : Int64} (hd : decode M.2.1 pc = .ok (.lstore j, 2)) (hn : j + 1 < M.2.2.1) (k : Wp M E (pc + 2) (st2 L j (.long x)) st g Q) : Wp M E pc L (.long x :: st) g Q :=
  fun p l e R s m args below meth c D ad cA cells slots Qf C hE hQ H locs ls hP hS hl => lv_lstore C.1 C.2.1 hd hl.has hn rfl (fun ls' hl' => k p l e R s m args below meth c D ad cA cells slots Qf C hE hQ H locs ls' hP hS (lh_st2 hl'))
theorem e_astore_n {j : Fin 4} {x : Nat} (hd : decode M.2.1 pc = .ok (.astore_n j, 1)) (hn : (j : Nat) < M.2.2.1) (k : Wp M E (pc + 1) (st1 L j (.ref x)) st g Q) : Wp M E pc L (.ref x :: st) g Q :=
  fun p l e R s m args below meth c D ad cA cells slots Qf C hE hQ H locs ls hP hS hl => lv_astore_n C.1 C.2.1 hd rfl hl.has hn rfl (fun ls' hl' => k p l e R s m args below meth c D ad cA cells slots Qf C hE hQ H locs ls' hP hS (lh_st1 hl'))
theorem e_astore {j : Nat} {x : Nat} (hd : decode M.2.1 pc = .ok (.astore j, 2)) (hn : j < M.2.2.1) (k : Wp M E (pc + 2) (st1 L j (.ref x)) st g Q) : Wp M E pc L (.ref x :: st) g Q :=
  fun p l e R s m args below meth c D ad cA cells slots Qf C hE hQ H locs ls hP hS hl => lv_astore C.1 C.2.1 hd hl.has hn rfl (fun ls' hl' => k p l e R s m args below meth c D ad cA cells slots Qf C hE hQ H locs ls' hP hS (lh_st1 hl'))
theorem e_iinc {j : Nat} {n : Int} {x : Int32} (hd : decode M.2.1 pc = .ok (.iinc j n, 3)) (hx : L[j]? = some (some (.int x))) (hn : j < M.2.2.1) (k : Wp M E (pc + 3) (st1 L j (.int (x + Int32.ofInt n))) st g Q) : Wp M E pc L st g Q := by
  intro p l e R s m args below meth c D ad cA cells slots Qf C hE hQ H locs ls hP hS hl
  obtain ⟨i, hi⟩ := List.getElem?_of_mem (mem_prs (ad := ad) hx)
  exact lv_iinc C.1 C.2.1 hd hl.has hi rfl hn rfl (fun ls' hl' => k p l e R s m args below meth c D ad cA cells slots Qf C hE hQ H locs ls' hP hS (lh_st1 hl'))
theorem e_iadd {x y : Int32} (hd : decode M.2.1 pc = .ok (.iadd, 1)) (k : Wp M E (pc + 1) L (.int (x + y) :: st) g Q) : Wp M E pc L (.int y :: .int x :: st) g Q :=
  fun p l e R s m args below meth c D ad cA cells slots Qf C hE hQ H locs ls hP hS hl => lv_iadd C.1 C.2.1 hd (k p l e R s m args below meth c D ad cA cells slots Qf C hE hQ H locs ls hP hS hl)
theorem e_isub {x y : Int32} (hd : decode M.2.1 pc = .ok (.isub, 1)) (k : Wp M E (pc + 1) L (.int (x - y) :: st) g Q) : Wp M E pc L (.int y :: .int x :: st) g Q :=
  fun p l e R s m args below meth c D ad cA cells slots Qf C hE hQ H locs ls hP hS hl => lv_isub C.1 C.2.1 hd (k p l e R s m args below meth c D ad cA cells slots Qf C hE hQ H locs ls hP hS hl)
theorem e_imul {x y : Int32} (hd : decode M.2.1 pc = .ok (.imul, 1)) (k : Wp M E (pc + 1) L (.int (x * y) :: st) g Q) : Wp M E pc L (.int y :: .int x :: st) g Q :=
  fun p l e R s m args below meth c D ad cA cells slots Qf C hE hQ H locs ls hP hS hl => lv_imul C.1 C.2.1 hd (k p l e R s m args below meth c D ad cA cells slots Qf C hE hQ H locs ls hP hS hl)
theorem e_iand {x y : Int32} (hd : decode M.2.1 pc = .ok (.iand, 1)) (k : Wp M E (pc + 1) L (.int (x &&& y) :: st) g Q) : Wp M E pc L (.int y :: .int x :: st) g Q :=
  fun p l e R s m args below meth c D ad cA cells slots Qf C hE hQ H locs ls hP hS hl => lv_iand C.1 C.2.1 hd (k p l e R s m args below meth c D ad cA cells slots Qf C hE hQ H locs ls hP hS hl)
theorem e_ior {x y : Int32} (hd : decode M.2.1 pc = .ok (.ior, 1)) (k : Wp M E (pc + 1) L (.int (x ||| y) :: st) g Q) : Wp M E pc L (.int y :: .int x :: st) g Q :=
  fun p l e R s m args below meth c D ad cA cells slots Qf C hE hQ H locs ls hP hS hl => lv_ior C.1 C.2.1 hd (k p l e R s m args below meth c D ad cA cells slots Qf C hE hQ H locs ls hP hS hl)
theorem e_ixor {x y : Int32} (hd : decode M.2.1 pc = .ok (.ixor, 1)) (k : Wp M E (pc + 1) L (.int (x ^^^ y) :: st) g Q) : Wp M E pc L (.int y :: .int x :: st) g Q :=
  fun p l e R s m args below meth c D ad cA cells slots Qf C hE hQ H locs ls hP hS hl => lv_ixor C.1 C.2.1 hd (k p l e R s m args below meth c D ad cA cells slots Qf C hE hQ H locs ls hP hS hl)
theorem e_idiv {x y : Int32} (hd : decode M.2.1 pc = .ok (.idiv, 1)) (hy : ¬ y = 0) (k : Wp M E (pc + 1) L (.int (x / y) :: st) g Q) : Wp M E pc L (.int y :: .int x :: st) g Q :=
  fun p l e R s m args below meth c D ad cA cells slots Qf C hE hQ H locs ls hP hS hl => lv_idiv C.1 C.2.1 hd hy (k p l e R s m args below meth c D ad cA cells slots Qf C hE hQ H locs ls hP hS hl)
theorem e_irem {x y : Int32} (hd : decode M.2.1 pc = .ok (.irem, 1)) (hy : ¬ y = 0) (k : Wp M E (pc + 1) L (.int (x - x / y * y) :: st) g Q) : Wp M E pc L (.int y :: .int x :: st) g Q :=
  fun p l e R s m args below meth c D ad cA cells slots Qf C hE hQ H locs ls hP hS hl => lv_irem C.1 C.2.1 hd hy (k p l e R s m args below meth c D ad cA cells slots Qf C hE hQ H locs ls hP hS hl)
theorem e_ineg {x : Int32} (hd : decode M.2.1 pc = .ok (.ineg, 1)) (k : Wp M E (pc + 1) L (.int (-x) :: st) g Q) : Wp M E pc L (.int x :: st) g Q :=
  fun p l e R s m args below meth c D ad cA cells slots Qf C hE hQ H locs ls hP hS hl => lv_ineg C.1 C.2.1 hd (k p l e R s m args below meth c D ad cA cells slots Qf C hE hQ H locs ls hP hS hl)
theorem e_ladd {x y : Int64} (hd : decode M.2.1 pc = .ok (.ladd, 1)) (k : Wp M E (pc + 1) L (.long (x + y) :: st) g Q) : Wp M E pc L (.long y :: .long x :: st) g Q :=
  fun p l e R s m args below meth c D ad cA cells slots Qf C hE hQ H locs ls hP hS hl => lv_ladd C.1 C.2.1 hd (k p l e R s m args below meth c D ad cA cells slots Qf C hE hQ H locs ls hP hS hl)
theorem e_lmul {x y : Int64} (hd : decode M.2.1 pc = .ok (.lmul, 1)) (k : Wp M E (pc + 1) L (.long (x * y) :: st) g Q) : Wp M E pc L (.long y :: .long x :: st) g Q :=
  fun p l e R s m args below meth c D ad cA cells slots Qf C hE hQ H locs ls hP hS hl => lv_lmul C.1 C.2.1 hd (k p l e R s m args below meth c D ad cA cells slots Qf C hE hQ H locs ls hP hS hl)
theorem e_lcmp {x y : Int64} (hd : decode M.2.1 pc = .ok (.lcmp, 1)) (k : Wp M E (pc + 1) L (.int (lg_cmp x y) :: st) g Q) : Wp M E pc L (.long y :: .long x :: st) g Q :=
  fun p l e R s m args below meth c D ad cA cells slots Qf C hE hQ H locs ls hP hS hl => W.lcmp C.1 C.2.1 hd (k p l e R s m args below meth c D ad cA cells slots Qf C hE hQ H locs ls hP hS hl)
theorem e_ishl {x y : Int32} (hd : decode M.2.1 pc = .ok (.ishl, 1)) (k : Wp M E (pc + 1) L (.int (x <<< (y &&& 31)) :: st) g Q) : Wp M E pc L (.int y :: .int x :: st) g Q :=
  fun p l e R s m args below meth c D ad cA cells slots Qf C hE hQ H locs ls hP hS hl => lv_ishl C.1 C.2.1 hd (k p l e R s m args below meth c D ad cA cells slots Qf C hE hQ H locs ls hP hS hl)
theorem e_ishr {x y : Int32} (hd : decode M.2.1 pc = .ok (.ishr, 1)) (k : Wp M E (pc + 1) L (.int (x >>> (y &&& 31)) :: st) g Q) : Wp M E pc L (.int y :: .int x :: st) g Q :=
  fun p l e R s m args below meth c D ad cA cells slots Qf C hE hQ H locs ls hP hS hl => lv_ishr C.1 C.2.1 hd (k p l e R s m args below meth c D ad cA cells slots Qf C hE hQ H locs ls hP hS hl)
theorem e_iushr {x y : Int32} (hd : decode M.2.1 pc = .ok (.iushr, 1)) (k : Wp M E (pc + 1) L (.int (x.toUInt32 >>> (y.toUInt32 &&& Int32.toUInt32 31)).toInt32 :: st) g Q) : Wp M E pc L (.int y :: .int x :: st) g Q :=
  fun p l e R s m args below meth c D ad cA cells slots Qf C hE hQ H locs ls hP hS hl => lv_iushr C.1 C.2.1 hd rfl (k p l e R s m args below meth c D ad cA cells slots Qf C hE hQ H locs ls hP hS hl)
theorem e_i2l {x : Int32} (hd : decode M.2.1 pc = .ok (.i2l, 1)) (k : Wp M E (pc + 1) L (.long x.toInt64 :: st) g Q) : Wp M E pc L (.int x :: st) g Q :=
  fun p l e R s m args below meth c D ad cA cells slots Qf C hE hQ H locs ls hP hS hl => lv_i2l C.1 C.2.1 hd rfl (k p l e R s m args below meth c D ad cA cells slots Qf C hE hQ H locs ls hP hS hl)
theorem e_i2b {x : Int32} (hd : decode M.2.1 pc = .ok (.i2b, 1)) (k : Wp M E (pc + 1) L (.int x.toInt8.toInt32 :: st) g Q) : Wp M E pc L (.int x :: st) g Q :=
  fun p l e R s m args below meth c D ad cA cells slots Qf C hE hQ H locs ls hP hS hl => lv_i2b C.1 C.2.1 hd rfl (k p l e R s m args below meth c D ad cA cells slots Qf C hE hQ H locs ls hP hS hl)
theorem e_i2s {x : Int32} (hd : decode M.2.1 pc = .ok (.i2s, 1)) (k : Wp M E (pc + 1) L (.int x.toInt16.toInt32 :: st) g Q) : Wp M E pc L (.int x :: st) g Q :=
  fun p l e R s m args below meth c D ad cA cells slots Qf C hE hQ H locs ls hP hS hl => lv_i2s C.1 C.2.1 hd rfl (k p l e R s m args below meth c D ad cA cells slots Qf C hE hQ H locs ls hP hS hl)
theorem e_dup {v : Value} (hd : decode M.2.1 pc = .ok (.dup, 1)) (hv : v.category = 1) (k : Wp M E (pc + 1) L (v :: v :: st) g Q) : Wp M E pc L (v :: st) g Q :=
  fun p l e R s m args below meth c D ad cA cells slots Qf C hE hQ H locs ls hP hS hl => lv_dup C.1 C.2.1 hd (by rw [rv_cat]; exact hv) (k p l e R s m args below meth c D ad cA cells slots Qf C hE hQ H locs ls hP hS hl)
theorem e_pop {v : Value} (hd : decode M.2.1 pc = .ok (.pop, 1)) (hv : v.category = 1) (k : Wp M E (pc + 1) L st g Q) : Wp M E pc L (v :: st) g Q :=
  fun p l e R s m args below meth c D ad cA cells slots Qf C hE hQ H locs ls hP hS hl => lv_pop C.1 C.2.1 hd (by rw [rv_cat]; exact hv) (k p l e R s m args below meth c D ad cA cells slots Qf C hE hQ H locs ls hP hS hl)
theorem e_dup2 {v w : Value} (hd : decode M.2.1 pc = .ok (.dup2, 1)) (hv : v.category = 1) (hw : w.category = 1) (k : Wp M E (pc + 1) L (v :: w :: v :: w :: st) g Q) : Wp M E pc L (v :: w :: st) g Q :=
  fun p l e R s m args below meth c D ad cA cells slots Qf C hE hQ H locs ls hP hS hl => lv_dup2_11 C.1 C.2.1 hd (by rw [rv_cat]; exact hv) (by rw [rv_cat]; exact hw) (k p l e R s m args below meth c D ad cA cells slots Qf C hE hQ H locs ls hP hS hl)
theorem e_goto {off : Int} {tgt : Nat} (hd : decode M.2.1 pc = .ok (.goto off, 3)) (ht : (pc : Int) + off = (tgt : Int)) (k : Wp M E tgt L st g Q) : Wp M E pc L st g Q :=
  fun p l e R s m args below meth c D ad cA cells slots Qf C hE hQ H locs ls hP hS hl => lv_goto C.1 C.2.1 hd ht (k p l e R s m args below meth c D ad cA cells slots Qf C hE hQ H locs ls hP hS hl)
theorem e_if_eq {x : Int32} {off : Int} {tgt : Nat} (hd : decode M.2.1 pc = .ok (.ifCond .eq off, 3)) (ht : (pc : Int) + off = (tgt : Int)) (kt : x = 0 → Wp M E tgt L st g Q) (kf : ¬ x = 0 → Wp M E (pc + 3) L st g Q) : Wp M E pc L (.int x :: st) g Q :=
  fun p l e R s m args below meth c D ad cA cells slots Qf C hE hQ H locs ls hP hS hl => lv_if_eq C.1 C.2.1 hd ht (fun h => kt h p l e R s m args below meth c D ad cA cells slots Qf C hE hQ H locs ls hP hS hl) (fun h => kf h p l e R s m args below meth c D ad cA cells slots Qf C hE hQ H locs ls hP hS hl)
theorem e_icmp_eq {x y : Int32} {off : Int} {tgt : Nat} (hd : decode M.2.1 pc = .ok (.if_icmp .eq off, 3)) (ht : (pc : Int) + off = (tgt : Int)) (kt : x = y → Wp M E tgt L st g Q) (kf : ¬ x = y → Wp M E (pc + 3) L st g Q) : Wp M E pc L (.int y :: .int x :: st) g Q :=
  fun p l e R s m args below meth c D ad cA cells slots Qf C hE hQ H locs ls hP hS hl => lv_icmp_eq C.1 C.2.1 hd ht (fun h => kt h p l e R s m args below meth c D ad cA cells slots Qf C hE hQ H locs ls hP hS hl) (fun h => kf h p l e R s m args below meth c D ad cA cells slots Qf C hE hQ H locs ls hP hS hl)
theorem e_if_ne {x : Int32} {off : Int} {tgt : Nat} (hd : decode M.2.1 pc = .ok (.ifCond .ne off, 3)) (ht : (pc : Int) + off = (tgt : Int)) (kt : (¬ x = 0) → Wp M E tgt L st g Q) (kf : x = 0 → Wp M E (pc + 3) L st g Q) : Wp M E pc L (.int x :: st) g Q :=
  fun p l e R s m args below meth c D ad cA cells slots Qf C hE hQ H locs ls hP hS hl => lv_if_ne C.1 C.2.1 hd ht (fun h => kt h p l e R s m args below meth c D ad cA cells slots Qf C hE hQ H locs ls hP hS hl) (fun h => kf h p l e R s m args below meth c D ad cA cells slots Qf C hE hQ H locs ls hP hS hl)
theorem e_icmp_ne {x y : Int32} {off : Int} {tgt : Nat} (hd : decode M.2.1 pc = .ok (.if_icmp .ne off, 3)) (ht : (pc : Int) + off = (tgt : Int)) (kt : (¬ x = y) → Wp M E tgt L st g Q) (kf : x = y → Wp M E (pc + 3) L st g Q) : Wp M E pc L (.int y :: .int x :: st) g Q :=
  fun p l e R s m args below meth c D ad cA cells slots Qf C hE hQ H locs ls hP hS hl => lv_icmp_ne C.1 C.2.1 hd ht (fun h => kt h p l e R s m args below meth c D ad cA cells slots Qf C hE hQ H locs ls hP hS hl) (fun h => kf h p l e R s m args below meth c D ad cA cells slots Qf C hE hQ H locs ls hP hS hl)
theorem e_if_lt {x : Int32} {off : Int} {tgt : Nat} (hd : decode M.2.1 pc = .ok (.ifCond .lt off, 3)) (ht : (pc : Int) + off = (tgt : Int)) (kt : x < 0 → Wp M E tgt L st g Q) (kf : ¬ x < 0 → Wp M E (pc + 3) L st g Q) : Wp M E pc L (.int x :: st) g Q :=
  fun p l e R s m args below meth c D ad cA cells slots Qf C hE hQ H locs ls hP hS hl => lv_if_lt C.1 C.2.1 hd ht (fun h => kt h p l e R s m args below meth c D ad cA cells slots Qf C hE hQ H locs ls hP hS hl) (fun h => kf h p l e R s m args below meth c D ad cA cells slots Qf C hE hQ H locs ls hP hS hl)
theorem e_icmp_lt {x y : Int32} {off : Int} {tgt : Nat} (hd : decode M.2.1 pc = .ok (.if_icmp .lt off, 3)) (ht : (pc : Int) + off = (tgt : Int)) (kt : x < y → Wp M E tgt L st g Q) (kf : ¬ x < y → Wp M E (pc + 3) L st g Q) : Wp M E pc L (.int y :: .int x :: st) g Q :=
  fun p l e R s m args below meth c D ad cA cells slots Qf C hE hQ H locs ls hP hS hl => lv_icmp_lt C.1 C.2.1 hd ht (fun h => kt h p l e R s m args below meth c D ad cA cells slots Qf C hE hQ H locs ls hP hS hl) (fun h => kf h p l e R s m args below meth c D ad cA cells slots Qf C hE hQ H locs ls hP hS hl)
theorem e_if_ge {x : Int32} {off : Int} {tgt : Nat} (hd : decode M.2.1 pc = .ok (.ifCond .ge off, 3)) (ht : (pc : Int) + off = (tgt : Int)) (kt : 0 ≤ x → Wp M E tgt L st g Q) (kf : ¬ 0 ≤ x → Wp M E (pc + 3) L st g Q) : Wp M E pc L (.int x :: st) g Q :=
  fun p l e R s m args below meth c D ad cA cells slots Qf C hE hQ H locs ls hP hS hl => lv_if_ge C.1 C.2.1 hd ht (fun h => kt h p l e R s m args below meth c D ad cA cells slots Qf C hE hQ H locs ls hP hS hl) (fun h => kf h p l e R s m args below meth c D ad cA cells slots Qf C hE hQ H locs ls hP hS hl)
theorem e_icmp_ge {x y : Int32} {off : Int} {tgt : Nat} (hd : decode M.2.1 pc = .ok (.if_icmp .ge off, 3)) (ht : (pc : Int) + off = (tgt : Int)) (kt : y ≤ x → Wp M E tgt L st g Q) (kf : ¬ y ≤ x → Wp M E (pc + 3) L st g Q) : Wp M E pc L (.int y :: .int x :: st) g Q :=
  fun p l e R s m args below meth c D ad cA cells slots Qf C hE hQ H locs ls hP hS hl => lv_icmp_ge C.1 C.2.1 hd ht (fun h => kt h p l e R s m args below meth c D ad cA cells slots Qf C hE hQ H locs ls hP hS hl) (fun h => kf h p l e R s m args below meth c D ad cA cells slots Qf C hE hQ H locs ls hP hS hl)
theorem e_if_gt {x : Int32} {off : Int} {tgt : Nat} (hd : decode M.2.1 pc = .ok (.ifCond .gt off, 3)) (ht : (pc : Int) + off = (tgt : Int)) (kt : 0 < x → Wp M E tgt L st g Q) (kf : ¬ 0 < x → Wp M E (pc + 3) L st g Q) : Wp M E pc L (.int x :: st) g Q :=
  fun p l e R s m args below meth c D ad cA cells slots Qf C hE hQ H locs ls hP hS hl => lv_if_gt C.1 C.2.1 hd ht (fun h => kt h p l e R s m args below meth c D ad cA cells slots Qf C hE hQ H locs ls hP hS hl) (fun h => kf h p l e R s m args below meth c D ad cA cells slots Qf C hE hQ H locs ls hP hS hl)
theorem e_icmp_gt {x y : Int32} {off : Int} {tgt : Nat} (hd : decode M.2.1 pc = .ok (.if_icmp .gt off, 3)) (ht : (pc : Int) + off = (tgt : Int)) (kt : y < x → Wp M E tgt L st g Q) (kf : ¬ y < x → Wp M E (pc + 3) L st g Q) : Wp M E pc L (.int y :: .int x :: st) g Q :=
  fun p l e R s m args below meth c D ad cA cells slots Qf C hE hQ H locs ls hP hS hl => lv_icmp_gt C.1 C.2.1 hd ht (fun h => kt h p l e R s m args below meth c D ad cA cells slots Qf C hE hQ H locs ls hP hS hl) (fun h => kf h p l e R s m args below meth c D ad cA cells slots Qf C hE hQ H locs ls hP hS hl)
theorem e_if_le {x : Int32} {off : Int} {tgt : Nat} (hd : decode M.2.1 pc = .ok (.ifCond .le off, 3)) (ht : (pc : Int) + off = (tgt : Int)) (kt : x ≤ 0 → Wp M E tgt L st g Q) (kf : ¬ x ≤ 0 → Wp M E (pc + 3) L st g Q) : Wp M E pc L (.int x :: st) g Q :=
  fun p l e R s m args below meth c D ad cA cells slots Qf C hE hQ H locs ls hP hS hl => lv_if_le C.1 C.2.1 hd ht (fun h => kt h p l e R s m args below meth c D ad cA cells slots Qf C hE hQ H locs ls hP hS hl) (fun h => kf h p l e R s m args below meth c D ad cA cells slots Qf C hE hQ H locs ls hP hS hl)
theorem e_icmp_le {x y : Int32} {off : Int} {tgt : Nat} (hd : decode M.2.1 pc = .ok (.if_icmp .le off, 3)) (ht : (pc : Int) + off = (tgt : Int)) (kt : x ≤ y → Wp M E tgt L st g Q) (kf : ¬ x ≤ y → Wp M E (pc + 3) L st g Q) : Wp M E pc L (.int y :: .int x :: st) g Q :=
  fun p l e R s m args below meth c D ad cA cells slots Qf C hE hQ H locs ls hP hS hl => lv_icmp_le C.1 C.2.1 hd ht (fun h => kt h p l e R s m args below meth c D ad cA cells slots Qf C hE hQ H locs ls hP hS hl) (fun h => kf h p l e R s m args below meth c D ad cA cells slots Qf C hE hQ H locs ls hP hS hl)
theorem e_iret {x : Int32} {ty : FieldType} (hd : decode M.2.1 pc = .ok (.ireturn, 1)) (hr : M.2.2.2.1 = some ty) (hn : narrow ty (.int x) = .int x) (k : Q (some (.int x)) g) : Wp M E pc L [.int x] g Q :=
  fun p l e R s m args below meth c D ad cA cells slots Qf C hE hQ H locs ls hP hS hl => hQ _ _ k H locs pc ls hP hS ⟨hd, ty, hr, hn⟩
theorem e_lret {x : Int64} (hd : decode M.2.1 pc = .ok (.lreturn, 1)) (hr : M.2.2.2.1 = some .long) (k : Q (some (.long x)) g) : Wp M E pc L [.long x] g Q :=
  fun p l e R s m args below meth c D ad cA cells slots Qf C hE hQ H locs ls hP hS hl => hQ _ _ k H locs pc ls hP hS ⟨hd, hr⟩
theorem e_vret (hd : decode M.2.1 pc = .ok (.return_, 1)) (hr : M.2.2.2.1 = none) (k : Q none g) : Wp M E pc L [] g Q :=
  fun p l e R s m args below meth c D ad cA cells slots Qf C hE hQ H locs ls hP hS hl => hQ _ _ k H locs pc ls hP hS ⟨hd, hr⟩
/-- a field's link, and what the tables say of its class -/
def FL (own : String) (idx ci j : Nat) : Prop := ∃ (C : String) (T : u_T) (N : Nat), vwCl[ci]? = some (C, T, N) ∧ j < N ∧ (∀ w ∈ u_ws C T N, w ∈ gtbl) ∧ Cond.fieldLink own idx (T j).1 (T j).2.1 (T j).2.2.1 ∈ gtbl
/-- an int field that may be written -/
def FP (own : String) (idx ci j : Nat) : Prop := ∃ (C : String) (T : u_T) (N : Nat), vwCl[ci]? = some (C, T, N) ∧ j < N ∧ (∀ w ∈ u_ws C T N, w ∈ gtbl) ∧ Cond.fieldLink own idx (T j).1 (T j).2.1 (T j).2.2.1 ∈ gtbl ∧
  (∃ ty0 : Nat → FieldType, ∀ k, k < N → parseFieldDescriptor (T k).2.2.1 = some (ty0 k)) ∧ (∀ a, a < N → ∀ b, b < N → a ≠ b → (T a).2.1 ≠ (T b).2.1) ∧ (T j).2.2.2 = false ∧ parseFieldDescriptor (T j).2.2.1 = some .int
theorem e_getI {idx ci j a : Nat} {fs : List (Option Nat)} (hd : decode M.2.1 pc = .ok (.getfield idx, 3)) (hf : FL M.1.cls idx ci j) (hs : shape[a]? = some (.inr (ci, fs))) (hj : fs[j]? = some none) (k : Wp M E (pc + 3) L (.int (g a j) :: st) g Q) : Wp M E pc L (.ref a :: st) g Q := by
  intro p l e R s m args below meth c D ad cA cells slots Qf C hE hQ H locs ls hP hS hl
  obtain ⟨Cn, T, N, h1, h2, h3, h4⟩ := hf
  refine va_get (D := D) (ci := ci) (v := .int (g a j)) (C := Cn) (T := T) (N := N) C.1 C.2.1 C.2.2.2.2.2.2.1 h3 C.2.2.2.2.2.1 C.2.2.2.2.2.2.2.2.1 hP a (wl_at hs) h1 j h2 (C.2.2.2.2.2.2.1 _ h4) (fun _ h9 => h9) ?_ hd (k p l e R s m args below meth c D ad cA cells slots Qf C hE hQ H locs ls hP hS hl)
  simp [List.getElem?_mapIdx, hj, wfld]
theorem e_getR {idx ci j a r : Nat} {fs : List (Option Nat)} (hd : decode M.2.1 pc = .ok (.getfield idx, 3)) (hf : FL M.1.cls idx ci j) (hs : shape[a]? = some (.inr (ci, fs))) (hj : fs[j]? = some (some r)) (k : Wp M E (pc + 3) L (.ref r :: st) g Q) : Wp M E pc L (.ref a :: st) g Q := by
  intro p l e R s m args below meth c D ad cA cells slots Qf C hE hQ H locs ls hP hS hl
  obtain ⟨Cn, T, N, h1, h2, h3, h4⟩ := hf
  refine va_get (D := D) (ci := ci) (v := .ref (ad r)) (C := Cn) (T := T) (N := N) C.1 C.2.1 C.2.2.2.2.2.2.1 h3 C.2.2.2.2.2.1 C.2.2.2.2.2.2.2.2.1 hP a (wl_at hs) h1 j h2 (C.2.2.2.2.2.2.1 _ h4) (fun _ h9 => h9) ?_ hd (k p l e R s m args below meth c D ad cA cells slots Qf C hE hQ H locs ls hP hS hl)
  simp [List.getElem?_mapIdx, hj, wfld]
theorem e_putI {idx ci j a : Nat} {x : Int32} {fs : List (Option Nat)} (hd : decode M.2.1 pc = .ok (.putfield idx, 3)) (hf : FP M.1.cls idx ci j) (hs : shape[a]? = some (.inr (ci, fs))) (hj : fs[j]? = some none) (k : Wp M E (pc + 3) L st (sgU g a j x) Q) : Wp M E pc L (.int x :: .ref a :: st) g Q := by
  intro p l e R s m args below meth c D ad cA cells slots Qf C hE hQ H locs ls hP hS hl
  obtain ⟨Cn, T, N, h1, h2, h3, h4, ⟨ty0, h5⟩, h6, h7, h8⟩ := hf
  have hjl : j < fs.length := (List.getElem?_eq_some_iff.mp hj).1
  refine va_put (D := D) (ci := ci) (v := .int x) (ty := .int) (C := Cn) (T := T) (N := N) C.1 C.2.1 C.2.2.2.2.2.2.1 h3 ty0 h5 h6 C.2.2.2.2.2.1 C.2.2.2.2.2.2.2.2.1 hP (wl_D C.2.2.2.2.2.2.2.2.2.1) hS a (wl_at hs) h1 j h2 (C.2.2.2.2.2.2.1 _ h4) (fun _ h9 => h9) h7 h8 rfl rfl (by rw [List.length_mapIdx]; exact hjl) hd (fun H locs hP hD hS => ?_)
  have e1 : (wl ad cA g).set a (ad a, .inr (ci, (fs.mapIdx (fun j o => wfld ad g a j o)).set j (.int x))) = wl ad cA (sgU g a j x) := by
    refine wl_set hs ?_ (fun i hi => by simp [sgU, hi])
    simp only [wcell, Sum.inr.injEq, Prod.mk.injEq, true_and]
    apply List.ext_getElem?
    intro i
    rw [List.getElem?_set, List.getElem?_mapIdx, List.getElem?_mapIdx, List.length_mapIdx]
    by_cases hi : j = i
    · subst hi
      rw [hj]
      simp [hjl, wfld, sgU, upd]
    · rw [if_neg hi]
      have : (fun o => wfld ad (sgU g a j x) a i o) = (fun o => wfld ad g a i o) := by
        funext o
        cases o <;> simp [wfld, sgU, upd, Ne.symm hi]
      rw [this]
  exact k p l e R s m args below meth c D ad cA cells slots Qf C hE hQ H locs ls (by rw [← e1]; exact hP) hS hl
theorem e_iald {a n : Nat} {i : Int32} (hd : decode M.2.1 pc = .ok (.iaload, 1)) (hs : shape[a]? = some (.inl n)) (hi : vp_in i n) (k : Wp M E (pc + 1) L (.int (g a i.toNatClampNeg) :: st) g Q) : Wp M E pc L (.int i :: .ref a :: st) g Q :=
  fun p l e R s m args below meth c D ad cA cells slots Qf C hE hQ H locs ls hP hS hl => va_iald C.1 C.2.1 C.2.2.2.2.2.2.2.2.1 hP a 0 (wl_at hs) rfl hi hd (k p l e R s m args below meth c D ad cA cells slots Qf C hE hQ H locs ls hP hS hl)
theorem e_iast {a n : Nat} {i x : Int32} (hd : decode M.2.1 pc = .ok (.iastore, 1)) (hs : shape[a]? = some (.inl n)) (hi : vp_in i n) (k : Wp M E (pc + 1) L st (sgU g a i.toNatClampNeg x) Q) : Wp M E pc L (.int x :: .int i :: .ref a :: st) g Q := by
  intro p l e R s m args below meth c D ad cA cells slots Qf C hE hQ H locs ls hP hS hl
  refine va_iast C.1 C.2.1 C.2.2.2.2.2.2.2.2.1 hP (wl_D C.2.2.2.2.2.2.2.2.2.1) hS a 0 (wl_at hs) rfl hi hd (fun H locs hP hD hS => ?_)
  have e1 : (wl ad cA g).set a (ad a, .inl (cA, n, .inl (upd (g a) i.toNatClampNeg x))) = wl ad cA (sgU g a i.toNatClampNeg x) :=
    wl_set hs (by simp [wcell, sgU]) (fun i hi => by simp [sgU, hi])
  exact k p l e R s m args below meth c D ad cA cells slots Qf C hE hQ H locs ls (by rw [← e1]; exact hP) hS hl
theorem e_alen {a n : Nat} (hd : decode M.2.1 pc = .ok (.arraylength, 1)) (hs : shape[a]? = some (.inl n)) (k : Wp M E (pc + 1) L (.int (Int32.ofNat n) :: st) g Q) : Wp M E pc L (.ref a :: st) g Q :=
  fun p l e R s m args below meth c D ad cA cells slots Qf C hE hQ H locs ls hP hS hl => va_alen C.1 C.2.1 C.2.2.2.2.2.2.2.2.1 hP a 0 (wl_at hs) rfl rfl hd (k p l e R s m args below meth c D ad cA cells slots Qf C hE hQ H locs ls hP hS hl)
theorem e_tbl {dflt lo hi : Int} {offs : Array Int} {len : Nat} {x : Int32} (hd : decode M.2.1 pc = .ok (.tableswitch dflt lo hi offs, len)) (tg : Int → Nat) (td : Nat) (htd : (pc : Int) + dflt = (td : Int)) (htg : ∀ i, i < offs.size → (pc : Int) + offs.getD i 0 = (tg (lo + i) : Int)) (hsz : lo + offs.size = hi + 1)
    (kd : (x.toInt < lo ∨ hi < x.toInt) → Wp M E td L st g Q) (kt : lo ≤ x.toInt → x.toInt ≤ hi → Wp M E (tg x.toInt) L st g Q) : Wp M E pc L (.int x :: st) g Q := by
  intro p l e R s m args below meth c D ad cA cells slots Qf C hE hQ H locs ls hP hS hl
  by_cases h : x.toInt < lo ∨ hi < x.toInt
  · exact lv_tableOut C.1 C.2.1 hd h htd (kd h p l e R s m args below meth c D ad cA cells slots Qf C hE hQ H locs ls hP hS hl)
  · have h1 : lo ≤ x.toInt := by omega
    have h2 : x.toInt ≤ hi := by omega
    have hlt : (x.toInt - lo).toNat < offs.size := by omega
    have e1 := htg (x.toInt - lo).toNat hlt
    have e2 : lo + ((x.toInt - lo).toNat : Int) = x.toInt := by omega
    rw [e2] at e1
    exact lv_tableIn C.1 C.2.1 hd (by omega) (by omega) (off := offs.getD (x.toInt - lo).toNat 0) (by simp [hlt]) e1 (kt h1 h2 p l e R s m args below meth c D ad cA cells slots Qf C hE hQ H locs ls hP hS hl)
/-- behind a call -/
theorem run_k {p : Program} {l : Launch} {e : Env} {R : Room} {s : State} {m : MethodId} {args : Array Value} {below : List Frame} {meth : Method} {c : Code} {H : Heap} {locs : List Loc} {cells slots : Nat} {Qf : State → Prop} {ls : Array Slot} {st0 rest : List Value} {D : va_G} {ad : Nat → Nat} {cA : ClassId} {Q1 : Option Value → Sg → Prop}
    (hr : va_Run p l e R s m args below meth c H locs cells slots 0 0 (F0 m pc ls st0) rest (fun st oc t => (∃ v g', oc = .returned (v.map (rv ad)) ∧ Q1 v g' ∧ va_P D vwCl (wl ad cA g') t.heap) ∧ va_F (wA ad) st t) (wA ad)) (hS : va_S (wA ad) s.heap H locs)
    (kk : ∀ v g' H1 locs1, Q1 v g' → va_P D vwCl (wl ad cA g') H1 → va_S (wA ad) s.heap H1 locs1 → W p l e R s m args below meth c H1 locs1 cells slots Qf (F0 m (pc + 3) ls ((v.map (rv ad)).toList ++ rest))) : W p l e R s m args below meth c H locs cells slots Qf (F0 m pc ls st0) := by
  intro T hT X
  obtain ⟨v, st₀, t, T', L, h0, X', hL, e1, e2, ⟨⟨v', g', hv, hq, hp⟩, hz, hk⟩, st⟩ := hr T hT X
  cases hv
  rw [h0] at hz hk
  obtain ⟨t2, a1, b1⟩ := kk v' g' T'.heap (locs ++ L) hq (by rw [e1]; exact hp)
    ⟨Nat.le_trans hS.1 (by rw [e1]; exact hz), fun q h1 h2 => by rw [e1, hk q (Nat.lt_of_lt_of_le h1 hS.1) h2]; exact hS.2.1 q h1 h2, fun q hq => by
      rcases List.mem_append.mp hq with h | h
      · exact hS.2.2 q h
      · exact hL q h⟩ T' rfl X'
  exact ⟨t2, st t2 a1, b1⟩
end Ev
end
section
/-! calls -/
theorem gtbl_good : ∀ w ∈ gtbl, (w.onTables && w.keeps) = true ∨ ∃ ty, w = .arrayClass ty := fun w h => good_of_word (List.mem_filter.mp h).2
theorem gtbl_in {y : MethodName} {cc : ByteArray} {n : Nat} {ret : Option FieldType} (h : Cond.code y cc n ret ∈ gtbl) : GoodIn gtbl (Cond.code y cc n ret :: gtbl) := fun w hw => by
  rcases List.mem_cons.mp hw with rfl | h2
  · exact ⟨h, gtbl_good _ h⟩
  · exact ⟨h2, gtbl_good _ h2⟩
def CK (M M' : MI) (n : Nat) : Prop := Cond.initialized M'.1.cls ∈ gtbl ∧ Cond.code M'.1 M'.2.1 M'.2.2.1 M'.2.2.2.1 ∈ gtbl ∧ (M'.1.cls ≠ "java/lang/invoke/MethodHandle" ∧ M'.1.cls ≠ "java/lang/invoke/VarHandle" ∧ (parseMethodDescriptor M'.1.desc).map (fun d => d.parameters.length) = some n) ∧ M'.2.2.2.2.1 + 1 ≤ M.2.2.2.2.1 ∧ 8 + (M'.2.2.1 + 11) + M'.2.2.2.2.2 ≤ M.2.2.2.2.2
def SL (M M' : MI) (idx n : Nat) : Prop := Cond.methodLink M.1.cls idx M'.1 ∈ gtbl ∧ Cond.static M'.1 ∈ gtbl ∧ CK M M' n
def SN (M M' : MI) (idx n : Nat) : Prop := (∃ host, Cond.methodLinkNest M.1.cls idx M'.1 host ∈ lw_tbl) ∧ Cond.static M'.1 ∈ gtbl ∧ CK M M' n
def VL (M M' : MI) (idx n ci : Nat) : Prop := Cond.methodLink M.1.cls idx M'.1 ∈ gtbl ∧ Cond.instanceMethod M'.1 ∈ gtbl ∧ Cond.selects M'.1.cls M'.1 M'.1 ∈ gtbl ∧ (∃ T N, vwCl[ci]? = some (M'.1.cls, T, N)) ∧ CK M M' n
theorem nst_moved {s U : State} (h : nst s) (hW : s.WarmedH U.vm) : nst U := fun own i y host hm => va_Nw.warmM hW (h own i y host hm)
theorem cl_blind {D : va_G} {ad : Nat → Nat} {cA : ClassId} {g : Sg} {as : List Value} : FrameBlind (fun v U => v = (as.map (rv ad)).toArray ∧ va_P D vwCl (wl ad cA g) U.heap ∧ va_K D vwCl [(cA, .int)] U ∧ nst U) := by
  intro a U gg mk q
  obtain ⟨q0, q1, q2, q3⟩ := q
  exact ⟨q0, q1, va_K.moved (u := U) (U := U.calling gg mk a) (Vm.Alike.refl U.vm) q2, fun own i y host hm => va_Nw.same rfl (show U.vm = (U.calling gg mk a).vm from rfl) (q3 own i y host hm)⟩
theorem cat_sum (ad : Nat → Nat) (rest : List Value) : ((rest.map (rv ad)).map fun v => v.category).sum = (rest.map fun v => v.category).sum := by
  rw [List.map_map]
  congr 1
  apply List.map_congr_left
  intro v _
  exact rv_cat ad v
section Ev2
variable {M M' : MI} {E : State → (Nat → Nat) → Prop} {pc : Nat} {L : Ls} {st rest : List Value} {g : Sg} {Q Q1 : Option Value → Sg → Prop} {idx n : Nat}
theorem e_callS (as : List Value) (hd : decode M.2.1 pc = .ok (.invokestatic idx, 3)) (hk : SL M M' idx n) (hn : as.length = n) (hst : st = as.reverse ++ rest) (hr : (rest.map fun v => v.category).sum ≤ 8) (hC : Cl M' as g Q1) (k : ∀ v g', Q1 v g' → Wp M E (pc + 3) L (v.toList ++ rest) g' Q) : Wp M E pc L st g Q := by
  intro p l e R s m args below meth c D ad cA cells slots Qf C hE hQ H locs ls hP hS hl
  obtain ⟨hx, hb, hml, hrt, hlk, hown, hts, hN, hK, hI, hF, hLo, hce, hsl⟩ := id C
  obtain ⟨k1, k2, k3, k4, k5, k6, k7⟩ := hk
  subst hst
  have hstk : (as.reverse ++ rest).map (rv ad) = (as.map (rv ad)).reverse ++ rest.map (rv ad) := by rw [List.map_append, List.map_reverse]
  rw [hstk]
  refine run_k (Q1 := Q1) (rest := rest.map (rv ad)) (va_runS (As := as.map (rv ad)) (Ts := gtbl) ⟨hx, hb, hml, hown, hts⟩ (hC l D ad cA hI) ⟨callB_of n hts (gtbl_in k4) rfl rfl rfl (hts _ k3) (hts _ k1) k5 ⟨Nat.le_trans k6 hF, Nat.le_trans k7 hLo⟩, hts _ k2⟩
    ⟨cl_blind, fun U hU hW => ⟨rfl, by rw [hU]; exact hP, va_K.moved hW.alike hK, nst_moved hN hW⟩⟩ rfl (by rw [List.length_map]; exact hn) hl.1 rfl (lv_room (by rw [cat_sum]; exact hr)) hd ⟨hce, hsl⟩) hS (fun v g' H1 locs1 hq hP1 hS1 => ?_)
  have := k v g' hq p l e R s m args below meth c D ad cA cells slots Qf C hE hQ H1 locs1 ls hP1 hS1 hl
  rw [List.map_append, ← Option.toList_map] at this
  exact this
theorem e_callSN (as : List Value) (hd : decode M.2.1 pc = .ok (.invokestatic idx, 3)) (hk : SN M M' idx n) (hn : as.length = n) (hst : st = as.reverse ++ rest) (hr : (rest.map fun v => v.category).sum ≤ 8) (hC : Cl M' as g Q1) (k : ∀ v g', Q1 v g' → Wp M E (pc + 3) L (v.toList ++ rest) g' Q) : Wp M E pc L st g Q := by
  intro p l e R s m args below meth c D ad cA cells slots Qf C hE hQ H locs ls hP hS hl
  obtain ⟨hx, hb, hml, hrt, hlk, hown, hts, hN, hK, hI, hF, hLo, hce, hsl⟩ := id C
  obtain ⟨⟨host, k1⟩, k2, k3, k4, k5, k6, k7⟩ := hk
  subst hst
  have hstk : (as.reverse ++ rest).map (rv ad) = (as.map (rv ad)).reverse ++ rest.map (rv ad) := by rw [List.map_append, List.map_reverse]
  rw [hstk]
  refine run_k (Q1 := Q1) (rest := rest.map (rv ad)) (va_runSN (As := as.map (rv ad)) (Ts := gtbl) ⟨hx, hb, hml, hown, hts⟩ (hC l D ad cA hI) ⟨va_cnB n hts (gtbl_in k4) rfl rfl rfl (hN _ _ _ _ k1) (hts _ k3) k5 ⟨Nat.le_trans k6 hF, Nat.le_trans k7 hLo⟩, hts _ k2, trivial⟩
    ⟨cl_blind, fun U hU hW => ⟨rfl, by rw [hU]; exact hP, va_K.moved hW.alike hK, nst_moved hN hW⟩⟩ rfl (by rw [List.length_map]; exact hn) hl.1 rfl (lv_room (by rw [cat_sum]; exact hr)) hd ⟨hce, hsl⟩) hS (fun v g' H1 locs1 hq hP1 hS1 => ?_)
  have := k v g' hq p l e R s m args below meth c D ad cA cells slots Qf C hE hQ H1 locs1 ls hP1 hS1 hl
  rw [List.map_append, ← Option.toList_map] at this
  exact this
theorem e_callV {a ci : Nat} {fs : List (Option Nat)} (as : List Value) (hd : decode M.2.1 pc = .ok (.invokevirtual idx, 3)) (hk : VL M M' idx n ci) (hs : shape[a]? = some (.inr (ci, fs))) (hn : as.length = n) (hst : st = as.reverse ++ .ref a :: rest) (hr : (rest.map fun v => v.category).sum ≤ 8) (hC : Cl M' (.ref a :: as) g Q1) (k : ∀ v g', Q1 v g' → Wp M E (pc + 3) L (v.toList ++ rest) g' Q) : Wp M E pc L st g Q := by
  intro p l e R s m args below meth c D ad cA cells slots Qf C hE hQ H locs ls hP hS hl
  obtain ⟨hx, hb, hml, hrt, hlk, hown, hts, hN, hK, hI, hF, hLo, hce, hsl⟩ := id C
  obtain ⟨k1, k2, k2s, ⟨T, N, k8⟩, k3, k4, k5, k6, k7⟩ := hk
  subst hst
  have hstk : (as.reverse ++ .ref a :: rest).map (rv ad) = (as.map (rv ad)).reverse ++ .ref (ad a) :: rest.map (rv ad) := by rw [List.map_append, List.map_reverse]; rfl
  rw [hstk]
  refine run_k (Q1 := Q1) (rest := rest.map (rv ad)) (va_runV (C := M'.1.cls) (As := as.map (rv ad)) (Ts := gtbl) ⟨hx, hb, hml, hown, hts⟩ (hC l D ad cA hI) ⟨callB_of n hts (gtbl_in k4) rfl rfl rfl (hts _ k3) (hts _ k1) k5 ⟨Nat.le_trans k6 hF, Nat.le_trans k7 hLo⟩, hts _ k2, hts _ k2s⟩
    ⟨cl_blind, va_recv hK hP k8 (wl_at hs), fun U hU hW => ⟨rfl, by rw [hU]; exact hP, va_K.moved hW.alike hK, nst_moved hN hW⟩⟩ rfl (by rw [List.length_map]; exact hn) hl.1 rfl (lv_room (by rw [cat_sum]; exact hr)) hd ⟨hce, hsl⟩) hS (fun v g' H1 locs1 hq hP1 hS1 => ?_)
  have := k v g' hq p l e R s m args below meth c D ad cA cells slots Qf C hE hQ H1 locs1 ls hP1 hS1 hl
  rw [List.map_append, ← Option.toList_map] at this
  exact this
end Ev2
/-! calls by what they answer -/
def Ci (M : MI) (as : List Value) (g : Sg) (Q : Int32 → Sg → Prop) : Prop := Cl M as g (fun v g' => ∃ x, v = some (.int x) ∧ Q x g')
def Cj (M : MI) (as : List Value) (g : Sg) (Q : Int64 → Sg → Prop) : Prop := Cl M as g (fun v g' => ∃ x, v = some (.long x) ∧ Q x g')
def Cv (M : MI) (as : List Value) (g : Sg) (Q : Sg → Prop) : Prop := Cl M as g (fun v g' => v = none ∧ Q g')
/-- a point in a method by what the method answers -/
def Hi (M : MI) (pc : Nat) (L : Ls) (st : List Value) (g : Sg) (Q : Int32 → Sg → Prop) : Prop := Wp M (fun _ _ => True) pc L st g (fun v g' => ∃ x, v = some (.int x) ∧ Q x g')
def Hj (M : MI) (pc : Nat) (L : Ls) (st : List Value) (g : Sg) (Q : Int64 → Sg → Prop) : Prop := Wp M (fun _ _ => True) pc L st g (fun v g' => ∃ x, v = some (.long x) ∧ Q x g')
def Hv (M : MI) (pc : Nat) (L : Ls) (st : List Value) (g : Sg) (Q : Sg → Prop) : Prop := Wp M (fun _ _ => True) pc L st g (fun v g' => v = none ∧ Q g')
section Ev3
variable {M M' : MI} {E : State → (Nat → Nat) → Prop} {pc : Nat} {L : Ls} {st rest : List Value} {g : Sg} {Q : Option Value → Sg → Prop} {idx n : Nat}
theorem e_callSi {Q1 : Int32 → Sg → Prop} (as : List Value) (hd : decode M.2.1 pc = .ok (.invokestatic idx, 3)) (hk : SL M M' idx n) (hn : as.length = n) (hst : st = as.reverse ++ rest) (hr : (rest.map fun v => v.category).sum ≤ 8) (hC : Ci M' as g Q1) (k : ∀ x g', Q1 x g' → Wp M E (pc + 3) L (.int x :: rest) g' Q) : Wp M E pc L st g Q :=
  e_callS as hd hk hn hst hr hC (fun v g' h => by obtain ⟨x, rfl, hx⟩ := h; exact k x g' hx)
theorem e_callSv {Q1 : Sg → Prop} (as : List Value) (hd : decode M.2.1 pc = .ok (.invokestatic idx, 3)) (hk : SL M M' idx n) (hn : as.length = n) (hst : st = as.reverse ++ rest) (hr : (rest.map fun v => v.category).sum ≤ 8) (hC : Cv M' as g Q1) (k : ∀ g', Q1 g' → Wp M E (pc + 3) L rest g' Q) : Wp M E pc L st g Q :=
  e_callS as hd hk hn hst hr hC (fun v g' h => by obtain ⟨rfl, hx⟩ := h; exact k g' hx)
theorem e_callSj {Q1 : Int64 → Sg → Prop} (as : List Value) (hd : decode M.2.1 pc = .ok (.invokestatic idx, 3)) (hk : SL M M' idx n) (hn : as.length = n) (hst : st = as.reverse ++ rest) (hr : (rest.map fun v => v.category).sum ≤ 8) (hC : Cj M' as g Q1) (k : ∀ x g', Q1 x g' → Wp M E (pc + 3) L (.long x :: rest) g' Q) : Wp M E pc L st g Q :=
  e_callS as hd hk hn hst hr hC (fun v g' h => by obtain ⟨x, rfl, hx⟩ := h; exact k x g' hx)
theorem e_callSNi {Q1 : Int32 → Sg → Prop} (as : List Value) (hd : decode M.2.1 pc = .ok (.invokestatic idx, 3)) (hk : SN M M' idx n) (hn : as.length = n) (hst : st = as.reverse ++ rest) (hr : (rest.map fun v => v.category).sum ≤ 8) (hC : Ci M' as g Q1) (k : ∀ x g', Q1 x g' → Wp M E (pc + 3) L (.int x :: rest) g' Q) : Wp M E pc L st g Q :=
  e_callSN as hd hk hn hst hr hC (fun v g' h => by obtain ⟨x, rfl, hx⟩ := h; exact k x g' hx)
theorem e_callVi {Q1 : Int32 → Sg → Prop} {a ci : Nat} {fs : List (Option Nat)} (as : List Value) (hd : decode M.2.1 pc = .ok (.invokevirtual idx, 3)) (hk : VL M M' idx n ci) (hs : shape[a]? = some (.inr (ci, fs))) (hn : as.length = n) (hst : st = as.reverse ++ .ref a :: rest) (hr : (rest.map fun v => v.category).sum ≤ 8) (hC : Ci M' (.ref a :: as) g Q1) (k : ∀ x g', Q1 x g' → Wp M E (pc + 3) L (.int x :: rest) g' Q) : Wp M E pc L st g Q :=
  e_callV as hd hk hs hn hst hr hC (fun v g' h => by obtain ⟨x, rfl, hx⟩ := h; exact k x g' hx)
theorem e_callVv {Q1 : Sg → Prop} {a ci : Nat} {fs : List (Option Nat)} (as : List Value) (hd : decode M.2.1 pc = .ok (.invokevirtual idx, 3)) (hk : VL M M' idx n ci) (hs : shape[a]? = some (.inr (ci, fs))) (hn : as.length = n) (hst : st = as.reverse ++ .ref a :: rest) (hr : (rest.map fun v => v.category).sum ≤ 8) (hC : Cv M' (.ref a :: as) g Q1) (k : ∀ g', Q1 g' → Wp M E (pc + 3) L rest g' Q) : Wp M E pc L st g Q :=
  e_callV as hd hk hs hn hst hr hC (fun v g' h => by obtain ⟨rfl, hx⟩ := h; exact k g' hx)
theorem e_callVj {Q1 : Int64 → Sg → Prop} {a ci : Nat} {fs : List (Option Nat)} (as : List Value) (hd : decode M.2.1 pc = .ok (.invokevirtual idx, 3)) (hk : VL M M' idx n ci) (hs : shape[a]? = some (.inr (ci, fs))) (hn : as.length = n) (hst : st = as.reverse ++ .ref a :: rest) (hr : (rest.map fun v => v.category).sum ≤ 8) (hC : Cj M' (.ref a :: as) g Q1) (k : ∀ x g', Q1 x g' → Wp M E (pc + 3) L (.long x :: rest) g' Q) : Wp M E pc L st g Q :=
  e_callV as hd hk hs hn hst hr hC (fun v g' h => by obtain ⟨x, rfl, hx⟩ := h; exact k x g' hx)
/-- System.arraycopy among the rows of the world -/
theorem e_copy {a0 a n0 n1 : Nat} {sp dp x : Int32} (hd : decode M.2.1 pc = .ok (.invokestatic idx, 3)) (hk : Cond.methodLink M.1.cls idx arraycopyName ∈ gtbl ∧ Cond.native arraycopyName ∈ gtbl ∧ Cond.static arraycopyName ∈ gtbl ∧ Cond.initialized "java/lang/System" ∈ gtbl) (hs0 : shape[a0]? = some (.inl n0)) (hs : shape[a]? = some (.inl n1))
    (h1 : ¬ sp < 0) (h2 : ¬ dp < 0) (h3 : ¬ x < 0) (h4 : sp.toNatClampNeg + x.toNatClampNeg ≤ n0) (h5 : dp.toNatClampNeg + x.toNatClampNeg ≤ n1) (hfr : 1 ≤ M.2.2.2.2.1) (hlo : (rest.map fun v => v.category).sum + (nativeFrameWords "java/lang/System" "arraycopy" 5 + 11) ≤ M.2.2.2.2.2)
    (k : Wp M E (pc + 3) L rest (sgC g a (va_cpy (g a0) (g a) sp.toNatClampNeg dp.toNatClampNeg x.toNatClampNeg)) Q) : Wp M E pc L (.int x :: .int dp :: .ref a :: .int sp :: .ref a0 :: rest) g Q := by
  intro p l e R s m args below meth c D ad cA cells slots Qf C hE hQ H locs ls hP hS hl
  obtain ⟨hx, hb, hml, hrt, hlk, hown, hts, hN, hK, hI, hF, hLo, hce, hsl⟩ := id C
  refine va_copyi hx hb (hml.trans hl.1.symm) hown (hts _ hk.1) (hts _ hk.2.1) (hts _ hk.2.2.1) (hts _ hk.2.2.2) hK hP (wl_D hI) hS a0 a 0 0 (wl_at hs0) (wl_at hs) rfl rfl rfl h1 h2 h3 h4 h5 (fun i _ => rfl) (Nat.le_trans hfr hF) (Nat.le_trans (by rw [cat_sum]; exact hlo) hLo) hd (fun H locs hP hD hS => ?_)
  have e1 : (wl ad cA g).set a (ad a, .inl (cA, n1, .inl (va_cpy (g a0) (g a) sp.toNatClampNeg dp.toNatClampNeg x.toNatClampNeg))) = wl ad cA (sgC g a (va_cpy (g a0) (g a) sp.toNatClampNeg dp.toNatClampNeg x.toNatClampNeg)) :=
    wl_set hs (by simp [wcell, sgC]) (fun i hi => by simp [sgC, hi])
  exact k p l e R s m args below meth c D ad cA cells slots Qf C hE hQ H locs ls (by rw [← e1]; exact hP) hS hl
end Ev3
end
section
theorem gm {w : Cond} (i : Nat) (h : lw_tbl[i]? = some w ∧ goodWord w = true) : w ∈ gtbl := List.mem_filter.mpr ⟨List.mem_of_getElem? h.1, h.2⟩
theorem inX0_a : ∀ w ∈ u_ws RX0 TX0 7, w ∈ lw_tbl := by decide +kernel
theorem inX0_b : ∀ w ∈ u_ws RX0 TX0 7, goodWord w = true := by decide +kernel
theorem inX0 : ∀ w ∈ u_ws RX0 TX0 7, w ∈ gtbl := fun w h => List.mem_filter.mpr ⟨inX0_a w h, inX0_b w h⟩
theorem inX1_a : ∀ w ∈ u_ws RX1 TX1 5, w ∈ lw_tbl := by decide +kernel
theorem inX1_b : ∀ w ∈ u_ws RX1 TX1 5, goodWord w = true := by decide +kernel
theorem inX1 : ∀ w ∈ u_ws RX1 TX1 5, w ∈ gtbl := fun w h => List.mem_filter.mpr ⟨inX1_a w h, inX1_b w h⟩
theorem inX2_a : ∀ w ∈ u_ws RX2 TX2 5, w ∈ lw_tbl := by decide +kernel
theorem inX2_b : ∀ w ∈ u_ws RX2 TX2 5, goodWord w = true := by decide +kernel
theorem inX2 : ∀ w ∈ u_ws RX2 TX2 5, w ∈ gtbl := fun w h => List.mem_filter.mpr ⟨inX2_a w h, inX2_b w h⟩
theorem inX3_a : ∀ w ∈ u_ws RX3 TX3 6, w ∈ lw_tbl := by decide +kernel
theorem inX3_b : ∀ w ∈ u_ws RX3 TX3 6, goodWord w = true := by decide +kernel
theorem inX3 : ∀ w ∈ u_ws RX3 TX3 6, w ∈ gtbl := fun w h => List.mem_filter.mpr ⟨inX3_a w h, inX3_b w h⟩
theorem inX4_a : ∀ w ∈ u_ws RX4 TX4 11, w ∈ lw_tbl := by decide +kernel
theorem inX4_b : ∀ w ∈ u_ws RX4 TX4 11, goodWord w = true := by decide +kernel
theorem inX4 : ∀ w ∈ u_ws RX4 TX4 11, w ∈ gtbl := fun w h => List.mem_filter.mpr ⟨inX4_a w h, inX4_b w h⟩
theorem inX5_a : ∀ w ∈ u_ws RX5 TX5 4, w ∈ lw_tbl := by decide +kernel
theorem inX5_b : ∀ w ∈ u_ws RX5 TX5 4, goodWord w = true := by decide +kernel
theorem inX5 : ∀ w ∈ u_ws RX5 TX5 4, w ∈ gtbl := fun w h => List.mem_filter.mpr ⟨inX5_a w h, inX5_b w h⟩
theorem inX6_a : ∀ w ∈ u_ws RX6 TX6 4, w ∈ lw_tbl := by decide +kernel
theorem inX6_b : ∀ w ∈ u_ws RX6 TX6 4, goodWord w = true := by decide +kernel
theorem inX6 : ∀ w ∈ u_ws RX6 TX6 4, w ∈ gtbl := fun w h => List.mem_filter.mpr ⟨inX6_a w h, inX6_b w h⟩
theorem inX7_a : ∀ w ∈ u_ws RX7 TX7 5, w ∈ lw_tbl := by decide +kernel
theorem inX7_b : ∀ w ∈ u_ws RX7 TX7 5, goodWord w = true := by decide +kernel
theorem inX7 : ∀ w ∈ u_ws RX7 TX7 5, w ∈ gtbl := fun w h => List.mem_filter.mpr ⟨inX7_a w h, inX7_b w h⟩
theorem inX8_a : ∀ w ∈ u_ws RX8 TX8 9, w ∈ lw_tbl := by decide +kernel
theorem inX8_b : ∀ w ∈ u_ws RX8 TX8 9, goodWord w = true := by decide +kernel
theorem inX8 : ∀ w ∈ u_ws RX8 TX8 9, w ∈ gtbl := fun w h => List.mem_filter.mpr ⟨inX8_a w h, inX8_b w h⟩
theorem inX9_a : ∀ w ∈ u_ws RX9 TX9 30, w ∈ lw_tbl := by decide +kernel
theorem inX9_b : ∀ w ∈ u_ws RX9 TX9 30, goodWord w = true := by decide +kernel
theorem inX9 : ∀ w ∈ u_ws RX9 TX9 30, w ∈ gtbl := fun w h => List.mem_filter.mpr ⟨inX9_a w h, inX9_b w h⟩
theorem k342 : Cond.fieldLink RX8 10 (TX8 0).1 (TX8 0).2.1 (TX8 0).2.2.1 ∈ gtbl := gm 342 (by decide +kernel)
theorem fl_RX8_10 : FL RX8 10 8 0 := ⟨_, _, _, rfl, by decide, inX8, k342⟩
theorem k343 : Cond.fieldLink RX8 21 (TX8 1).1 (TX8 1).2.1 (TX8 1).2.2.1 ∈ gtbl := gm 343 (by decide +kernel)
theorem fl_RX8_21 : FL RX8 21 8 1 := ⟨_, _, _, rfl, by decide, inX8, k343⟩
theorem k344 : Cond.fieldLink RX8 30 (TX8 2).1 (TX8 2).2.1 (TX8 2).2.2.1 ∈ gtbl := gm 344 (by decide +kernel)
theorem fl_RX8_30 : FL RX8 30 8 2 := ⟨_, _, _, rfl, by decide, inX8, k344⟩
theorem k345 : Cond.fieldLink RX8 37 (TX8 3).1 (TX8 3).2.1 (TX8 3).2.2.1 ∈ gtbl := gm 345 (by decide +kernel)
theorem fl_RX8_37 : FL RX8 37 8 3 := ⟨_, _, _, rfl, by decide, inX8, k345⟩
theorem k346 : Cond.fieldLink RX8 46 (TX8 4).1 (TX8 4).2.1 (TX8 4).2.2.1 ∈ gtbl := gm 346 (by decide +kernel)
theorem fl_RX8_46 : FL RX8 46 8 4 := ⟨_, _, _, rfl, by decide, inX8, k346⟩
theorem k347 : Cond.fieldLink RX8 53 (TX8 5).1 (TX8 5).2.1 (TX8 5).2.2.1 ∈ gtbl := gm 347 (by decide +kernel)
theorem fl_RX8_53 : FL RX8 53 8 5 := ⟨_, _, _, rfl, by decide, inX8, k347⟩
theorem k348 : Cond.fieldLink RX8 60 (TX8 6).1 (TX8 6).2.1 (TX8 6).2.2.1 ∈ gtbl := gm 348 (by decide +kernel)
theorem fl_RX8_60 : FL RX8 60 8 6 := ⟨_, _, _, rfl, by decide, inX8, k348⟩
theorem k349 : Cond.fieldLink RX8 67 (TX8 7).1 (TX8 7).2.1 (TX8 7).2.2.1 ∈ gtbl := gm 349 (by decide +kernel)
theorem fl_RX8_67 : FL RX8 67 8 7 := ⟨_, _, _, rfl, by decide, inX8, k349⟩
theorem k350 : Cond.fieldLink RX8 71 (TX8 8).1 (TX8 8).2.1 (TX8 8).2.2.1 ∈ gtbl := gm 350 (by decide +kernel)
theorem fl_RX8_71 : FL RX8 71 8 8 := ⟨_, _, _, rfl, by decide, inX8, k350⟩
theorem fp_RX8_71 : FP RX8 71 8 8 := ⟨_, _, _, rfl, by decide, inX8, k350, ⟨tyX8, tyX8_ok⟩, nmX8, rfl, by decide +kernel⟩
theorem k120 : Cond.fieldLink RX8 79 (TX4 5).1 (TX4 5).2.1 (TX4 5).2.2.1 ∈ gtbl := gm 120 (by decide +kernel)
theorem fl_RX8_79 : FL RX8 79 4 5 := ⟨_, _, _, rfl, by decide, inX4, k120⟩
theorem fp_RX8_79 : FP RX8 79 4 5 := ⟨_, _, _, rfl, by decide, inX4, k120, ⟨tyX4, tyX4_ok⟩, nmX4, rfl, by decide +kernel⟩
theorem k126 : Cond.fieldLink RX8 92 (TX4 8).1 (TX4 8).2.1 (TX4 8).2.2.1 ∈ gtbl := gm 126 (by decide +kernel)
theorem fl_RX8_92 : FL RX8 92 4 8 := ⟨_, _, _, rfl, by decide, inX4, k126⟩
theorem fp_RX8_92 : FP RX8 92 4 8 := ⟨_, _, _, rfl, by decide, inX4, k126, ⟨tyX4, tyX4_ok⟩, nmX4, rfl, by decide +kernel⟩
theorem k123 : Cond.fieldLink RX8 98 (TX4 7).1 (TX4 7).2.1 (TX4 7).2.2.1 ∈ gtbl := gm 123 (by decide +kernel)
theorem fl_RX8_98 : FL RX8 98 4 7 := ⟨_, _, _, rfl, by decide, inX4, k123⟩
theorem fp_RX8_98 : FP RX8 98 4 7 := ⟨_, _, _, rfl, by decide, inX4, k123, ⟨tyX4, tyX4_ok⟩, nmX4, rfl, by decide +kernel⟩
theorem k108 : Cond.fieldLink RX8 105 (TX4 1).1 (TX4 1).2.1 (TX4 1).2.2.1 ∈ gtbl := gm 108 (by decide +kernel)
theorem fl_RX8_105 : FL RX8 105 4 1 := ⟨_, _, _, rfl, by decide, inX4, k108⟩
theorem k113 : Cond.fieldLink RX8 109 (TX4 2).1 (TX4 2).2.1 (TX4 2).2.2.1 ∈ gtbl := gm 113 (by decide +kernel)
theorem fl_RX8_109 : FL RX8 109 4 2 := ⟨_, _, _, rfl, by decide, inX4, k113⟩
theorem k116 : Cond.fieldLink RX8 112 (TX4 3).1 (TX4 3).2.1 (TX4 3).2.2.1 ∈ gtbl := gm 116 (by decide +kernel)
theorem fl_RX8_112 : FL RX8 112 4 3 := ⟨_, _, _, rfl, by decide, inX4, k116⟩
theorem k118 : Cond.fieldLink RX8 115 (TX4 4).1 (TX4 4).2.1 (TX4 4).2.2.1 ∈ gtbl := gm 118 (by decide +kernel)
theorem fl_RX8_115 : FL RX8 115 4 4 := ⟨_, _, _, rfl, by decide, inX4, k118⟩
theorem k131 : Cond.fieldLink RX8 137 (TX4 9).1 (TX4 9).2.1 (TX4 9).2.2.1 ∈ gtbl := gm 131 (by decide +kernel)
theorem fl_RX8_137 : FL RX8 137 4 9 := ⟨_, _, _, rfl, by decide, inX4, k131⟩
theorem fp_RX8_137 : FP RX8 137 4 9 := ⟨_, _, _, rfl, by decide, inX4, k131, ⟨tyX4, tyX4_ok⟩, nmX4, rfl, by decide +kernel⟩
theorem k136 : Cond.fieldLink RX8 140 (TX4 10).1 (TX4 10).2.1 (TX4 10).2.2.1 ∈ gtbl := gm 136 (by decide +kernel)
theorem fl_RX8_140 : FL RX8 140 4 10 := ⟨_, _, _, rfl, by decide, inX4, k136⟩
theorem fp_RX8_140 : FP RX8 140 4 10 := ⟨_, _, _, rfl, by decide, inX4, k136, ⟨tyX4, tyX4_ok⟩, nmX4, rfl, by decide +kernel⟩
theorem k204 : Cond.fieldLink RX8 153 (TX0 6).1 (TX0 6).2.1 (TX0 6).2.2.1 ∈ gtbl := gm 204 (by decide +kernel)
theorem fl_RX8_153 : FL RX8 153 0 6 := ⟨_, _, _, rfl, by decide, inX0, k204⟩
theorem fp_RX8_153 : FP RX8 153 0 6 := ⟨_, _, _, rfl, by decide, inX0, k204, ⟨tyX0, tyX0_ok⟩, nmX0, rfl, by decide +kernel⟩
theorem k330 : Cond.fieldLink RX8 166 (TX6 2).1 (TX6 2).2.1 (TX6 2).2.2.1 ∈ gtbl := gm 330 (by decide +kernel)
theorem fl_RX8_166 : FL RX8 166 6 2 := ⟨_, _, _, rfl, by decide, inX6, k330⟩
theorem k201 : Cond.fieldLink RX8 178 (TX0 4).1 (TX0 4).2.1 (TX0 4).2.2.1 ∈ gtbl := gm 201 (by decide +kernel)
theorem fl_RX8_178 : FL RX8 178 0 4 := ⟨_, _, _, rfl, by decide, inX0, k201⟩
theorem k178 : Cond.fieldLink RX8 199 (TX7 4).1 (TX7 4).2.1 (TX7 4).2.2.1 ∈ gtbl := gm 178 (by decide +kernel)
theorem fl_RX8_199 : FL RX8 199 7 4 := ⟨_, _, _, rfl, by decide, inX7, k178⟩
theorem fp_RX8_199 : FP RX8 199 7 4 := ⟨_, _, _, rfl, by decide, inX7, k178, ⟨tyX7, tyX7_ok⟩, nmX7, rfl, by decide +kernel⟩
theorem k176 : Cond.fieldLink RX8 202 (TX7 3).1 (TX7 3).2.1 (TX7 3).2.2.1 ∈ gtbl := gm 176 (by decide +kernel)
theorem fl_RX8_202 : FL RX8 202 7 3 := ⟨_, _, _, rfl, by decide, inX7, k176⟩
theorem k252 : Cond.fieldLink RX8 223 (TX3 3).1 (TX3 3).2.1 (TX3 3).2.2.1 ∈ gtbl := gm 252 (by decide +kernel)
theorem fl_RX8_223 : FL RX8 223 3 3 := ⟨_, _, _, rfl, by decide, inX3, k252⟩
theorem fp_RX8_223 : FP RX8 223 3 3 := ⟨_, _, _, rfl, by decide, inX3, k252, ⟨tyX3, tyX3_ok⟩, nmX3, rfl, by decide +kernel⟩
theorem k254 : Cond.fieldLink RX8 226 (TX3 4).1 (TX3 4).2.1 (TX3 4).2.2.1 ∈ gtbl := gm 254 (by decide +kernel)
theorem fl_RX8_226 : FL RX8 226 3 4 := ⟨_, _, _, rfl, by decide, inX3, k254⟩
theorem fp_RX8_226 : FP RX8 226 3 4 := ⟨_, _, _, rfl, by decide, inX3, k254, ⟨tyX3, tyX3_ok⟩, nmX3, rfl, by decide +kernel⟩
theorem k256 : Cond.fieldLink RX8 229 (TX3 5).1 (TX3 5).2.1 (TX3 5).2.2.1 ∈ gtbl := gm 256 (by decide +kernel)
theorem fl_RX8_229 : FL RX8 229 3 5 := ⟨_, _, _, rfl, by decide, inX3, k256⟩
theorem fp_RX8_229 : FP RX8 229 3 5 := ⟨_, _, _, rfl, by decide, inX3, k256, ⟨tyX3, tyX3_ok⟩, nmX3, rfl, by decide +kernel⟩
theorem k278 : Cond.fieldLink RX8 242 (TX5 1).1 (TX5 1).2.1 (TX5 1).2.2.1 ∈ gtbl := gm 278 (by decide +kernel)
theorem fl_RX8_242 : FL RX8 242 5 1 := ⟨_, _, _, rfl, by decide, inX5, k278⟩
theorem k303 : Cond.fieldLink RX8 260 (TX2 3).1 (TX2 3).2.1 (TX2 3).2.2.1 ∈ gtbl := gm 303 (by decide +kernel)
theorem fl_RX8_260 : FL RX8 260 2 3 := ⟨_, _, _, rfl, by decide, inX2, k303⟩
theorem fp_RX8_260 : FP RX8 260 2 3 := ⟨_, _, _, rfl, by decide, inX2, k303, ⟨tyX2, tyX2_ok⟩, nmX2, rfl, by decide +kernel⟩
theorem k297 : Cond.fieldLink RX8 263 (TX2 0).1 (TX2 0).2.1 (TX2 0).2.2.1 ∈ gtbl := gm 297 (by decide +kernel)
theorem fl_RX8_263 : FL RX8 263 2 0 := ⟨_, _, _, rfl, by decide, inX2, k297⟩
theorem k299 : Cond.fieldLink RX8 269 (TX2 1).1 (TX2 1).2.1 (TX2 1).2.2.1 ∈ gtbl := gm 299 (by decide +kernel)
theorem fl_RX8_269 : FL RX8 269 2 1 := ⟨_, _, _, rfl, by decide, inX2, k299⟩
theorem k305 : Cond.fieldLink RX8 278 (TX2 4).1 (TX2 4).2.1 (TX2 4).2.2.1 ∈ gtbl := gm 305 (by decide +kernel)
theorem fl_RX8_278 : FL RX8 278 2 4 := ⟨_, _, _, rfl, by decide, inX2, k305⟩
theorem fp_RX8_278 : FP RX8 278 2 4 := ⟨_, _, _, rfl, by decide, inX2, k305, ⟨tyX2, tyX2_ok⟩, nmX2, rfl, by decide +kernel⟩
theorem k301 : Cond.fieldLink RX8 281 (TX2 2).1 (TX2 2).2.1 (TX2 2).2.2.1 ∈ gtbl := gm 301 (by decide +kernel)
theorem fl_RX8_281 : FL RX8 281 2 2 := ⟨_, _, _, rfl, by decide, inX2, k301⟩
theorem k328 : Cond.fieldLink RX8 307 (TX6 1).1 (TX6 1).2.1 (TX6 1).2.2.1 ∈ gtbl := gm 328 (by decide +kernel)
theorem fl_RX8_307 : FL RX8 307 6 1 := ⟨_, _, _, rfl, by decide, inX6, k328⟩
theorem k332 : Cond.fieldLink RX8 331 (TX6 3).1 (TX6 3).2.1 (TX6 3).2.2.1 ∈ gtbl := gm 332 (by decide +kernel)
theorem fl_RX8_331 : FL RX8 331 6 3 := ⟨_, _, _, rfl, by decide, inX6, k332⟩
theorem fp_RX8_331 : FP RX8 331 6 3 := ⟨_, _, _, rfl, by decide, inX6, k332, ⟨tyX6, tyX6_ok⟩, nmX6, rfl, by decide +kernel⟩
theorem k198 : Cond.fieldLink RX0 9 (TX0 2).1 (TX0 2).2.1 (TX0 2).2.2.1 ∈ gtbl := gm 198 (by decide +kernel)
theorem fl_RX0_9 : FL RX0 9 0 2 := ⟨_, _, _, rfl, by decide, inX0, k198⟩
theorem k199 : Cond.fieldLink RX0 15 (TX0 3).1 (TX0 3).2.1 (TX0 3).2.2.1 ∈ gtbl := gm 199 (by decide +kernel)
theorem fl_RX0_15 : FL RX0 15 0 3 := ⟨_, _, _, rfl, by decide, inX0, k199⟩
theorem k200 : Cond.fieldLink RX0 18 (TX0 4).1 (TX0 4).2.1 (TX0 4).2.2.1 ∈ gtbl := gm 200 (by decide +kernel)
theorem fl_RX0_18 : FL RX0 18 0 4 := ⟨_, _, _, rfl, by decide, inX0, k200⟩
theorem k202 : Cond.fieldLink RX0 21 (TX0 5).1 (TX0 5).2.1 (TX0 5).2.2.1 ∈ gtbl := gm 202 (by decide +kernel)
theorem fl_RX0_21 : FL RX0 21 0 5 := ⟨_, _, _, rfl, by decide, inX0, k202⟩
theorem k196 : Cond.fieldLink RX0 24 (TX0 0).1 (TX0 0).2.1 (TX0 0).2.2.1 ∈ gtbl := gm 196 (by decide +kernel)
theorem fl_RX0_24 : FL RX0 24 0 0 := ⟨_, _, _, rfl, by decide, inX0, k196⟩
theorem k170 : Cond.fieldLink RX0 28 (TX7 0).1 (TX7 0).2.1 (TX7 0).2.2.1 ∈ gtbl := gm 170 (by decide +kernel)
theorem fl_RX0_28 : FL RX0 28 7 0 := ⟨_, _, _, rfl, by decide, inX7, k170⟩
theorem k197 : Cond.fieldLink RX0 34 (TX0 1).1 (TX0 1).2.1 (TX0 1).2.2.1 ∈ gtbl := gm 197 (by decide +kernel)
theorem fl_RX0_34 : FL RX0 34 0 1 := ⟨_, _, _, rfl, by decide, inX0, k197⟩
theorem k203 : Cond.fieldLink RX0 35 (TX0 6).1 (TX0 6).2.1 (TX0 6).2.2.1 ∈ gtbl := gm 203 (by decide +kernel)
theorem fl_RX0_35 : FL RX0 35 0 6 := ⟨_, _, _, rfl, by decide, inX0, k203⟩
theorem fp_RX0_35 : FP RX0 35 0 6 := ⟨_, _, _, rfl, by decide, inX0, k203, ⟨tyX0, tyX0_ok⟩, nmX0, rfl, by decide +kernel⟩
theorem k129 : Cond.fieldLink RX0 75 (TX4 8).1 (TX4 8).2.1 (TX4 8).2.2.1 ∈ gtbl := gm 129 (by decide +kernel)
theorem fl_RX0_75 : FL RX0 75 4 8 := ⟨_, _, _, rfl, by decide, inX4, k129⟩
theorem fp_RX0_75 : FP RX0 75 4 8 := ⟨_, _, _, rfl, by decide, inX4, k129, ⟨tyX4, tyX4_ok⟩, nmX4, rfl, by decide +kernel⟩
theorem k137 : Cond.fieldLink RX0 81 (TX4 10).1 (TX4 10).2.1 (TX4 10).2.2.1 ∈ gtbl := gm 137 (by decide +kernel)
theorem fl_RX0_81 : FL RX0 81 4 10 := ⟨_, _, _, rfl, by decide, inX4, k137⟩
theorem fp_RX0_81 : FP RX0 81 4 10 := ⟨_, _, _, rfl, by decide, inX4, k137, ⟨tyX4, tyX4_ok⟩, nmX4, rfl, by decide +kernel⟩
theorem k173 : Cond.fieldLink RX0 87 (TX7 1).1 (TX7 1).2.1 (TX7 1).2.2.1 ∈ gtbl := gm 173 (by decide +kernel)
theorem fl_RX0_87 : FL RX0 87 7 1 := ⟨_, _, _, rfl, by decide, inX7, k173⟩
theorem k228 : Cond.fieldLink RX1 9 (TX1 2).1 (TX1 2).2.1 (TX1 2).2.2.1 ∈ gtbl := gm 228 (by decide +kernel)
theorem fl_RX1_9 : FL RX1 9 1 2 := ⟨_, _, _, rfl, by decide, inX1, k228⟩
theorem k229 : Cond.fieldLink RX1 15 (TX1 3).1 (TX1 3).2.1 (TX1 3).2.2.1 ∈ gtbl := gm 229 (by decide +kernel)
theorem fl_RX1_15 : FL RX1 15 1 3 := ⟨_, _, _, rfl, by decide, inX1, k229⟩
theorem k230 : Cond.fieldLink RX1 18 (TX1 4).1 (TX1 4).2.1 (TX1 4).2.2.1 ∈ gtbl := gm 230 (by decide +kernel)
theorem fl_RX1_18 : FL RX1 18 1 4 := ⟨_, _, _, rfl, by decide, inX1, k230⟩
theorem k226 : Cond.fieldLink RX1 21 (TX1 0).1 (TX1 0).2.1 (TX1 0).2.2.1 ∈ gtbl := gm 226 (by decide +kernel)
theorem fl_RX1_21 : FL RX1 21 1 0 := ⟨_, _, _, rfl, by decide, inX1, k226⟩
theorem k169 : Cond.fieldLink RX1 25 (TX7 0).1 (TX7 0).2.1 (TX7 0).2.2.1 ∈ gtbl := gm 169 (by decide +kernel)
theorem fl_RX1_25 : FL RX1 25 7 0 := ⟨_, _, _, rfl, by decide, inX7, k169⟩
theorem k227 : Cond.fieldLink RX1 31 (TX1 1).1 (TX1 1).2.1 (TX1 1).2.2.1 ∈ gtbl := gm 227 (by decide +kernel)
theorem fl_RX1_31 : FL RX1 31 1 1 := ⟨_, _, _, rfl, by decide, inX1, k227⟩
theorem k125 : Cond.fieldLink RX1 53 (TX4 8).1 (TX4 8).2.1 (TX4 8).2.2.1 ∈ gtbl := gm 125 (by decide +kernel)
theorem fl_RX1_53 : FL RX1 53 4 8 := ⟨_, _, _, rfl, by decide, inX4, k125⟩
theorem fp_RX1_53 : FP RX1 53 4 8 := ⟨_, _, _, rfl, by decide, inX4, k125, ⟨tyX4, tyX4_ok⟩, nmX4, rfl, by decide +kernel⟩
theorem k106 : Cond.fieldLink RX1 73 (TX4 1).1 (TX4 1).2.1 (TX4 1).2.2.1 ∈ gtbl := gm 106 (by decide +kernel)
theorem fl_RX1_73 : FL RX1 73 4 1 := ⟨_, _, _, rfl, by decide, inX4, k106⟩
theorem k135 : Cond.fieldLink RX1 76 (TX4 10).1 (TX4 10).2.1 (TX4 10).2.2.1 ∈ gtbl := gm 135 (by decide +kernel)
theorem fl_RX1_76 : FL RX1 76 4 10 := ⟨_, _, _, rfl, by decide, inX4, k135⟩
theorem fp_RX1_76 : FP RX1 76 4 10 := ⟨_, _, _, rfl, by decide, inX4, k135, ⟨tyX4, tyX4_ok⟩, nmX4, rfl, by decide +kernel⟩
theorem k172 : Cond.fieldLink RX1 79 (TX7 1).1 (TX7 1).2.1 (TX7 1).2.2.1 ∈ gtbl := gm 172 (by decide +kernel)
theorem fl_RX1_79 : FL RX1 79 7 1 := ⟨_, _, _, rfl, by decide, inX7, k172⟩
theorem k112 : Cond.fieldLink RX1 82 (TX4 2).1 (TX4 2).2.1 (TX4 2).2.2.1 ∈ gtbl := gm 112 (by decide +kernel)
theorem fl_RX1_82 : FL RX1 82 4 2 := ⟨_, _, _, rfl, by decide, inX4, k112⟩
theorem k296 : Cond.fieldLink RX2 9 (TX2 0).1 (TX2 0).2.1 (TX2 0).2.2.1 ∈ gtbl := gm 296 (by decide +kernel)
theorem fl_RX2_9 : FL RX2 9 2 0 := ⟨_, _, _, rfl, by decide, inX2, k296⟩
theorem k298 : Cond.fieldLink RX2 15 (TX2 1).1 (TX2 1).2.1 (TX2 1).2.2.1 ∈ gtbl := gm 298 (by decide +kernel)
theorem fl_RX2_15 : FL RX2 15 2 1 := ⟨_, _, _, rfl, by decide, inX2, k298⟩
theorem k300 : Cond.fieldLink RX2 18 (TX2 2).1 (TX2 2).2.1 (TX2 2).2.2.1 ∈ gtbl := gm 300 (by decide +kernel)
theorem fl_RX2_18 : FL RX2 18 2 2 := ⟨_, _, _, rfl, by decide, inX2, k300⟩
theorem k302 : Cond.fieldLink RX2 21 (TX2 3).1 (TX2 3).2.1 (TX2 3).2.2.1 ∈ gtbl := gm 302 (by decide +kernel)
theorem fl_RX2_21 : FL RX2 21 2 3 := ⟨_, _, _, rfl, by decide, inX2, k302⟩
theorem fp_RX2_21 : FP RX2 21 2 3 := ⟨_, _, _, rfl, by decide, inX2, k302, ⟨tyX2, tyX2_ok⟩, nmX2, rfl, by decide +kernel⟩
theorem k304 : Cond.fieldLink RX2 25 (TX2 4).1 (TX2 4).2.1 (TX2 4).2.2.1 ∈ gtbl := gm 304 (by decide +kernel)
theorem fl_RX2_25 : FL RX2 25 2 4 := ⟨_, _, _, rfl, by decide, inX2, k304⟩
theorem fp_RX2_25 : FP RX2 25 2 4 := ⟨_, _, _, rfl, by decide, inX2, k304, ⟨tyX2, tyX2_ok⟩, nmX2, rfl, by decide +kernel⟩
theorem k250 : Cond.fieldLink RX3 9 (TX3 2).1 (TX3 2).2.1 (TX3 2).2.2.1 ∈ gtbl := gm 250 (by decide +kernel)
theorem fl_RX3_9 : FL RX3 9 3 2 := ⟨_, _, _, rfl, by decide, inX3, k250⟩
theorem k248 : Cond.fieldLink RX3 15 (TX3 0).1 (TX3 0).2.1 (TX3 0).2.2.1 ∈ gtbl := gm 248 (by decide +kernel)
theorem fl_RX3_15 : FL RX3 15 3 0 := ⟨_, _, _, rfl, by decide, inX3, k248⟩
theorem k249 : Cond.fieldLink RX3 19 (TX3 1).1 (TX3 1).2.1 (TX3 1).2.2.1 ∈ gtbl := gm 249 (by decide +kernel)
theorem fl_RX3_19 : FL RX3 19 3 1 := ⟨_, _, _, rfl, by decide, inX3, k249⟩
theorem k251 : Cond.fieldLink RX3 23 (TX3 3).1 (TX3 3).2.1 (TX3 3).2.2.1 ∈ gtbl := gm 251 (by decide +kernel)
theorem fl_RX3_23 : FL RX3 23 3 3 := ⟨_, _, _, rfl, by decide, inX3, k251⟩
theorem fp_RX3_23 : FP RX3 23 3 3 := ⟨_, _, _, rfl, by decide, inX3, k251, ⟨tyX3, tyX3_ok⟩, nmX3, rfl, by decide +kernel⟩
theorem k253 : Cond.fieldLink RX3 27 (TX3 4).1 (TX3 4).2.1 (TX3 4).2.2.1 ∈ gtbl := gm 253 (by decide +kernel)
theorem fl_RX3_27 : FL RX3 27 3 4 := ⟨_, _, _, rfl, by decide, inX3, k253⟩
theorem fp_RX3_27 : FP RX3 27 3 4 := ⟨_, _, _, rfl, by decide, inX3, k253, ⟨tyX3, tyX3_ok⟩, nmX3, rfl, by decide +kernel⟩
theorem k255 : Cond.fieldLink RX3 30 (TX3 5).1 (TX3 5).2.1 (TX3 5).2.2.1 ∈ gtbl := gm 255 (by decide +kernel)
theorem fl_RX3_30 : FL RX3 30 3 5 := ⟨_, _, _, rfl, by decide, inX3, k255⟩
theorem fp_RX3_30 : FP RX3 30 3 5 := ⟨_, _, _, rfl, by decide, inX3, k255, ⟨tyX3, tyX3_ok⟩, nmX3, rfl, by decide +kernel⟩
theorem k103 : Cond.fieldLink RX4 9 (TX4 0).1 (TX4 0).2.1 (TX4 0).2.2.1 ∈ gtbl := gm 103 (by decide +kernel)
theorem fl_RX4_9 : FL RX4 9 4 0 := ⟨_, _, _, rfl, by decide, inX4, k103⟩
theorem k104 : Cond.fieldLink RX4 15 (TX4 1).1 (TX4 1).2.1 (TX4 1).2.2.1 ∈ gtbl := gm 104 (by decide +kernel)
theorem fl_RX4_15 : FL RX4 15 4 1 := ⟨_, _, _, rfl, by decide, inX4, k104⟩
theorem k109 : Cond.fieldLink RX4 18 (TX4 2).1 (TX4 2).2.1 (TX4 2).2.2.1 ∈ gtbl := gm 109 (by decide +kernel)
theorem fl_RX4_18 : FL RX4 18 4 2 := ⟨_, _, _, rfl, by decide, inX4, k109⟩
theorem k114 : Cond.fieldLink RX4 21 (TX4 3).1 (TX4 3).2.1 (TX4 3).2.2.1 ∈ gtbl := gm 114 (by decide +kernel)
theorem fl_RX4_21 : FL RX4 21 4 3 := ⟨_, _, _, rfl, by decide, inX4, k114⟩
theorem k117 : Cond.fieldLink RX4 24 (TX4 4).1 (TX4 4).2.1 (TX4 4).2.2.1 ∈ gtbl := gm 117 (by decide +kernel)
theorem fl_RX4_24 : FL RX4 24 4 4 := ⟨_, _, _, rfl, by decide, inX4, k117⟩
theorem k121 : Cond.fieldLink RX4 27 (TX4 6).1 (TX4 6).2.1 (TX4 6).2.2.1 ∈ gtbl := gm 121 (by decide +kernel)
theorem fl_RX4_27 : FL RX4 27 4 6 := ⟨_, _, _, rfl, by decide, inX4, k121⟩
theorem fp_RX4_27 : FP RX4 27 4 6 := ⟨_, _, _, rfl, by decide, inX4, k121, ⟨tyX4, tyX4_ok⟩, nmX4, rfl, by decide +kernel⟩
theorem k122 : Cond.fieldLink RX4 31 (TX4 7).1 (TX4 7).2.1 (TX4 7).2.2.1 ∈ gtbl := gm 122 (by decide +kernel)
theorem fl_RX4_31 : FL RX4 31 4 7 := ⟨_, _, _, rfl, by decide, inX4, k122⟩
theorem fp_RX4_31 : FP RX4 31 4 7 := ⟨_, _, _, rfl, by decide, inX4, k122, ⟨tyX4, tyX4_ok⟩, nmX4, rfl, by decide +kernel⟩
theorem k133 : Cond.fieldLink RX4 34 (TX4 10).1 (TX4 10).2.1 (TX4 10).2.2.1 ∈ gtbl := gm 133 (by decide +kernel)
theorem fl_RX4_34 : FL RX4 34 4 10 := ⟨_, _, _, rfl, by decide, inX4, k133⟩
theorem fp_RX4_34 : FP RX4 34 4 10 := ⟨_, _, _, rfl, by decide, inX4, k133, ⟨tyX4, tyX4_ok⟩, nmX4, rfl, by decide +kernel⟩
theorem k119 : Cond.fieldLink RX4 37 (TX4 5).1 (TX4 5).2.1 (TX4 5).2.2.1 ∈ gtbl := gm 119 (by decide +kernel)
theorem fl_RX4_37 : FL RX4 37 4 5 := ⟨_, _, _, rfl, by decide, inX4, k119⟩
theorem fp_RX4_37 : FP RX4 37 4 5 := ⟨_, _, _, rfl, by decide, inX4, k119, ⟨tyX4, tyX4_ok⟩, nmX4, rfl, by decide +kernel⟩
theorem k128 : Cond.fieldLink RX4 61 (TX4 8).1 (TX4 8).2.1 (TX4 8).2.2.1 ∈ gtbl := gm 128 (by decide +kernel)
theorem fl_RX4_61 : FL RX4 61 4 8 := ⟨_, _, _, rfl, by decide, inX4, k128⟩
theorem fp_RX4_61 : FP RX4 61 4 8 := ⟨_, _, _, rfl, by decide, inX4, k128, ⟨tyX4, tyX4_ok⟩, nmX4, rfl, by decide +kernel⟩
theorem k132 : Cond.fieldLink RX4 64 (TX4 9).1 (TX4 9).2.1 (TX4 9).2.2.1 ∈ gtbl := gm 132 (by decide +kernel)
theorem fl_RX4_64 : FL RX4 64 4 9 := ⟨_, _, _, rfl, by decide, inX4, k132⟩
theorem fp_RX4_64 : FP RX4 64 4 9 := ⟨_, _, _, rfl, by decide, inX4, k132, ⟨tyX4, tyX4_ok⟩, nmX4, rfl, by decide +kernel⟩
theorem k277 : Cond.fieldLink RX5 9 (TX5 1).1 (TX5 1).2.1 (TX5 1).2.2.1 ∈ gtbl := gm 277 (by decide +kernel)
theorem fl_RX5_9 : FL RX5 9 5 1 := ⟨_, _, _, rfl, by decide, inX5, k277⟩
theorem k279 : Cond.fieldLink RX5 15 (TX5 2).1 (TX5 2).2.1 (TX5 2).2.2.1 ∈ gtbl := gm 279 (by decide +kernel)
theorem fl_RX5_15 : FL RX5 15 5 2 := ⟨_, _, _, rfl, by decide, inX5, k279⟩
theorem k280 : Cond.fieldLink RX5 18 (TX5 3).1 (TX5 3).2.1 (TX5 3).2.2.1 ∈ gtbl := gm 280 (by decide +kernel)
theorem fl_RX5_18 : FL RX5 18 5 3 := ⟨_, _, _, rfl, by decide, inX5, k280⟩
theorem k276 : Cond.fieldLink RX5 21 (TX5 0).1 (TX5 0).2.1 (TX5 0).2.2.1 ∈ gtbl := gm 276 (by decide +kernel)
theorem fl_RX5_21 : FL RX5 21 5 0 := ⟨_, _, _, rfl, by decide, inX5, k276⟩
theorem k124 : Cond.fieldLink RX5 34 (TX4 8).1 (TX4 8).2.1 (TX4 8).2.2.1 ∈ gtbl := gm 124 (by decide +kernel)
theorem fl_RX5_34 : FL RX5 34 4 8 := ⟨_, _, _, rfl, by decide, inX4, k124⟩
theorem fp_RX5_34 : FP RX5 34 4 8 := ⟨_, _, _, rfl, by decide, inX4, k124, ⟨tyX4, tyX4_ok⟩, nmX4, rfl, by decide +kernel⟩
theorem k105 : Cond.fieldLink RX5 44 (TX4 1).1 (TX4 1).2.1 (TX4 1).2.2.1 ∈ gtbl := gm 105 (by decide +kernel)
theorem fl_RX5_44 : FL RX5 44 4 1 := ⟨_, _, _, rfl, by decide, inX4, k105⟩
theorem k110 : Cond.fieldLink RX5 47 (TX4 2).1 (TX4 2).2.1 (TX4 2).2.2.1 ∈ gtbl := gm 110 (by decide +kernel)
theorem fl_RX5_47 : FL RX5 47 4 2 := ⟨_, _, _, rfl, by decide, inX4, k110⟩
theorem k326 : Cond.fieldLink RX6 9 (TX6 0).1 (TX6 0).2.1 (TX6 0).2.2.1 ∈ gtbl := gm 326 (by decide +kernel)
theorem fl_RX6_9 : FL RX6 9 6 0 := ⟨_, _, _, rfl, by decide, inX6, k326⟩
theorem k327 : Cond.fieldLink RX6 15 (TX6 1).1 (TX6 1).2.1 (TX6 1).2.2.1 ∈ gtbl := gm 327 (by decide +kernel)
theorem fl_RX6_15 : FL RX6 15 6 1 := ⟨_, _, _, rfl, by decide, inX6, k327⟩
theorem k329 : Cond.fieldLink RX6 18 (TX6 2).1 (TX6 2).2.1 (TX6 2).2.2.1 ∈ gtbl := gm 329 (by decide +kernel)
theorem fl_RX6_18 : FL RX6 18 6 2 := ⟨_, _, _, rfl, by decide, inX6, k329⟩
theorem k331 : Cond.fieldLink RX6 27 (TX6 3).1 (TX6 3).2.1 (TX6 3).2.2.1 ∈ gtbl := gm 331 (by decide +kernel)
theorem fl_RX6_27 : FL RX6 27 6 3 := ⟨_, _, _, rfl, by decide, inX6, k331⟩
theorem fp_RX6_27 : FP RX6 27 6 3 := ⟨_, _, _, rfl, by decide, inX6, k331, ⟨tyX6, tyX6_ok⟩, nmX6, rfl, by decide +kernel⟩
theorem k171 : Cond.fieldLink RX7 9 (TX7 1).1 (TX7 1).2.1 (TX7 1).2.2.1 ∈ gtbl := gm 171 (by decide +kernel)
theorem fl_RX7_9 : FL RX7 9 7 1 := ⟨_, _, _, rfl, by decide, inX7, k171⟩
theorem k174 : Cond.fieldLink RX7 15 (TX7 2).1 (TX7 2).2.1 (TX7 2).2.2.1 ∈ gtbl := gm 174 (by decide +kernel)
theorem fl_RX7_15 : FL RX7 15 7 2 := ⟨_, _, _, rfl, by decide, inX7, k174⟩
theorem k175 : Cond.fieldLink RX7 18 (TX7 3).1 (TX7 3).2.1 (TX7 3).2.2.1 ∈ gtbl := gm 175 (by decide +kernel)
theorem fl_RX7_18 : FL RX7 18 7 3 := ⟨_, _, _, rfl, by decide, inX7, k175⟩
theorem k168 : Cond.fieldLink RX7 21 (TX7 0).1 (TX7 0).2.1 (TX7 0).2.2.1 ∈ gtbl := gm 168 (by decide +kernel)
theorem fl_RX7_21 : FL RX7 21 7 0 := ⟨_, _, _, rfl, by decide, inX7, k168⟩
theorem k130 : Cond.fieldLink RX7 25 (TX4 9).1 (TX4 9).2.1 (TX4 9).2.2.1 ∈ gtbl := gm 130 (by decide +kernel)
theorem fl_RX7_25 : FL RX7 25 4 9 := ⟨_, _, _, rfl, by decide, inX4, k130⟩
theorem fp_RX7_25 : FP RX7 25 4 9 := ⟨_, _, _, rfl, by decide, inX4, k130, ⟨tyX4, tyX4_ok⟩, nmX4, rfl, by decide +kernel⟩
theorem k134 : Cond.fieldLink RX7 31 (TX4 10).1 (TX4 10).2.1 (TX4 10).2.2.1 ∈ gtbl := gm 134 (by decide +kernel)
theorem fl_RX7_31 : FL RX7 31 4 10 := ⟨_, _, _, rfl, by decide, inX4, k134⟩
theorem fp_RX7_31 : FP RX7 31 4 10 := ⟨_, _, _, rfl, by decide, inX4, k134, ⟨tyX4, tyX4_ok⟩, nmX4, rfl, by decide +kernel⟩
theorem k177 : Cond.fieldLink RX7 38 (TX7 4).1 (TX7 4).2.1 (TX7 4).2.2.1 ∈ gtbl := gm 177 (by decide +kernel)
theorem fl_RX7_38 : FL RX7 38 7 4 := ⟨_, _, _, rfl, by decide, inX7, k177⟩
theorem fp_RX7_38 : FP RX7 38 7 4 := ⟨_, _, _, rfl, by decide, inX7, k177, ⟨tyX7, tyX7_ok⟩, nmX7, rfl, by decide +kernel⟩
theorem k127 : Cond.fieldLink RX7 55 (TX4 8).1 (TX4 8).2.1 (TX4 8).2.2.1 ∈ gtbl := gm 127 (by decide +kernel)
theorem fl_RX7_55 : FL RX7 55 4 8 := ⟨_, _, _, rfl, by decide, inX4, k127⟩
theorem fp_RX7_55 : FP RX7 55 4 8 := ⟨_, _, _, rfl, by decide, inX4, k127, ⟨tyX4, tyX4_ok⟩, nmX4, rfl, by decide +kernel⟩
theorem k107 : Cond.fieldLink RX7 65 (TX4 1).1 (TX4 1).2.1 (TX4 1).2.2.1 ∈ gtbl := gm 107 (by decide +kernel)
theorem fl_RX7_65 : FL RX7 65 4 1 := ⟨_, _, _, rfl, by decide, inX4, k107⟩
theorem k111 : Cond.fieldLink RX7 68 (TX4 2).1 (TX4 2).2.1 (TX4 2).2.2.1 ∈ gtbl := gm 111 (by decide +kernel)
theorem fl_RX7_68 : FL RX7 68 4 2 := ⟨_, _, _, rfl, by decide, inX4, k111⟩
theorem k115 : Cond.fieldLink RX7 71 (TX4 3).1 (TX4 3).2.1 (TX4 3).2.2.1 ∈ gtbl := gm 115 (by decide +kernel)
theorem fl_RX7_71 : FL RX7 71 4 3 := ⟨_, _, _, rfl, by decide, inX4, k115⟩
theorem k954 : Cond.fieldLink RX9 7 (TX9 0).1 (TX9 0).2.1 (TX9 0).2.2.1 ∈ gtbl := gm 954 (by decide +kernel)
theorem fl_RX9_7 : FL RX9 7 9 0 := ⟨_, _, _, rfl, by decide, inX9, k954⟩
theorem k955 : Cond.fieldLink RX9 13 (TX9 1).1 (TX9 1).2.1 (TX9 1).2.2.1 ∈ gtbl := gm 955 (by decide +kernel)
theorem fl_RX9_13 : FL RX9 13 9 1 := ⟨_, _, _, rfl, by decide, inX9, k955⟩
theorem k956 : Cond.fieldLink RX9 16 (TX9 2).1 (TX9 2).2.1 (TX9 2).2.2.1 ∈ gtbl := gm 956 (by decide +kernel)
theorem fl_RX9_16 : FL RX9 16 9 2 := ⟨_, _, _, rfl, by decide, inX9, k956⟩
theorem k957 : Cond.fieldLink RX9 19 (TX9 3).1 (TX9 3).2.1 (TX9 3).2.2.1 ∈ gtbl := gm 957 (by decide +kernel)
theorem fl_RX9_19 : FL RX9 19 9 3 := ⟨_, _, _, rfl, by decide, inX9, k957⟩
theorem k959 : Cond.fieldLink RX9 22 (TX9 5).1 (TX9 5).2.1 (TX9 5).2.2.1 ∈ gtbl := gm 959 (by decide +kernel)
theorem fl_RX9_22 : FL RX9 22 9 5 := ⟨_, _, _, rfl, by decide, inX9, k959⟩
theorem k963 : Cond.fieldLink RX9 25 (TX9 9).1 (TX9 9).2.1 (TX9 9).2.2.1 ∈ gtbl := gm 963 (by decide +kernel)
theorem fl_RX9_25 : FL RX9 25 9 9 := ⟨_, _, _, rfl, by decide, inX9, k963⟩
theorem k964 : Cond.fieldLink RX9 28 (TX9 10).1 (TX9 10).2.1 (TX9 10).2.2.1 ∈ gtbl := gm 964 (by decide +kernel)
theorem fl_RX9_28 : FL RX9 28 9 10 := ⟨_, _, _, rfl, by decide, inX9, k964⟩
theorem k966 : Cond.fieldLink RX9 31 (TX9 12).1 (TX9 12).2.1 (TX9 12).2.2.1 ∈ gtbl := gm 966 (by decide +kernel)
theorem fl_RX9_31 : FL RX9 31 9 12 := ⟨_, _, _, rfl, by decide, inX9, k966⟩
theorem k967 : Cond.fieldLink RX9 34 (TX9 13).1 (TX9 13).2.1 (TX9 13).2.2.1 ∈ gtbl := gm 967 (by decide +kernel)
theorem fl_RX9_34 : FL RX9 34 9 13 := ⟨_, _, _, rfl, by decide, inX9, k967⟩
theorem k968 : Cond.fieldLink RX9 37 (TX9 14).1 (TX9 14).2.1 (TX9 14).2.2.1 ∈ gtbl := gm 968 (by decide +kernel)
theorem fl_RX9_37 : FL RX9 37 9 14 := ⟨_, _, _, rfl, by decide, inX9, k968⟩
theorem k972 : Cond.fieldLink RX9 40 (TX9 18).1 (TX9 18).2.1 (TX9 18).2.2.1 ∈ gtbl := gm 972 (by decide +kernel)
theorem fl_RX9_40 : FL RX9 40 9 18 := ⟨_, _, _, rfl, by decide, inX9, k972⟩
theorem k973 : Cond.fieldLink RX9 43 (TX9 19).1 (TX9 19).2.1 (TX9 19).2.2.1 ∈ gtbl := gm 973 (by decide +kernel)
theorem fl_RX9_43 : FL RX9 43 9 19 := ⟨_, _, _, rfl, by decide, inX9, k973⟩
theorem k974 : Cond.fieldLink RX9 46 (TX9 20).1 (TX9 20).2.1 (TX9 20).2.2.1 ∈ gtbl := gm 974 (by decide +kernel)
theorem fl_RX9_46 : FL RX9 46 9 20 := ⟨_, _, _, rfl, by decide, inX9, k974⟩
theorem k975 : Cond.fieldLink RX9 49 (TX9 21).1 (TX9 21).2.1 (TX9 21).2.2.1 ∈ gtbl := gm 975 (by decide +kernel)
theorem fl_RX9_49 : FL RX9 49 9 21 := ⟨_, _, _, rfl, by decide, inX9, k975⟩
theorem k976 : Cond.fieldLink RX9 52 (TX9 22).1 (TX9 22).2.1 (TX9 22).2.2.1 ∈ gtbl := gm 976 (by decide +kernel)
theorem fl_RX9_52 : FL RX9 52 9 22 := ⟨_, _, _, rfl, by decide, inX9, k976⟩
theorem k977 : Cond.fieldLink RX9 55 (TX9 23).1 (TX9 23).2.1 (TX9 23).2.2.1 ∈ gtbl := gm 977 (by decide +kernel)
theorem fl_RX9_55 : FL RX9 55 9 23 := ⟨_, _, _, rfl, by decide, inX9, k977⟩
theorem k978 : Cond.fieldLink RX9 58 (TX9 24).1 (TX9 24).2.1 (TX9 24).2.2.1 ∈ gtbl := gm 978 (by decide +kernel)
theorem fl_RX9_58 : FL RX9 58 9 24 := ⟨_, _, _, rfl, by decide, inX9, k978⟩
theorem k979 : Cond.fieldLink RX9 61 (TX9 25).1 (TX9 25).2.1 (TX9 25).2.2.1 ∈ gtbl := gm 979 (by decide +kernel)
theorem fl_RX9_61 : FL RX9 61 9 25 := ⟨_, _, _, rfl, by decide, inX9, k979⟩
theorem k981 : Cond.fieldLink RX9 64 (TX9 27).1 (TX9 27).2.1 (TX9 27).2.2.1 ∈ gtbl := gm 981 (by decide +kernel)
theorem fl_RX9_64 : FL RX9 64 9 27 := ⟨_, _, _, rfl, by decide, inX9, k981⟩
theorem k983 : Cond.fieldLink RX9 67 (TX9 29).1 (TX9 29).2.1 (TX9 29).2.2.1 ∈ gtbl := gm 983 (by decide +kernel)
theorem fl_RX9_67 : FL RX9 67 9 29 := ⟨_, _, _, rfl, by decide, inX9, k983⟩
theorem k958 : Cond.fieldLink RX9 74 (TX9 4).1 (TX9 4).2.1 (TX9 4).2.2.1 ∈ gtbl := gm 958 (by decide +kernel)
theorem fl_RX9_74 : FL RX9 74 9 4 := ⟨_, _, _, rfl, by decide, inX9, k958⟩
theorem fp_RX9_74 : FP RX9 74 9 4 := ⟨_, _, _, rfl, by decide, inX9, k958, ⟨tyX9, tyX9_ok⟩, nmX9, rfl, by decide +kernel⟩
theorem k960 : Cond.fieldLink RX9 101 (TX9 6).1 (TX9 6).2.1 (TX9 6).2.2.1 ∈ gtbl := gm 960 (by decide +kernel)
theorem fl_RX9_101 : FL RX9 101 9 6 := ⟨_, _, _, rfl, by decide, inX9, k960⟩
theorem fp_RX9_101 : FP RX9 101 9 6 := ⟨_, _, _, rfl, by decide, inX9, k960, ⟨tyX9, tyX9_ok⟩, nmX9, rfl, by decide +kernel⟩
theorem k962 : Cond.fieldLink RX9 104 (TX9 8).1 (TX9 8).2.1 (TX9 8).2.2.1 ∈ gtbl := gm 962 (by decide +kernel)
theorem fl_RX9_104 : FL RX9 104 9 8 := ⟨_, _, _, rfl, by decide, inX9, k962⟩
theorem fp_RX9_104 : FP RX9 104 9 8 := ⟨_, _, _, rfl, by decide, inX9, k962, ⟨tyX9, tyX9_ok⟩, nmX9, rfl, by decide +kernel⟩
theorem k961 : Cond.fieldLink RX9 107 (TX9 7).1 (TX9 7).2.1 (TX9 7).2.2.1 ∈ gtbl := gm 961 (by decide +kernel)
theorem fl_RX9_107 : FL RX9 107 9 7 := ⟨_, _, _, rfl, by decide, inX9, k961⟩
theorem fp_RX9_107 : FP RX9 107 9 7 := ⟨_, _, _, rfl, by decide, inX9, k961, ⟨tyX9, tyX9_ok⟩, nmX9, rfl, by decide +kernel⟩
theorem k965 : Cond.fieldLink RX9 133 (TX9 11).1 (TX9 11).2.1 (TX9 11).2.2.1 ∈ gtbl := gm 965 (by decide +kernel)
theorem fl_RX9_133 : FL RX9 133 9 11 := ⟨_, _, _, rfl, by decide, inX9, k965⟩
theorem fp_RX9_133 : FP RX9 133 9 11 := ⟨_, _, _, rfl, by decide, inX9, k965, ⟨tyX9, tyX9_ok⟩, nmX9, rfl, by decide +kernel⟩
theorem k969 : Cond.fieldLink RX9 165 (TX9 15).1 (TX9 15).2.1 (TX9 15).2.2.1 ∈ gtbl := gm 969 (by decide +kernel)
theorem fl_RX9_165 : FL RX9 165 9 15 := ⟨_, _, _, rfl, by decide, inX9, k969⟩
theorem fp_RX9_165 : FP RX9 165 9 15 := ⟨_, _, _, rfl, by decide, inX9, k969, ⟨tyX9, tyX9_ok⟩, nmX9, rfl, by decide +kernel⟩
theorem k970 : Cond.fieldLink RX9 168 (TX9 16).1 (TX9 16).2.1 (TX9 16).2.2.1 ∈ gtbl := gm 970 (by decide +kernel)
theorem fl_RX9_168 : FL RX9 168 9 16 := ⟨_, _, _, rfl, by decide, inX9, k970⟩
theorem fp_RX9_168 : FP RX9 168 9 16 := ⟨_, _, _, rfl, by decide, inX9, k970, ⟨tyX9, tyX9_ok⟩, nmX9, rfl, by decide +kernel⟩
theorem k971 : Cond.fieldLink RX9 171 (TX9 17).1 (TX9 17).2.1 (TX9 17).2.2.1 ∈ gtbl := gm 971 (by decide +kernel)
theorem fl_RX9_171 : FL RX9 171 9 17 := ⟨_, _, _, rfl, by decide, inX9, k971⟩
theorem fp_RX9_171 : FP RX9 171 9 17 := ⟨_, _, _, rfl, by decide, inX9, k971, ⟨tyX9, tyX9_ok⟩, nmX9, rfl, by decide +kernel⟩
theorem k980 : Cond.fieldLink RX9 281 (TX9 26).1 (TX9 26).2.1 (TX9 26).2.2.1 ∈ gtbl := gm 980 (by decide +kernel)
theorem fl_RX9_281 : FL RX9 281 9 26 := ⟨_, _, _, rfl, by decide, inX9, k980⟩
theorem fp_RX9_281 : FP RX9 281 9 26 := ⟨_, _, _, rfl, by decide, inX9, k980, ⟨tyX9, tyX9_ok⟩, nmX9, rfl, by decide +kernel⟩
theorem k982 : Cond.fieldLink RX9 287 (TX9 28).1 (TX9 28).2.1 (TX9 28).2.2.1 ∈ gtbl := gm 982 (by decide +kernel)
theorem fl_RX9_287 : FL RX9 287 9 28 := ⟨_, _, _, rfl, by decide, inX9, k982⟩
theorem fp_RX9_287 : FP RX9 287 9 28 := ⟨_, _, _, rfl, by decide, inX9, k982, ⟨tyX9, tyX9_ok⟩, nmX9, rfl, by decide +kernel⟩
theorem k498 : Cond.constant RX8 126 (65535) ∈ gtbl := gm 498 (by decide +kernel)
theorem k870 : Cond.constant RX8 306 (-2147483648) ∈ gtbl := gm 870 (by decide +kernel)
theorem k913 : Cond.constantLong RX8 334 (17) ∈ gtbl := gm 913 (by decide +kernel)
theorem k918 : Cond.constantLong RX8 404 (31) ∈ gtbl := gm 918 (by decide +kernel)
theorem k778 : Cond.constant RX5 57 (1103515245) ∈ gtbl := gm 778 (by decide +kernel)
theorem k1052 : Cond.constantLong RX9 78 (3) ∈ gtbl := gm 1052 (by decide +kernel)
theorem k1056 : Cond.constantLong RX9 84 (2) ∈ gtbl := gm 1056 (by decide +kernel)
theorem k1080 : Cond.constant RX9 98 (-2147483648) ∈ gtbl := gm 1080 (by decide +kernel)
theorem k1089 : Cond.constantLong RX9 99 (255) ∈ gtbl := gm 1089 (by decide +kernel)
theorem k1106 : Cond.constantLong RX9 110 (7) ∈ gtbl := gm 1106 (by decide +kernel)
theorem k1107 : Cond.constantLong RX9 112 (9) ∈ gtbl := gm 1107 (by decide +kernel)
theorem k1116 : Cond.constantLong RX9 122 (65535) ∈ gtbl := gm 1116 (by decide +kernel)
theorem k1117 : Cond.constantLong RX9 124 (4) ∈ gtbl := gm 1117 (by decide +kernel)
theorem k1118 : Cond.constantLong RX9 126 (999) ∈ gtbl := gm 1118 (by decide +kernel)
theorem k1140 : Cond.constantLong RX9 128 (15) ∈ gtbl := gm 1140 (by decide +kernel)
theorem k1315 : Cond.constantLong RX9 264 (6) ∈ gtbl := gm 1315 (by decide +kernel)
theorem k1316 : Cond.constantLong RX9 266 (-1) ∈ gtbl := gm 1316 (by decide +kernel)
theorem k1358 : Cond.constant RX9 275 (1103515245) ∈ gtbl := gm 1358 (by decide +kernel)
theorem k1353 : Cond.constantLong RX9 276 (20) ∈ gtbl := gm 1353 (by decide +kernel)
theorem k1410 : Cond.constantLong RX9 299 (17) ∈ gtbl := gm 1410 (by decide +kernel)
theorem k1411 : Cond.constantLong RX9 301 (31) ∈ gtbl := gm 1411 (by decide +kernel)
theorem k902 : Cond.constant RJ6 265 (1431655765) ∈ gtbl := gm 902 (by decide +kernel)
theorem k903 : Cond.constant RJ6 266 (858993459) ∈ gtbl := gm 903 (by decide +kernel)
theorem k904 : Cond.constant RJ6 267 (252645135) ∈ gtbl := gm 904 (by decide +kernel)
end
section
theorem dx {cc : ByteArray} {T : List (Nat × Instr × Nat)} (h : ∀ q ∈ T, decode cc q.1 = .ok q.2) (i : Nat) {pc : Nat} {ins : Instr} {len : Nat} (hi : T[i]? = some (pc, ins, len)) : decode cc pc = .ok (ins, len) := h (pc, ins, len) (List.mem_of_getElem? hi)
abbrev Mb_add : MI := (yX0_add, cX0_add, 3, (some .int), 5, 117)
abbrev Mb_dropStep : MI := (yX0_dropStep, cX0_dropStep, 1, none, 0, 0)
abbrev Mb_playFrom : MI := (yX0_playFrom, cX0_playFrom, 3, none, 4, 95)
abbrev Mb_lyingNow : MI := (yX0_lyingNow, cX0_lyingNow, 1, (some .int), 0, 0)
abbrev Mb_afterLetIn : MI := (yX0_afterLetIn, cX0_afterLetIn, 3, (some .int), 3, 73)
abbrev Mb_afterPull : MI := (yX0_afterPull, cX0_afterPull, 4, (some .int), 1, 21)
abbrev Mb_isDone : MI := (yX0_isDone, cX0_isDone, 2, (some .boolean), 0, 0)
abbrev Mb_firstNotDone : MI := (yX0_firstNotDone, cX0_firstNotDone, 2, (some .int), 1, 21)
abbrev Mb_howManyDone : MI := (yX0_howManyDone, cX0_howManyDone, 3, (some .int), 1, 21)
abbrev Mb_pipesOf : MI := (yX0_pipesOf, cX0_pipesOf, 3, (some .int), 0, 0)
abbrev Mb_endsOf : MI := (yX0_endsOf, cX0_endsOf, 2, (some .int), 1, 20)
abbrev Mb_wiresIn : MI := (yX0_wiresIn, cX0_wiresIn, 5, (some .int), 1, 22)
abbrev Mb_fullPipes : MI := (yX0_fullPipes, cX0_fullPipes, 4, (some .int), 2, 46)
abbrev Mb_loadNow : MI := (yX0_loadNow, cX0_loadNow, 1, none, 2, 47)
abbrev Mb_fillLoad : MI := (yX0_fillLoad, cX0_fillLoad, 5, none, 1, 23)
abbrev Mb_drawnOutWith : MI := (yX0_drawnOutWith, cX0_drawnOutWith, 7, (some .int), 1, 22)
abbrev Mb_joinedTo : MI := (yX0_joinedTo, cX0_joinedTo, 7, (some .int), 2, 41)
abbrev Mf_greatest : MI := (yX1_greatest, cX1_greatest, 4, (some .int), 3, 72)
abbrev Mf_seekRoom : MI := (yX1_seekRoom, cX1_seekRoom, 9, (some .boolean), 2, 44)
abbrev Mf_hasRoom : MI := (yX1_hasRoom, cX1_hasRoom, 4, (some .boolean), 1, 21)
abbrev Mf_push : MI := (yX1_push, cX1_push, 6, none, 1, 22)
abbrev Mj_addMark : MI := (yX2_addMark, cX2_addMark, 3, (some .int), 0, 0)
abbrev Mj_addScene : MI := (yX2_addScene, cX2_addScene, 2, (some .int), 0, 0)
abbrev Mj_dropMarks : MI := (yX2_dropMarks, cX2_dropMarks, 2, (some .int), 0, 0)
abbrev Mj_dropScenes : MI := (yX2_dropScenes, cX2_dropScenes, 2, (some .int), 0, 0)
abbrev Ml_seek : MI := (yX3_seek, cX3_seek, 4, none, 5, 120)
abbrev Ml_seekTwo : MI := (yX3_seekTwo, cX3_seekTwo, 6, none, 4, 95)
abbrev Ml_lastLetIn : MI := (yX3_lastLetIn, cX3_lastLetIn, 6, (some .int), 3, 70)
abbrev Ml_burningWith : MI := (yX3_burningWith, cX3_burningWith, 4, (some .int), 2, 47)
abbrev Ml_spread : MI := (yX3_spread, cX3_spread, 6, (some .int), 1, 22)
abbrev Ml_holdsAll : MI := (yX3_holdsAll, cX3_holdsAll, 2, (some .boolean), 0, 0)
abbrev Mp_append : MI := (yX4_append, cX4_append, 2, none, 2, 44)
abbrev Mp_clear : MI := (yX4_clear, cX4_clear, 1, none, 1, 21)
abbrev Mp_dropPipe : MI := (yX4_dropPipe, cX4_dropPipe, 1, none, 1, 21)
abbrev Mp_fits : MI := (yX4_fits, cX4_fits, 3, (some .boolean), 1, 22)
abbrev Mp_takeUp : MI := (yX4_takeUp, cX4_takeUp, 3, none, 1, 22)
abbrev Mp_settle : MI := (yX4_settle, cX4_settle, 2, none, 0, 0)
abbrev Mp_hasPipe : MI := (yX4_hasPipe, cX4_hasPipe, 2, (some .boolean), 1, 22)
abbrev Mp_isShut : MI := (yX4_isShut, cX4_isShut, 2, (some .boolean), 0, 0)
abbrev Mp_touches : MI := (yX4_touches, cX4_touches, 3, (some .boolean), 0, 0)
abbrev Mp_opposite : MI := (yX4_opposite, cX4_opposite, 3, (some .int), 0, 0)
abbrev Mp_wholeLength : MI := (yX4_wholeLength, cX4_wholeLength, 3, (some .int), 0, 0)
abbrev Mp_dampIn : MI := (yX4_dampIn, cX4_dampIn, 4, (some .int), 1, 21)
abbrev Mr_follow : MI := (yX5_follow, cX5_follow, 4, none, 2, 46)
abbrev Mr_ring : MI := (yX5_ring, cX5_ring, 4, none, 1, 23)
abbrev Mr_possibleEnds : MI := (yX5_possibleEnds, cX5_possibleEnds, 3, (some .int), 1, 20)
abbrev Mr_stroll : MI := (yX5_stroll, cX5_stroll, 8, (some .int), 3, 68)
abbrev Mr_choicesAt : MI := (yX5_choicesAt, cX5_choicesAt, 4, (some .int), 2, 44)
abbrev Mr_behindChoice : MI := (yX5_behindChoice, cX5_behindChoice, 5, (some .int), 2, 44)
abbrev Mr_isChoice : MI := (yX5_isChoice, cX5_isChoice, 3, (some .boolean), 1, 22)
abbrev Ms_found : MI := (yX6_found, cX6_found, 2, (some .int), 0, 0)
abbrev Ms_hasSheet : MI := (yX6_hasSheet, cX6_hasSheet, 2, (some .boolean), 1, 22)
abbrev Ms_isForm : MI := (yX6_isForm, cX6_isForm, 2, (some .boolean), 1, 22)
abbrev Ms_isLost : MI := (yX6_isLost, cX6_isLost, 2, (some .boolean), 0, 0)
abbrev Ms_renew : MI := (yX6_renew, cX6_renew, 5, none, 0, 0)
abbrev Ms_drop : MI := (yX6_drop, cX6_drop, 2, none, 0, 0)
abbrev Ms_findingAt : MI := (yX6_findingAt, cX6_findingAt, 4, (some .int), 1, 22)
abbrev Ms_item : MI := (yX6_item, cX6_item, 3, (some .int), 0, 0)
abbrev Ms_store : MI := (yX6_store, cX6_store, 4, none, 1, 21)
abbrev Ms_narrowed : MI := (yX6_narrowed, cX6_narrowed, 2, (some .int), 0, 0)
abbrev Ms_hasSpan : MI := (yX6_hasSpan, cX6_hasSpan, 4, (some .boolean), 0, 0)
abbrev Ms_move : MI := (yX6_move, cX6_move, 6, none, 1, 60)
abbrev Mw_isOpen : MI := (yX7_isOpen, cX7_isOpen, 2, (some .boolean), 0, 0)
abbrev Mw_find : MI := (yX7_find, cX7_find, 6, (some .boolean), 2, 48)
abbrev Mw_measure : MI := (yX7_measure, cX7_measure, 5, none, 1, 24)
abbrev Mw_shorten : MI := (yX7_shorten, cX7_shorten, 5, (some .boolean), 0, 0)
abbrev Mw_leastOnward : MI := (yX7_leastOnward, cX7_leastOnward, 3, (some .int), 1, 22)
abbrev Mw_rowLength : MI := (yX7_rowLength, cX7_rowLength, 3, (some .int), 0, 0)
abbrev Mw_rowBits : MI := (yX7_rowBits, cX7_rowBits, 3, (some .int), 1, 20)
abbrev Mw_drawAlongRow : MI := (yX7_drawAlongRow, cX7_drawAlongRow, 3, none, 0, 0)
abbrev Mw_drawAll : MI := (yX7_drawAll, cX7_drawAll, 6, (some .int), 3, 73)
abbrev Mw_roomInRow : MI := (yX7_roomInRow, cX7_roomInRow, 3, (some .int), 1, 21)
abbrev Mw_reachedFrom : MI := (yX7_reachedFrom, cX7_reachedFrom, 7, (some .int), 1, 21)
abbrev Mx_type : MI := (yX8_type, cX8_type, 2, (some .int), 5, 117)
abbrev Mx_wipe : MI := (yX8_wipe, cX8_wipe, 2, (some .int), 5, 117)
abbrev Mx_undo : MI := (yX8_undo, cX8_undo, 1, (some .int), 5, 117)
abbrev Mx_fault : MI := (yX8_fault, cX8_fault, 1, (some .int), 0, 0)
abbrev Mx_pipe : MI := (yX8_pipe, cX8_pipe, 3, (some .int), 2, 46)
abbrev Mx_set : MI := (yX8_set, cX8_set, 3, (some .int), 6, 139)
abbrev Mx_setShut : MI := (yX8_setShut, cX8_setShut, 3, (some .int), 5, 117)
abbrev Mx_setTakes : MI := (yX8_setTakes, cX8_setTakes, 3, (some .int), 5, 117)
abbrev Mx_setHard : MI := (yX8_setHard, cX8_setHard, 3, (some .int), 0, 0)
abbrev Mx_letIn : MI := (yX8_letIn, cX8_letIn, 3, (some .int), 6, 139)
abbrev Mx_pull : MI := (yX8_pull, cX8_pull, 2, (some .int), 6, 139)
abbrev Mx_back : MI := (yX8_back, cX8_back, 1, (some .int), 1, 20)
abbrev Mx_read : MI := (yX8_read, cX8_read, 6, (some .int), 6, 139)
abbrev Mx_judged : MI := (yX8_judged, cX8_judged, 1, (some .int), 2, 42)
abbrev Mx_state : MI := (yX8_state, cX8_state, 3, (some .int), 3, 69)
abbrev Mx_wire : MI := (yX8_wire, cX8_wire, 3, (some .int), 2, 43)
abbrev Mx_out : MI := (yX8_out, cX8_out, 2, (some .int), 2, 48)
abbrev Mx_shortest : MI := (yX8_shortest, cX8_shortest, 4, (some .int), 4, 95)
abbrev Mx_most : MI := (yX8_most, cX8_most, 4, (some .int), 4, 98)
abbrev Mx_fails : MI := (yX8_fails, cX8_fails, 2, (some .int), 3, 67)
abbrev Mx_soonest : MI := (yX8_soonest, cX8_soonest, 6, (some .int), 3, 67)
abbrev Mx_left : MI := (yX8_left, cX8_left, 6, (some .int), 3, 67)
abbrev Mx_burns : MI := (yX8_burns, cX8_burns, 2, (some .int), 3, 67)
abbrev Mx_lit : MI := (yX8_lit, cX8_lit, 3, (some .int), 6, 143)
abbrev Mx_heard : MI := (yX8_heard, cX8_heard, 4, (some .int), 3, 69)
abbrev Mx_meet : MI := (yX8_meet, cX8_meet, 6, (some .int), 2, 43)
abbrev Mx_drowsy : MI := (yX8_drowsy, cX8_drowsy, 4, (some .int), 4, 95)
abbrev Mx_chalk : MI := (yX8_chalk, cX8_chalk, 4, (some .int), 3, 63)
abbrev Mx_lies : MI := (yX8_lies, cX8_lies, 5, (some .int), 2, 41)
abbrev Mx_scene : MI := (yX8_scene, cX8_scene, 2, (some .int), 1, 22)
abbrev Mx_scenes : MI := (yX8_scenes, cX8_scenes, 5, (some .int), 4, 88)
abbrev Mx_cue : MI := (yX8_cue, cX8_cue, 3, (some .int), 4, 88)
abbrev Mx_forget : MI := (yX8_forget, cX8_forget, 2, (some .int), 1, 21)
abbrev Mx_sheet : MI := (yX8_sheet, cX8_sheet, 4, (some .int), 2, 43)
abbrev Mx_lose : MI := (yX8_lose, cX8_lose, 3, (some .int), 2, 43)
abbrev Mx_lay : MI := (yX8_lay, cX8_lay, 6, (some .int), 2, 45)
abbrev Mx_get : MI := (yX8_get, cX8_get, 5, (some .int), 2, 45)
abbrev Mx_copy : MI := (yX8_copy, cX8_copy, 6, (some .int), 2, 85)
abbrev Mx_write : MI := (yX8_write, cX8_write, 6, (some .int), 4, 95)
abbrev Mx_count : MI := (yX8_count, cX8_count, 2, (some .int), 2, 43)
abbrev Mx_digest : MI := (yX8_digest, cX8_digest, 4, (some .long), 6, 146)
abbrev Mx_mixPipes : MI := (yX8_mixPipes, cX8_mixPipes, 7, (some .long), 3, 68)
abbrev Mx_mixWires : MI := (yX8_mixWires, cX8_mixWires, 6, (some .long), 4, 88)
abbrev Mx_mixEnds : MI := (yX8_mixEnds, cX8_mixEnds, 6, (some .long), 5, 121)
abbrev Mx_mix : MI := (yX8_mix, cX8_mix, 3, (some .long), 0, 0)
abbrev Mx_within : MI := (yX8_within, cX8_within, 3, (some .boolean), 0, 0)
abbrev Mx_isEnd : MI := (yX8_isEnd, cX8_isEnd, 1, (some .boolean), 1, 22)
abbrev Mx_areTwoEnds : MI := (yX8_areTwoEnds, cX8_areTwoEnds, 2, (some .boolean), 2, 42)
abbrev Mx_isWire : MI := (yX8_isWire, cX8_isWire, 1, (some .boolean), 1, 22)
abbrev Mx_isBehind : MI := (yX8_isBehind, cX8_isBehind, 2, (some .boolean), 1, 22)
abbrev Mx_bit : MI := (yX8_bit, cX8_bit, 1, (some .int), 0, 0)
abbrev Mx_hasBit : MI := (yX8_hasBit, cX8_hasBit, 2, (some .boolean), 0, 0)
abbrev Mx_findWay : MI := (yX8_findWay, cX8_findWay, 3, (some .boolean), 3, 73)
abbrev Mx_burningBehind : MI := (yX8_burningBehind, cX8_burningBehind, 2, (some .int), 3, 67)
abbrev Mx_failingDay : MI := (yX8_failingDay, cX8_failingDay, 4, (some .int), 2, 44)
abbrev Mm_in : MI := (yX9_in, cX9_in, 6, (some .boolean), 0, 0)
abbrev Mm_isTwo : MI := (yX9_isTwo, cX9_isTwo, 1, (some .boolean), 1, 25)
abbrev Mm_isIn : MI := (yX9_isIn, cX9_isIn, 2, (some .boolean), 0, 0)
abbrev Mm_ones : MI := (yX9_ones, cX9_ones, 3, (some .int), 0, 0)
abbrev Mm_finds : MI := (yX9_finds, cX9_finds, 2, (some .int), 0, 0)
abbrev Mm_isSheet : MI := (yX9_isSheet, cX9_isSheet, 1, (some .boolean), 1, 25)
abbrev Mm_sheet : MI := (yX9_sheet, cX9_sheet, 5, (some .int), 2, 45)
abbrev Mm_lose : MI := (yX9_lose, cX9_lose, 2, (some .int), 2, 45)
abbrev Mm_lacks : MI := (yX9_lacks, cX9_lacks, 4, (some .int), 1, 25)
abbrev Mm_cut : MI := (yX9_cut, cX9_cut, 2, (some .int), 0, 0)
abbrev Mm_lay : MI := (yX9_lay, cX9_lay, 6, (some .int), 2, 48)
abbrev Mm_get : MI := (yX9_get, cX9_get, 4, (some .int), 2, 48)
abbrev Mm_copy : MI := (yX9_copy, cX9_copy, 7, (some .int), 2, 45)
abbrev Mm_type : MI := (yX9_type, cX9_type, 2, (some .int), 1, 25)
abbrev Mm_wipe : MI := (yX9_wipe, cX9_wipe, 2, (some .int), 0, 0)
abbrev Mm_readsPipe : MI := (yX9_readsPipe, cX9_readsPipe, 4, (some .boolean), 1, 25)
abbrev Mm_reads : MI := (yX9_reads, cX9_reads, 3, (some .int), 2, 48)
abbrev Mm_fault : MI := (yX9_fault, cX9_fault, 1, (some .int), 3, 70)
abbrev Mm_undo : MI := (yX9_undo, cX9_undo, 1, (some .int), 3, 70)
abbrev Mm_set : MI := (yX9_set, cX9_set, 4, (some .int), 1, 25)
abbrev Mm_isEnd : MI := (yX9_isEnd, cX9_isEnd, 1, (some .boolean), 1, 25)
abbrev Mm_isWire : MI := (yX9_isWire, cX9_isWire, 1, (some .boolean), 1, 25)
abbrev Mm_areEnds : MI := (yX9_areEnds, cX9_areEnds, 2, (some .boolean), 2, 45)
abbrev Mm_more : MI := (yX9_more, cX9_more, 3, (some .int), 0, 0)
abbrev Mm_letIn : MI := (yX9_letIn, cX9_letIn, 3, (some .int), 3, 66)
abbrev Mm_pull : MI := (yX9_pull, cX9_pull, 2, (some .int), 2, 45)
abbrev Mm_back : MI := (yX9_back, cX9_back, 1, (some .int), 0, 0)
abbrev Mm_read : MI := (yX9_read, cX9_read, 4, (some .int), 4, 88)
abbrev Mm_other : MI := (yX9_other, cX9_other, 3, (some .int), 0, 0)
abbrev Mm_isOpen : MI := (yX9_isOpen, cX9_isOpen, 2, (some .boolean), 1, 21)
abbrev Mm_findFar : MI := (yX9_findFar, cX9_findFar, 7, none, 2, 42)
abbrev Mm_findWay : MI := (yX9_findWay, cX9_findWay, 8, (some .int), 3, 68)
abbrev Mm_draws : MI := (yX9_draws, cX9_draws, 6, (some .int), 4, 95)
abbrev Mm_canPull : MI := (yX9_canPull, cX9_canPull, 4, (some .boolean), 1, 21)
abbrev Mm_pulls : MI := (yX9_pulls, cX9_pulls, 3, none, 1, 21)
abbrev Mm_goes : MI := (yX9_goes, cX9_goes, 4, none, 5, 120)
abbrev Mm_goesAll : MI := (yX9_goesAll, cX9_goesAll, 1, none, 6, 143)
abbrev Mm_pipe : MI := (yX9_pipe, cX9_pipe, 3, (some .int), 7, 163)
abbrev Mm_judged : MI := (yX9_judged, cX9_judged, 1, (some .int), 7, 163)
abbrev Mm_fullNow : MI := (yX9_fullNow, cX9_fullNow, 3, (some .int), 0, 0)
abbrev Mm_stateOf : MI := (yX9_stateOf, cX9_stateOf, 3, (some .int), 6, 143)
abbrev Mm_state : MI := (yX9_state, cX9_state, 3, (some .int), 7, 165)
abbrev Mm_pipesOf : MI := (yX9_pipesOf, cX9_pipesOf, 2, (some .int), 1, 21)
abbrev Mm_wire : MI := (yX9_wire, cX9_wire, 3, (some .int), 6, 143)
abbrev Mm_outOf : MI := (yX9_outOf, cX9_outOf, 5, (some .int), 2, 42)
abbrev Mm_out : MI := (yX9_out, cX9_out, 2, (some .int), 7, 163)
abbrev Mm_shortestOf : MI := (yX9_shortestOf, cX9_shortestOf, 5, (some .int), 4, 95)
abbrev Mm_shortest : MI := (yX9_shortest, cX9_shortest, 4, (some .int), 7, 163)
abbrev Mm_keeps : MI := (yX9_keeps, cX9_keeps, 2, none, 0, 0)
abbrev Mm_putsBack : MI := (yX9_putsBack, cX9_putsBack, 2, none, 0, 0)
abbrev Mm_drawnOf : MI := (yX9_drawnOf, cX9_drawnOf, 4, (some .int), 5, 120)
abbrev Mm_flows : MI := (yX9_flows, cX9_flows, 9, (some .boolean), 1, 22)
abbrev Mm_mostOf : MI := (yX9_mostOf, cX9_mostOf, 4, (some .int), 2, 50)
abbrev Mm_most : MI := (yX9_most, cX9_most, 4, (some .int), 7, 163)
abbrev Mm_failsOf : MI := (yX9_failsOf, cX9_failsOf, 4, (some .int), 2, 42)
abbrev Mm_fails : MI := (yX9_fails, cX9_fails, 2, (some .int), 7, 163)
abbrev Mm_soonestNow : MI := (yX9_soonestNow, cX9_soonestNow, 4, (some .int), 3, 65)
abbrev Mm_soonest : MI := (yX9_soonest, cX9_soonest, 1, (some .int), 7, 163)
abbrev Mm_leftOn : MI := (yX9_leftOn, cX9_leftOn, 5, (some .int), 3, 65)
abbrev Mm_left : MI := (yX9_left, cX9_left, 2, (some .int), 7, 163)
abbrev Mm_burnsBy : MI := (yX9_burnsBy, cX9_burnsBy, 9, (some .int), 2, 43)
abbrev Mm_joined : MI := (yX9_joined, cX9_joined, 3, (some .int), 1, 21)
abbrev Mm_burnsNow : MI := (yX9_burnsNow, cX9_burnsNow, 2, (some .int), 3, 71)
abbrev Mm_burns : MI := (yX9_burns, cX9_burns, 2, (some .int), 7, 163)
abbrev Mm_lights : MI := (yX9_lights, cX9_lights, 7, (some .boolean), 5, 120)
abbrev Mm_findLit : MI := (yX9_findLit, cX9_findLit, 5, none, 6, 146)
abbrev Mm_lit : MI := (yX9_lit, cX9_lit, 3, (some .int), 7, 170)
abbrev Mm_outAt : MI := (yX9_outAt, cX9_outAt, 2, (some .int), 0, 0)
abbrev Mm_inAt : MI := (yX9_inAt, cX9_inAt, 2, (some .int), 0, 0)
abbrev Mm_goesThrough : MI := (yX9_goesThrough, cX9_goesThrough, 2, (some .boolean), 1, 21)
abbrev Mm_walks : MI := (yX9_walks, cX9_walks, 6, none, 2, 42)
abbrev Mm_waysTo : MI := (yX9_waysTo, cX9_waysTo, 6, (some .int), 1, 21)
abbrev Mm_heardOf : MI := (yX9_heardOf, cX9_heardOf, 6, (some .int), 3, 67)
abbrev Mm_heard : MI := (yX9_heard, cX9_heard, 4, (some .int), 4, 92)
abbrev Mm_meetOf : MI := (yX9_meetOf, cX9_meetOf, 7, (some .int), 0, 0)
abbrev Mm_meet : MI := (yX9_meet, cX9_meet, 6, (some .int), 3, 70)
abbrev Mm_drowsyOf : MI := (yX9_drowsyOf, cX9_drowsyOf, 10, (some .int), 1, 22)
abbrev Mm_drowsy : MI := (yX9_drowsy, cX9_drowsy, 4, (some .int), 3, 70)
abbrev Mm_chalk : MI := (yX9_chalk, cX9_chalk, 4, (some .int), 3, 66)
abbrev Mm_liesNow : MI := (yX9_liesNow, cX9_liesNow, 7, (some .int), 1, 21)
abbrev Mm_lies : MI := (yX9_lies, cX9_lies, 1, (some .int), 7, 163)
abbrev Mm_scene : MI := (yX9_scene, cX9_scene, 2, (some .int), 1, 25)
abbrev Mm_scenesOf : MI := (yX9_scenesOf, cX9_scenesOf, 5, (some .int), 6, 143)
abbrev Mm_scenes : MI := (yX9_scenes, cX9_scenes, 2, (some .int), 7, 167)
abbrev Mm_cueOf : MI := (yX9_cueOf, cX9_cueOf, 3, (some .int), 7, 167)
abbrev Mm_cue : MI := (yX9_cue, cX9_cue, 2, (some .int), 8, 189)
abbrev Mm_forget : MI := (yX9_forget, cX9_forget, 3, (some .int), 2, 45)
abbrev Mm_write : MI := (yX9_write, cX9_write, 7, (some .int), 7, 163)
abbrev Mm_count : MI := (yX9_count, cX9_count, 4, (some .int), 7, 163)
abbrev Mm_digest : MI := (yX9_digest, cX9_digest, 5, (some .long), 9, 210)
abbrev Mk_bitCount : MI := (yJ6_bitCount_0f7a4, cJ6_bitCount_0f7a4, 1, (some .int), 0, 0)
abbrev Mk_abs : MI := (yJ9_abs_0f7a4, cJ9_abs_0f7a4, 1, (some .int), 0, 0)
abbrev Mk_max : MI := (yJ9_max_7cf53, cJ9_max_7cf53, 2, (some .int), 0, 0)
abbrev Mk_min : MI := (yJ9_min_7cf53, cJ9_min_7cf53, 2, (some .int), 0, 0)
abbrev Mk_fill : MI := (yJ7_fill_53178, cJ7_fill_53178, 4, none, 0, 0)
abbrev Mlaw_law : MI := (yL_law, cL_law, 4, (some .boolean), 10, 234)
theorem k78 : Cond.initialized RX0 ∈ gtbl := gm 78 (by decide +kernel)
theorem k524 : Cond.code yX0_add cX0_add 3 (some .int) ∈ gtbl := gm 524 (by decide +kernel)
theorem ck_b_add : (Cond.initialized Mb_add.1.cls ∈ gtbl) ∧ (Cond.code Mb_add.1 Mb_add.2.1 Mb_add.2.2.1 Mb_add.2.2.2.1 ∈ gtbl) ∧ (Mb_add.1.cls ≠ "java/lang/invoke/MethodHandle" ∧ Mb_add.1.cls ≠ "java/lang/invoke/VarHandle" ∧ (parseMethodDescriptor Mb_add.1.desc).map (fun d => d.parameters.length) = some 2) := ⟨k78, k524, by decide +kernel, by decide +kernel, by decide +kernel⟩
theorem k522 : Cond.instanceMethod yX0_add ∈ gtbl := gm 522 (by decide +kernel)
theorem k523 : Cond.selects RX0 yX0_add yX0_add ∈ gtbl := gm 523 (by decide +kernel)
theorem k540 : Cond.code yX0_dropStep cX0_dropStep 1 none ∈ gtbl := gm 540 (by decide +kernel)
theorem ck_b_dropStep : (Cond.initialized Mb_dropStep.1.cls ∈ gtbl) ∧ (Cond.code Mb_dropStep.1 Mb_dropStep.2.1 Mb_dropStep.2.2.1 Mb_dropStep.2.2.2.1 ∈ gtbl) ∧ (Mb_dropStep.1.cls ≠ "java/lang/invoke/MethodHandle" ∧ Mb_dropStep.1.cls ≠ "java/lang/invoke/VarHandle" ∧ (parseMethodDescriptor Mb_dropStep.1.desc).map (fun d => d.parameters.length) = some 0) := ⟨k78, k540, by decide +kernel, by decide +kernel, by decide +kernel⟩
theorem k538 : Cond.instanceMethod yX0_dropStep ∈ gtbl := gm 538 (by decide +kernel)
theorem k539 : Cond.selects RX0 yX0_dropStep yX0_dropStep ∈ gtbl := gm 539 (by decide +kernel)
theorem k397 : Cond.code yX0_playFrom cX0_playFrom 3 none ∈ gtbl := gm 397 (by decide +kernel)
theorem ck_b_playFrom : (Cond.initialized Mb_playFrom.1.cls ∈ gtbl) ∧ (Cond.code Mb_playFrom.1 Mb_playFrom.2.1 Mb_playFrom.2.2.1 Mb_playFrom.2.2.2.1 ∈ gtbl) ∧ (Mb_playFrom.1.cls ≠ "java/lang/invoke/MethodHandle" ∧ Mb_playFrom.1.cls ≠ "java/lang/invoke/VarHandle" ∧ (parseMethodDescriptor Mb_playFrom.1.desc).map (fun d => d.parameters.length) = some 1) := ⟨k78, k397, by decide +kernel, by decide +kernel, by decide +kernel⟩
theorem k395 : Cond.instanceMethod yX0_playFrom ∈ gtbl := gm 395 (by decide +kernel)
theorem k396 : Cond.selects RX0 yX0_playFrom yX0_playFrom ∈ gtbl := gm 396 (by decide +kernel)
theorem k489 : Cond.code yX0_lyingNow cX0_lyingNow 1 (some .int) ∈ gtbl := gm 489 (by decide +kernel)
theorem ck_b_lyingNow : (Cond.initialized Mb_lyingNow.1.cls ∈ gtbl) ∧ (Cond.code Mb_lyingNow.1 Mb_lyingNow.2.1 Mb_lyingNow.2.2.1 Mb_lyingNow.2.2.2.1 ∈ gtbl) ∧ (Mb_lyingNow.1.cls ≠ "java/lang/invoke/MethodHandle" ∧ Mb_lyingNow.1.cls ≠ "java/lang/invoke/VarHandle" ∧ (parseMethodDescriptor Mb_lyingNow.1.desc).map (fun d => d.parameters.length) = some 0) := ⟨k78, k489, by decide +kernel, by decide +kernel, by decide +kernel⟩
theorem k487 : Cond.instanceMethod yX0_lyingNow ∈ gtbl := gm 487 (by decide +kernel)
theorem k488 : Cond.selects RX0 yX0_lyingNow yX0_lyingNow ∈ gtbl := gm 488 (by decide +kernel)
theorem k411 : Cond.code yX0_afterLetIn cX0_afterLetIn 3 (some .int) ∈ gtbl := gm 411 (by decide +kernel)
theorem ck_b_afterLetIn : (Cond.initialized Mb_afterLetIn.1.cls ∈ gtbl) ∧ (Cond.code Mb_afterLetIn.1 Mb_afterLetIn.2.1 Mb_afterLetIn.2.2.1 Mb_afterLetIn.2.2.2.1 ∈ gtbl) ∧ (Mb_afterLetIn.1.cls ≠ "java/lang/invoke/MethodHandle" ∧ Mb_afterLetIn.1.cls ≠ "java/lang/invoke/VarHandle" ∧ (parseMethodDescriptor Mb_afterLetIn.1.desc).map (fun d => d.parameters.length) = some 1) := ⟨k78, k411, by decide +kernel, by decide +kernel, by decide +kernel⟩
theorem k410 : Cond.instanceMethod yX0_afterLetIn ∈ gtbl := gm 410 (by decide +kernel)
theorem k4 : Cond.selects RX0 yX0_afterLetIn yX0_afterLetIn ∈ gtbl := gm 4 (by decide +kernel)
theorem k401 : Cond.code yX0_afterPull cX0_afterPull 4 (some .int) ∈ gtbl := gm 401 (by decide +kernel)
theorem ck_b_afterPull : (Cond.initialized Mb_afterPull.1.cls ∈ gtbl) ∧ (Cond.code Mb_afterPull.1 Mb_afterPull.2.1 Mb_afterPull.2.2.1 Mb_afterPull.2.2.2.1 ∈ gtbl) ∧ (Mb_afterPull.1.cls ≠ "java/lang/invoke/MethodHandle" ∧ Mb_afterPull.1.cls ≠ "java/lang/invoke/VarHandle" ∧ (parseMethodDescriptor Mb_afterPull.1.desc).map (fun d => d.parameters.length) = some 2) := ⟨k78, k401, by decide +kernel, by decide +kernel, by decide +kernel⟩
theorem k400 : Cond.instanceMethod yX0_afterPull ∈ gtbl := gm 400 (by decide +kernel)
theorem k3 : Cond.selects RX0 yX0_afterPull yX0_afterPull ∈ gtbl := gm 3 (by decide +kernel)
theorem k573 : Cond.code yX0_isDone cX0_isDone 2 (some .boolean) ∈ gtbl := gm 573 (by decide +kernel)
theorem ck_b_isDone : (Cond.initialized Mb_isDone.1.cls ∈ gtbl) ∧ (Cond.code Mb_isDone.1 Mb_isDone.2.1 Mb_isDone.2.2.1 Mb_isDone.2.2.2.1 ∈ gtbl) ∧ (Mb_isDone.1.cls ≠ "java/lang/invoke/MethodHandle" ∧ Mb_isDone.1.cls ≠ "java/lang/invoke/VarHandle" ∧ (parseMethodDescriptor Mb_isDone.1.desc).map (fun d => d.parameters.length) = some 1) := ⟨k78, k573, by decide +kernel, by decide +kernel, by decide +kernel⟩
theorem k572 : Cond.instanceMethod yX0_isDone ∈ gtbl := gm 572 (by decide +kernel)
theorem k12 : Cond.selects RX0 yX0_isDone yX0_isDone ∈ gtbl := gm 12 (by decide +kernel)
theorem k569 : Cond.code yX0_firstNotDone cX0_firstNotDone 2 (some .int) ∈ gtbl := gm 569 (by decide +kernel)
theorem ck_b_firstNotDone : (Cond.initialized Mb_firstNotDone.1.cls ∈ gtbl) ∧ (Cond.code Mb_firstNotDone.1 Mb_firstNotDone.2.1 Mb_firstNotDone.2.2.1 Mb_firstNotDone.2.2.2.1 ∈ gtbl) ∧ (Mb_firstNotDone.1.cls ≠ "java/lang/invoke/MethodHandle" ∧ Mb_firstNotDone.1.cls ≠ "java/lang/invoke/VarHandle" ∧ (parseMethodDescriptor Mb_firstNotDone.1.desc).map (fun d => d.parameters.length) = some 0) := ⟨k78, k569, by decide +kernel, by decide +kernel, by decide +kernel⟩
theorem k567 : Cond.instanceMethod yX0_firstNotDone ∈ gtbl := gm 567 (by decide +kernel)
theorem k568 : Cond.selects RX0 yX0_firstNotDone yX0_firstNotDone ∈ gtbl := gm 568 (by decide +kernel)
theorem k898 : Cond.code yX0_howManyDone cX0_howManyDone 3 (some .int) ∈ gtbl := gm 898 (by decide +kernel)
theorem ck_b_howManyDone : (Cond.initialized Mb_howManyDone.1.cls ∈ gtbl) ∧ (Cond.code Mb_howManyDone.1 Mb_howManyDone.2.1 Mb_howManyDone.2.2.1 Mb_howManyDone.2.2.2.1 ∈ gtbl) ∧ (Mb_howManyDone.1.cls ≠ "java/lang/invoke/MethodHandle" ∧ Mb_howManyDone.1.cls ≠ "java/lang/invoke/VarHandle" ∧ (parseMethodDescriptor Mb_howManyDone.1.desc).map (fun d => d.parameters.length) = some 0) := ⟨k78, k898, by decide +kernel, by decide +kernel, by decide +kernel⟩
theorem k896 : Cond.instanceMethod yX0_howManyDone ∈ gtbl := gm 896 (by decide +kernel)
theorem k897 : Cond.selects RX0 yX0_howManyDone yX0_howManyDone ∈ gtbl := gm 897 (by decide +kernel)
theorem k420 : Cond.code yX0_pipesOf cX0_pipesOf 3 (some .int) ∈ gtbl := gm 420 (by decide +kernel)
theorem ck_b_pipesOf : (Cond.initialized Mb_pipesOf.1.cls ∈ gtbl) ∧ (Cond.code Mb_pipesOf.1 Mb_pipesOf.2.1 Mb_pipesOf.2.2.1 Mb_pipesOf.2.2.2.1 ∈ gtbl) ∧ (Mb_pipesOf.1.cls ≠ "java/lang/invoke/MethodHandle" ∧ Mb_pipesOf.1.cls ≠ "java/lang/invoke/VarHandle" ∧ (parseMethodDescriptor Mb_pipesOf.1.desc).map (fun d => d.parameters.length) = some 2) := ⟨k78, k420, by decide +kernel, by decide +kernel, by decide +kernel⟩
theorem k418 : Cond.instanceMethod yX0_pipesOf ∈ gtbl := gm 418 (by decide +kernel)
theorem k419 : Cond.selects RX0 yX0_pipesOf yX0_pipesOf ∈ gtbl := gm 419 (by decide +kernel)
theorem k696 : Cond.code yX0_endsOf cX0_endsOf 2 (some .int) ∈ gtbl := gm 696 (by decide +kernel)
theorem ck_b_endsOf : (Cond.initialized Mb_endsOf.1.cls ∈ gtbl) ∧ (Cond.code Mb_endsOf.1 Mb_endsOf.2.1 Mb_endsOf.2.2.1 Mb_endsOf.2.2.2.1 ∈ gtbl) ∧ (Mb_endsOf.1.cls ≠ "java/lang/invoke/MethodHandle" ∧ Mb_endsOf.1.cls ≠ "java/lang/invoke/VarHandle" ∧ (parseMethodDescriptor Mb_endsOf.1.desc).map (fun d => d.parameters.length) = some 1) := ⟨k78, k696, by decide +kernel, by decide +kernel, by decide +kernel⟩
theorem k694 : Cond.instanceMethod yX0_endsOf ∈ gtbl := gm 694 (by decide +kernel)
theorem k695 : Cond.selects RX0 yX0_endsOf yX0_endsOf ∈ gtbl := gm 695 (by decide +kernel)
theorem k493 : Cond.code yX0_wiresIn cX0_wiresIn 5 (some .int) ∈ gtbl := gm 493 (by decide +kernel)
theorem ck_b_wiresIn : (Cond.initialized Mb_wiresIn.1.cls ∈ gtbl) ∧ (Cond.code Mb_wiresIn.1 Mb_wiresIn.2.1 Mb_wiresIn.2.2.1 Mb_wiresIn.2.2.2.1 ∈ gtbl) ∧ (Mb_wiresIn.1.cls ≠ "java/lang/invoke/MethodHandle" ∧ Mb_wiresIn.1.cls ≠ "java/lang/invoke/VarHandle" ∧ (parseMethodDescriptor Mb_wiresIn.1.desc).map (fun d => d.parameters.length) = some 2) := ⟨k78, k493, by decide +kernel, by decide +kernel, by decide +kernel⟩
theorem k491 : Cond.instanceMethod yX0_wiresIn ∈ gtbl := gm 491 (by decide +kernel)
theorem k492 : Cond.selects RX0 yX0_wiresIn yX0_wiresIn ∈ gtbl := gm 492 (by decide +kernel)
theorem k585 : Cond.code yX0_fullPipes cX0_fullPipes 4 (some .int) ∈ gtbl := gm 585 (by decide +kernel)
theorem ck_b_fullPipes : (Cond.initialized Mb_fullPipes.1.cls ∈ gtbl) ∧ (Cond.code Mb_fullPipes.1 Mb_fullPipes.2.1 Mb_fullPipes.2.2.1 Mb_fullPipes.2.2.2.1 ∈ gtbl) ∧ (Mb_fullPipes.1.cls ≠ "java/lang/invoke/MethodHandle" ∧ Mb_fullPipes.1.cls ≠ "java/lang/invoke/VarHandle" ∧ (parseMethodDescriptor Mb_fullPipes.1.desc).map (fun d => d.parameters.length) = some 1) := ⟨k78, k585, by decide +kernel, by decide +kernel, by decide +kernel⟩
theorem k583 : Cond.instanceMethod yX0_fullPipes ∈ gtbl := gm 583 (by decide +kernel)
theorem k584 : Cond.selects RX0 yX0_fullPipes yX0_fullPipes ∈ gtbl := gm 584 (by decide +kernel)
theorem k613 : Cond.code yX0_loadNow cX0_loadNow 1 none ∈ gtbl := gm 613 (by decide +kernel)
theorem ck_b_loadNow : (Cond.initialized Mb_loadNow.1.cls ∈ gtbl) ∧ (Cond.code Mb_loadNow.1 Mb_loadNow.2.1 Mb_loadNow.2.2.1 Mb_loadNow.2.2.2.1 ∈ gtbl) ∧ (Mb_loadNow.1.cls ≠ "java/lang/invoke/MethodHandle" ∧ Mb_loadNow.1.cls ≠ "java/lang/invoke/VarHandle" ∧ (parseMethodDescriptor Mb_loadNow.1.desc).map (fun d => d.parameters.length) = some 0) := ⟨k78, k613, by decide +kernel, by decide +kernel, by decide +kernel⟩
theorem k611 : Cond.instanceMethod yX0_loadNow ∈ gtbl := gm 611 (by decide +kernel)
theorem k612 : Cond.selects RX0 yX0_loadNow yX0_loadNow ∈ gtbl := gm 612 (by decide +kernel)
theorem k415 : Cond.code yX0_fillLoad cX0_fillLoad 5 none ∈ gtbl := gm 415 (by decide +kernel)
theorem ck_b_fillLoad : (Cond.initialized Mb_fillLoad.1.cls ∈ gtbl) ∧ (Cond.code Mb_fillLoad.1 Mb_fillLoad.2.1 Mb_fillLoad.2.2.1 Mb_fillLoad.2.2.2.1 ∈ gtbl) ∧ (Mb_fillLoad.1.cls ≠ "java/lang/invoke/MethodHandle" ∧ Mb_fillLoad.1.cls ≠ "java/lang/invoke/VarHandle" ∧ (parseMethodDescriptor Mb_fillLoad.1.desc).map (fun d => d.parameters.length) = some 1) := ⟨k78, k415, by decide +kernel, by decide +kernel, by decide +kernel⟩
theorem k414 : Cond.instanceMethod yX0_fillLoad ∈ gtbl := gm 414 (by decide +kernel)
theorem k5 : Cond.selects RX0 yX0_fillLoad yX0_fillLoad ∈ gtbl := gm 5 (by decide +kernel)
theorem k600 : Cond.code yX0_drawnOutWith cX0_drawnOutWith 7 (some .int) ∈ gtbl := gm 600 (by decide +kernel)
theorem ck_b_drawnOutWith : (Cond.initialized Mb_drawnOutWith.1.cls ∈ gtbl) ∧ (Cond.code Mb_drawnOutWith.1 Mb_drawnOutWith.2.1 Mb_drawnOutWith.2.2.1 Mb_drawnOutWith.2.2.2.1 ∈ gtbl) ∧ (Mb_drawnOutWith.1.cls ≠ "java/lang/invoke/MethodHandle" ∧ Mb_drawnOutWith.1.cls ≠ "java/lang/invoke/VarHandle" ∧ (parseMethodDescriptor Mb_drawnOutWith.1.desc).map (fun d => d.parameters.length) = some 1) := ⟨k78, k600, by decide +kernel, by decide +kernel, by decide +kernel⟩
theorem k598 : Cond.instanceMethod yX0_drawnOutWith ∈ gtbl := gm 598 (by decide +kernel)
theorem k599 : Cond.selects RX0 yX0_drawnOutWith yX0_drawnOutWith ∈ gtbl := gm 599 (by decide +kernel)
theorem k692 : Cond.code yX0_joinedTo cX0_joinedTo 7 (some .int) ∈ gtbl := gm 692 (by decide +kernel)
theorem ck_b_joinedTo : (Cond.initialized Mb_joinedTo.1.cls ∈ gtbl) ∧ (Cond.code Mb_joinedTo.1 Mb_joinedTo.2.1 Mb_joinedTo.2.2.1 Mb_joinedTo.2.2.2.1 ∈ gtbl) ∧ (Mb_joinedTo.1.cls ≠ "java/lang/invoke/MethodHandle" ∧ Mb_joinedTo.1.cls ≠ "java/lang/invoke/VarHandle" ∧ (parseMethodDescriptor Mb_joinedTo.1.desc).map (fun d => d.parameters.length) = some 2) := ⟨k78, k692, by decide +kernel, by decide +kernel, by decide +kernel⟩
theorem k690 : Cond.instanceMethod yX0_joinedTo ∈ gtbl := gm 690 (by decide +kernel)
theorem k691 : Cond.selects RX0 yX0_joinedTo yX0_joinedTo ∈ gtbl := gm 691 (by decide +kernel)
theorem k79 : Cond.initialized RX1 ∈ gtbl := gm 79 (by decide +kernel)
theorem k642 : Cond.code yX1_greatest cX1_greatest 4 (some .int) ∈ gtbl := gm 642 (by decide +kernel)
theorem ck_f_greatest : (Cond.initialized Mf_greatest.1.cls ∈ gtbl) ∧ (Cond.code Mf_greatest.1 Mf_greatest.2.1 Mf_greatest.2.2.1 Mf_greatest.2.2.2.1 ∈ gtbl) ∧ (Mf_greatest.1.cls ≠ "java/lang/invoke/MethodHandle" ∧ Mf_greatest.1.cls ≠ "java/lang/invoke/VarHandle" ∧ (parseMethodDescriptor Mf_greatest.1.desc).map (fun d => d.parameters.length) = some 2) := ⟨k79, k642, by decide +kernel, by decide +kernel, by decide +kernel⟩
theorem k640 : Cond.instanceMethod yX1_greatest ∈ gtbl := gm 640 (by decide +kernel)
theorem k641 : Cond.selects RX1 yX1_greatest yX1_greatest ∈ gtbl := gm 641 (by decide +kernel)
theorem k647 : Cond.code yX1_seekRoom cX1_seekRoom 9 (some .boolean) ∈ gtbl := gm 647 (by decide +kernel)
theorem ck_f_seekRoom : (Cond.initialized Mf_seekRoom.1.cls ∈ gtbl) ∧ (Cond.code Mf_seekRoom.1 Mf_seekRoom.2.1 Mf_seekRoom.2.2.1 Mf_seekRoom.2.2.2.1 ∈ gtbl) ∧ (Mf_seekRoom.1.cls ≠ "java/lang/invoke/MethodHandle" ∧ Mf_seekRoom.1.cls ≠ "java/lang/invoke/VarHandle" ∧ (parseMethodDescriptor Mf_seekRoom.1.desc).map (fun d => d.parameters.length) = some 2) := ⟨k79, k647, by decide +kernel, by decide +kernel, by decide +kernel⟩
theorem k646 : Cond.instanceMethod yX1_seekRoom ∈ gtbl := gm 646 (by decide +kernel)
theorem k16 : Cond.selects RX1 yX1_seekRoom yX1_seekRoom ∈ gtbl := gm 16 (by decide +kernel)
theorem k654 : Cond.code yX1_hasRoom cX1_hasRoom 4 (some .boolean) ∈ gtbl := gm 654 (by decide +kernel)
theorem ck_f_hasRoom : (Cond.initialized Mf_hasRoom.1.cls ∈ gtbl) ∧ (Cond.code Mf_hasRoom.1 Mf_hasRoom.2.1 Mf_hasRoom.2.2.1 Mf_hasRoom.2.2.2.1 ∈ gtbl) ∧ (Mf_hasRoom.1.cls ≠ "java/lang/invoke/MethodHandle" ∧ Mf_hasRoom.1.cls ≠ "java/lang/invoke/VarHandle" ∧ (parseMethodDescriptor Mf_hasRoom.1.desc).map (fun d => d.parameters.length) = some 2) := ⟨k79, k654, by decide +kernel, by decide +kernel, by decide +kernel⟩
theorem k653 : Cond.instanceMethod yX1_hasRoom ∈ gtbl := gm 653 (by decide +kernel)
theorem k17 : Cond.selects RX1 yX1_hasRoom yX1_hasRoom ∈ gtbl := gm 17 (by decide +kernel)
theorem k663 : Cond.code yX1_push cX1_push 6 none ∈ gtbl := gm 663 (by decide +kernel)
theorem ck_f_push : (Cond.initialized Mf_push.1.cls ∈ gtbl) ∧ (Cond.code Mf_push.1 Mf_push.2.1 Mf_push.2.2.1 Mf_push.2.2.2.1 ∈ gtbl) ∧ (Mf_push.1.cls ≠ "java/lang/invoke/MethodHandle" ∧ Mf_push.1.cls ≠ "java/lang/invoke/VarHandle" ∧ (parseMethodDescriptor Mf_push.1.desc).map (fun d => d.parameters.length) = some 2) := ⟨k79, k663, by decide +kernel, by decide +kernel, by decide +kernel⟩
theorem k662 : Cond.instanceMethod yX1_push ∈ gtbl := gm 662 (by decide +kernel)
theorem k18 : Cond.selects RX1 yX1_push yX1_push ∈ gtbl := gm 18 (by decide +kernel)
theorem k82 : Cond.initialized RX2 ∈ gtbl := gm 82 (by decide +kernel)
theorem k792 : Cond.code yX2_addMark cX2_addMark 3 (some .int) ∈ gtbl := gm 792 (by decide +kernel)
theorem ck_j_addMark : (Cond.initialized Mj_addMark.1.cls ∈ gtbl) ∧ (Cond.code Mj_addMark.1 Mj_addMark.2.1 Mj_addMark.2.2.1 Mj_addMark.2.2.2.1 ∈ gtbl) ∧ (Mj_addMark.1.cls ≠ "java/lang/invoke/MethodHandle" ∧ Mj_addMark.1.cls ≠ "java/lang/invoke/VarHandle" ∧ (parseMethodDescriptor Mj_addMark.1.desc).map (fun d => d.parameters.length) = some 2) := ⟨k82, k792, by decide +kernel, by decide +kernel, by decide +kernel⟩
theorem k790 : Cond.instanceMethod yX2_addMark ∈ gtbl := gm 790 (by decide +kernel)
theorem k791 : Cond.selects RX2 yX2_addMark yX2_addMark ∈ gtbl := gm 791 (by decide +kernel)
theorem k805 : Cond.code yX2_addScene cX2_addScene 2 (some .int) ∈ gtbl := gm 805 (by decide +kernel)
theorem ck_j_addScene : (Cond.initialized Mj_addScene.1.cls ∈ gtbl) ∧ (Cond.code Mj_addScene.1 Mj_addScene.2.1 Mj_addScene.2.2.1 Mj_addScene.2.2.2.1 ∈ gtbl) ∧ (Mj_addScene.1.cls ≠ "java/lang/invoke/MethodHandle" ∧ Mj_addScene.1.cls ≠ "java/lang/invoke/VarHandle" ∧ (parseMethodDescriptor Mj_addScene.1.desc).map (fun d => d.parameters.length) = some 1) := ⟨k82, k805, by decide +kernel, by decide +kernel, by decide +kernel⟩
theorem k803 : Cond.instanceMethod yX2_addScene ∈ gtbl := gm 803 (by decide +kernel)
theorem k804 : Cond.selects RX2 yX2_addScene yX2_addScene ∈ gtbl := gm 804 (by decide +kernel)
theorem k825 : Cond.code yX2_dropMarks cX2_dropMarks 2 (some .int) ∈ gtbl := gm 825 (by decide +kernel)
theorem ck_j_dropMarks : (Cond.initialized Mj_dropMarks.1.cls ∈ gtbl) ∧ (Cond.code Mj_dropMarks.1 Mj_dropMarks.2.1 Mj_dropMarks.2.2.1 Mj_dropMarks.2.2.2.1 ∈ gtbl) ∧ (Mj_dropMarks.1.cls ≠ "java/lang/invoke/MethodHandle" ∧ Mj_dropMarks.1.cls ≠ "java/lang/invoke/VarHandle" ∧ (parseMethodDescriptor Mj_dropMarks.1.desc).map (fun d => d.parameters.length) = some 0) := ⟨k82, k825, by decide +kernel, by decide +kernel, by decide +kernel⟩
theorem k823 : Cond.instanceMethod yX2_dropMarks ∈ gtbl := gm 823 (by decide +kernel)
theorem k824 : Cond.selects RX2 yX2_dropMarks yX2_dropMarks ∈ gtbl := gm 824 (by decide +kernel)
theorem k829 : Cond.code yX2_dropScenes cX2_dropScenes 2 (some .int) ∈ gtbl := gm 829 (by decide +kernel)
theorem ck_j_dropScenes : (Cond.initialized Mj_dropScenes.1.cls ∈ gtbl) ∧ (Cond.code Mj_dropScenes.1 Mj_dropScenes.2.1 Mj_dropScenes.2.2.1 Mj_dropScenes.2.2.2.1 ∈ gtbl) ∧ (Mj_dropScenes.1.cls ≠ "java/lang/invoke/MethodHandle" ∧ Mj_dropScenes.1.cls ≠ "java/lang/invoke/VarHandle" ∧ (parseMethodDescriptor Mj_dropScenes.1.desc).map (fun d => d.parameters.length) = some 0) := ⟨k82, k829, by decide +kernel, by decide +kernel, by decide +kernel⟩
theorem k827 : Cond.instanceMethod yX2_dropScenes ∈ gtbl := gm 827 (by decide +kernel)
theorem k828 : Cond.selects RX2 yX2_dropScenes yX2_dropScenes ∈ gtbl := gm 828 (by decide +kernel)
theorem k80 : Cond.initialized RX3 ∈ gtbl := gm 80 (by decide +kernel)
theorem k704 : Cond.code yX3_seek cX3_seek 4 none ∈ gtbl := gm 704 (by decide +kernel)
theorem ck_l_seek : (Cond.initialized Ml_seek.1.cls ∈ gtbl) ∧ (Cond.code Ml_seek.1 Ml_seek.2.1 Ml_seek.2.2.1 Ml_seek.2.2.2.1 ∈ gtbl) ∧ (Ml_seek.1.cls ≠ "java/lang/invoke/MethodHandle" ∧ Ml_seek.1.cls ≠ "java/lang/invoke/VarHandle" ∧ (parseMethodDescriptor Ml_seek.1.desc).map (fun d => d.parameters.length) = some 1) := ⟨k80, k704, by decide +kernel, by decide +kernel, by decide +kernel⟩
theorem k702 : Cond.instanceMethod yX3_seek ∈ gtbl := gm 702 (by decide +kernel)
theorem k703 : Cond.selects RX3 yX3_seek yX3_seek ∈ gtbl := gm 703 (by decide +kernel)
theorem k732 : Cond.code yX3_seekTwo cX3_seekTwo 6 none ∈ gtbl := gm 732 (by decide +kernel)
theorem ck_l_seekTwo : (Cond.initialized Ml_seekTwo.1.cls ∈ gtbl) ∧ (Cond.code Ml_seekTwo.1 Ml_seekTwo.2.1 Ml_seekTwo.2.2.1 Ml_seekTwo.2.2.2.1 ∈ gtbl) ∧ (Ml_seekTwo.1.cls ≠ "java/lang/invoke/MethodHandle" ∧ Ml_seekTwo.1.cls ≠ "java/lang/invoke/VarHandle" ∧ (parseMethodDescriptor Ml_seekTwo.1.desc).map (fun d => d.parameters.length) = some 1) := ⟨k80, k732, by decide +kernel, by decide +kernel, by decide +kernel⟩
theorem k731 : Cond.instanceMethod yX3_seekTwo ∈ gtbl := gm 731 (by decide +kernel)
theorem k23 : Cond.selects RX3 yX3_seekTwo yX3_seekTwo ∈ gtbl := gm 23 (by decide +kernel)
theorem k714 : Cond.code yX3_lastLetIn cX3_lastLetIn 6 (some .int) ∈ gtbl := gm 714 (by decide +kernel)
theorem ck_l_lastLetIn : (Cond.initialized Ml_lastLetIn.1.cls ∈ gtbl) ∧ (Cond.code Ml_lastLetIn.1 Ml_lastLetIn.2.1 Ml_lastLetIn.2.2.1 Ml_lastLetIn.2.2.2.1 ∈ gtbl) ∧ (Ml_lastLetIn.1.cls ≠ "java/lang/invoke/MethodHandle" ∧ Ml_lastLetIn.1.cls ≠ "java/lang/invoke/VarHandle" ∧ (parseMethodDescriptor Ml_lastLetIn.1.desc).map (fun d => d.parameters.length) = some 2) := ⟨k80, k714, by decide +kernel, by decide +kernel, by decide +kernel⟩
theorem k713 : Cond.instanceMethod yX3_lastLetIn ∈ gtbl := gm 713 (by decide +kernel)
theorem k20 : Cond.selects RX3 yX3_lastLetIn yX3_lastLetIn ∈ gtbl := gm 20 (by decide +kernel)
theorem k718 : Cond.code yX3_burningWith cX3_burningWith 4 (some .int) ∈ gtbl := gm 718 (by decide +kernel)
theorem ck_l_burningWith : (Cond.initialized Ml_burningWith.1.cls ∈ gtbl) ∧ (Cond.code Ml_burningWith.1 Ml_burningWith.2.1 Ml_burningWith.2.2.1 Ml_burningWith.2.2.2.1 ∈ gtbl) ∧ (Ml_burningWith.1.cls ≠ "java/lang/invoke/MethodHandle" ∧ Ml_burningWith.1.cls ≠ "java/lang/invoke/VarHandle" ∧ (parseMethodDescriptor Ml_burningWith.1.desc).map (fun d => d.parameters.length) = some 2) := ⟨k80, k718, by decide +kernel, by decide +kernel, by decide +kernel⟩
theorem k717 : Cond.instanceMethod yX3_burningWith ∈ gtbl := gm 717 (by decide +kernel)
theorem k21 : Cond.selects RX3 yX3_burningWith yX3_burningWith ∈ gtbl := gm 21 (by decide +kernel)
theorem k722 : Cond.code yX3_spread cX3_spread 6 (some .int) ∈ gtbl := gm 722 (by decide +kernel)
theorem ck_l_spread : (Cond.initialized Ml_spread.1.cls ∈ gtbl) ∧ (Cond.code Ml_spread.1 Ml_spread.2.1 Ml_spread.2.2.1 Ml_spread.2.2.2.1 ∈ gtbl) ∧ (Ml_spread.1.cls ≠ "java/lang/invoke/MethodHandle" ∧ Ml_spread.1.cls ≠ "java/lang/invoke/VarHandle" ∧ (parseMethodDescriptor Ml_spread.1.desc).map (fun d => d.parameters.length) = some 2) := ⟨k80, k722, by decide +kernel, by decide +kernel, by decide +kernel⟩
theorem k721 : Cond.instanceMethod yX3_spread ∈ gtbl := gm 721 (by decide +kernel)
theorem k22 : Cond.selects RX3 yX3_spread yX3_spread ∈ gtbl := gm 22 (by decide +kernel)
theorem k709 : Cond.code yX3_holdsAll cX3_holdsAll 2 (some .boolean) ∈ gtbl := gm 709 (by decide +kernel)
theorem ck_l_holdsAll : (Cond.initialized Ml_holdsAll.1.cls ∈ gtbl) ∧ (Cond.code Ml_holdsAll.1 Ml_holdsAll.2.1 Ml_holdsAll.2.2.1 Ml_holdsAll.2.2.2.1 ∈ gtbl) ∧ (Ml_holdsAll.1.cls ≠ "java/lang/invoke/MethodHandle" ∧ Ml_holdsAll.1.cls ≠ "java/lang/invoke/VarHandle" ∧ (parseMethodDescriptor Ml_holdsAll.1.desc).map (fun d => d.parameters.length) = some 2) := ⟨k80, k709, by decide +kernel, by decide +kernel, by decide +kernel⟩
theorem k708 : Cond.static yX3_holdsAll ∈ gtbl := gm 708 (by decide +kernel)
theorem k76 : Cond.initialized RX4 ∈ gtbl := gm 76 (by decide +kernel)
theorem k380 : Cond.code yX4_append cX4_append 2 none ∈ gtbl := gm 380 (by decide +kernel)
theorem ck_p_append : (Cond.initialized Mp_append.1.cls ∈ gtbl) ∧ (Cond.code Mp_append.1 Mp_append.2.1 Mp_append.2.2.1 Mp_append.2.2.2.1 ∈ gtbl) ∧ (Mp_append.1.cls ≠ "java/lang/invoke/MethodHandle" ∧ Mp_append.1.cls ≠ "java/lang/invoke/VarHandle" ∧ (parseMethodDescriptor Mp_append.1.desc).map (fun d => d.parameters.length) = some 1) := ⟨k76, k380, by decide +kernel, by decide +kernel, by decide +kernel⟩
theorem k378 : Cond.instanceMethod yX4_append ∈ gtbl := gm 378 (by decide +kernel)
theorem k379 : Cond.selects RX4 yX4_append yX4_append ∈ gtbl := gm 379 (by decide +kernel)
theorem k462 : Cond.code yX4_clear cX4_clear 1 none ∈ gtbl := gm 462 (by decide +kernel)
theorem ck_p_clear : (Cond.initialized Mp_clear.1.cls ∈ gtbl) ∧ (Cond.code Mp_clear.1 Mp_clear.2.1 Mp_clear.2.2.1 Mp_clear.2.2.2.1 ∈ gtbl) ∧ (Mp_clear.1.cls ≠ "java/lang/invoke/MethodHandle" ∧ Mp_clear.1.cls ≠ "java/lang/invoke/VarHandle" ∧ (parseMethodDescriptor Mp_clear.1.desc).map (fun d => d.parameters.length) = some 0) := ⟨k76, k462, by decide +kernel, by decide +kernel, by decide +kernel⟩
theorem k460 : Cond.instanceMethod yX4_clear ∈ gtbl := gm 460 (by decide +kernel)
theorem k461 : Cond.selects RX4 yX4_clear yX4_clear ∈ gtbl := gm 461 (by decide +kernel)
theorem k470 : Cond.code yX4_dropPipe cX4_dropPipe 1 none ∈ gtbl := gm 470 (by decide +kernel)
theorem ck_p_dropPipe : (Cond.initialized Mp_dropPipe.1.cls ∈ gtbl) ∧ (Cond.code Mp_dropPipe.1 Mp_dropPipe.2.1 Mp_dropPipe.2.2.1 Mp_dropPipe.2.2.2.1 ∈ gtbl) ∧ (Mp_dropPipe.1.cls ≠ "java/lang/invoke/MethodHandle" ∧ Mp_dropPipe.1.cls ≠ "java/lang/invoke/VarHandle" ∧ (parseMethodDescriptor Mp_dropPipe.1.desc).map (fun d => d.parameters.length) = some 0) := ⟨k76, k470, by decide +kernel, by decide +kernel, by decide +kernel⟩
theorem k468 : Cond.instanceMethod yX4_dropPipe ∈ gtbl := gm 468 (by decide +kernel)
theorem k469 : Cond.selects RX4 yX4_dropPipe yX4_dropPipe ∈ gtbl := gm 469 (by decide +kernel)
theorem k384 : Cond.code yX4_fits cX4_fits 3 (some .boolean) ∈ gtbl := gm 384 (by decide +kernel)
theorem ck_p_fits : (Cond.initialized Mp_fits.1.cls ∈ gtbl) ∧ (Cond.code Mp_fits.1 Mp_fits.2.1 Mp_fits.2.2.1 Mp_fits.2.2.2.1 ∈ gtbl) ∧ (Mp_fits.1.cls ≠ "java/lang/invoke/MethodHandle" ∧ Mp_fits.1.cls ≠ "java/lang/invoke/VarHandle" ∧ (parseMethodDescriptor Mp_fits.1.desc).map (fun d => d.parameters.length) = some 1) := ⟨k76, k384, by decide +kernel, by decide +kernel, by decide +kernel⟩
theorem k383 : Cond.instanceMethod yX4_fits ∈ gtbl := gm 383 (by decide +kernel)
theorem k0 : Cond.selects RX4 yX4_fits yX4_fits ∈ gtbl := gm 0 (by decide +kernel)
theorem k389 : Cond.code yX4_takeUp cX4_takeUp 3 none ∈ gtbl := gm 389 (by decide +kernel)
theorem ck_p_takeUp : (Cond.initialized Mp_takeUp.1.cls ∈ gtbl) ∧ (Cond.code Mp_takeUp.1 Mp_takeUp.2.1 Mp_takeUp.2.2.1 Mp_takeUp.2.2.2.1 ∈ gtbl) ∧ (Mp_takeUp.1.cls ≠ "java/lang/invoke/MethodHandle" ∧ Mp_takeUp.1.cls ≠ "java/lang/invoke/VarHandle" ∧ (parseMethodDescriptor Mp_takeUp.1.desc).map (fun d => d.parameters.length) = some 1) := ⟨k76, k389, by decide +kernel, by decide +kernel, by decide +kernel⟩
theorem k388 : Cond.instanceMethod yX4_takeUp ∈ gtbl := gm 388 (by decide +kernel)
theorem k1 : Cond.selects RX4 yX4_takeUp yX4_takeUp ∈ gtbl := gm 1 (by decide +kernel)
theorem k393 : Cond.code yX4_settle cX4_settle 2 none ∈ gtbl := gm 393 (by decide +kernel)
theorem ck_p_settle : (Cond.initialized Mp_settle.1.cls ∈ gtbl) ∧ (Cond.code Mp_settle.1 Mp_settle.2.1 Mp_settle.2.2.1 Mp_settle.2.2.2.1 ∈ gtbl) ∧ (Mp_settle.1.cls ≠ "java/lang/invoke/MethodHandle" ∧ Mp_settle.1.cls ≠ "java/lang/invoke/VarHandle" ∧ (parseMethodDescriptor Mp_settle.1.desc).map (fun d => d.parameters.length) = some 0) := ⟨k76, k393, by decide +kernel, by decide +kernel, by decide +kernel⟩
theorem k392 : Cond.instanceMethod yX4_settle ∈ gtbl := gm 392 (by decide +kernel)
theorem k2 : Cond.selects RX4 yX4_settle yX4_settle ∈ gtbl := gm 2 (by decide +kernel)
theorem k485 : Cond.code yX4_hasPipe cX4_hasPipe 2 (some .boolean) ∈ gtbl := gm 485 (by decide +kernel)
theorem ck_p_hasPipe : (Cond.initialized Mp_hasPipe.1.cls ∈ gtbl) ∧ (Cond.code Mp_hasPipe.1 Mp_hasPipe.2.1 Mp_hasPipe.2.2.1 Mp_hasPipe.2.2.2.1 ∈ gtbl) ∧ (Mp_hasPipe.1.cls ≠ "java/lang/invoke/MethodHandle" ∧ Mp_hasPipe.1.cls ≠ "java/lang/invoke/VarHandle" ∧ (parseMethodDescriptor Mp_hasPipe.1.desc).map (fun d => d.parameters.length) = some 1) := ⟨k76, k485, by decide +kernel, by decide +kernel, by decide +kernel⟩
theorem k483 : Cond.instanceMethod yX4_hasPipe ∈ gtbl := gm 483 (by decide +kernel)
theorem k484 : Cond.selects RX4 yX4_hasPipe yX4_hasPipe ∈ gtbl := gm 484 (by decide +kernel)
theorem k658 : Cond.code yX4_isShut cX4_isShut 2 (some .boolean) ∈ gtbl := gm 658 (by decide +kernel)
theorem ck_p_isShut : (Cond.initialized Mp_isShut.1.cls ∈ gtbl) ∧ (Cond.code Mp_isShut.1 Mp_isShut.2.1 Mp_isShut.2.2.1 Mp_isShut.2.2.2.1 ∈ gtbl) ∧ (Mp_isShut.1.cls ≠ "java/lang/invoke/MethodHandle" ∧ Mp_isShut.1.cls ≠ "java/lang/invoke/VarHandle" ∧ (parseMethodDescriptor Mp_isShut.1.desc).map (fun d => d.parameters.length) = some 1) := ⟨k76, k658, by decide +kernel, by decide +kernel, by decide +kernel⟩
theorem k656 : Cond.instanceMethod yX4_isShut ∈ gtbl := gm 656 (by decide +kernel)
theorem k657 : Cond.selects RX4 yX4_isShut yX4_isShut ∈ gtbl := gm 657 (by decide +kernel)
theorem k445 : Cond.code yX4_touches cX4_touches 3 (some .boolean) ∈ gtbl := gm 445 (by decide +kernel)
theorem ck_p_touches : (Cond.initialized Mp_touches.1.cls ∈ gtbl) ∧ (Cond.code Mp_touches.1 Mp_touches.2.1 Mp_touches.2.2.1 Mp_touches.2.2.2.1 ∈ gtbl) ∧ (Mp_touches.1.cls ≠ "java/lang/invoke/MethodHandle" ∧ Mp_touches.1.cls ≠ "java/lang/invoke/VarHandle" ∧ (parseMethodDescriptor Mp_touches.1.desc).map (fun d => d.parameters.length) = some 2) := ⟨k76, k445, by decide +kernel, by decide +kernel, by decide +kernel⟩
theorem k443 : Cond.instanceMethod yX4_touches ∈ gtbl := gm 443 (by decide +kernel)
theorem k444 : Cond.selects RX4 yX4_touches yX4_touches ∈ gtbl := gm 444 (by decide +kernel)
theorem k449 : Cond.code yX4_opposite cX4_opposite 3 (some .int) ∈ gtbl := gm 449 (by decide +kernel)
theorem ck_p_opposite : (Cond.initialized Mp_opposite.1.cls ∈ gtbl) ∧ (Cond.code Mp_opposite.1 Mp_opposite.2.1 Mp_opposite.2.2.1 Mp_opposite.2.2.2.1 ∈ gtbl) ∧ (Mp_opposite.1.cls ≠ "java/lang/invoke/MethodHandle" ∧ Mp_opposite.1.cls ≠ "java/lang/invoke/VarHandle" ∧ (parseMethodDescriptor Mp_opposite.1.desc).map (fun d => d.parameters.length) = some 2) := ⟨k76, k449, by decide +kernel, by decide +kernel, by decide +kernel⟩
theorem k447 : Cond.instanceMethod yX4_opposite ∈ gtbl := gm 447 (by decide +kernel)
theorem k448 : Cond.selects RX4 yX4_opposite yX4_opposite ∈ gtbl := gm 448 (by decide +kernel)
theorem k908 : Cond.code yX4_wholeLength cX4_wholeLength 3 (some .int) ∈ gtbl := gm 908 (by decide +kernel)
theorem ck_p_wholeLength : (Cond.initialized Mp_wholeLength.1.cls ∈ gtbl) ∧ (Cond.code Mp_wholeLength.1 Mp_wholeLength.2.1 Mp_wholeLength.2.2.1 Mp_wholeLength.2.2.2.1 ∈ gtbl) ∧ (Mp_wholeLength.1.cls ≠ "java/lang/invoke/MethodHandle" ∧ Mp_wholeLength.1.cls ≠ "java/lang/invoke/VarHandle" ∧ (parseMethodDescriptor Mp_wholeLength.1.desc).map (fun d => d.parameters.length) = some 0) := ⟨k76, k908, by decide +kernel, by decide +kernel, by decide +kernel⟩
theorem k906 : Cond.instanceMethod yX4_wholeLength ∈ gtbl := gm 906 (by decide +kernel)
theorem k907 : Cond.selects RX4 yX4_wholeLength yX4_wholeLength ∈ gtbl := gm 907 (by decide +kernel)
theorem k675 : Cond.code yX4_dampIn cX4_dampIn 4 (some .int) ∈ gtbl := gm 675 (by decide +kernel)
theorem ck_p_dampIn : (Cond.initialized Mp_dampIn.1.cls ∈ gtbl) ∧ (Cond.code Mp_dampIn.1 Mp_dampIn.2.1 Mp_dampIn.2.2.1 Mp_dampIn.2.2.2.1 ∈ gtbl) ∧ (Mp_dampIn.1.cls ≠ "java/lang/invoke/MethodHandle" ∧ Mp_dampIn.1.cls ≠ "java/lang/invoke/VarHandle" ∧ (parseMethodDescriptor Mp_dampIn.1.desc).map (fun d => d.parameters.length) = some 1) := ⟨k76, k675, by decide +kernel, by decide +kernel, by decide +kernel⟩
theorem k673 : Cond.instanceMethod yX4_dampIn ∈ gtbl := gm 673 (by decide +kernel)
theorem k674 : Cond.selects RX4 yX4_dampIn yX4_dampIn ∈ gtbl := gm 674 (by decide +kernel)
theorem k81 : Cond.initialized RX5 ∈ gtbl := gm 81 (by decide +kernel)
theorem k742 : Cond.code yX5_follow cX5_follow 4 none ∈ gtbl := gm 742 (by decide +kernel)
theorem ck_r_follow : (Cond.initialized Mr_follow.1.cls ∈ gtbl) ∧ (Cond.code Mr_follow.1 Mr_follow.2.1 Mr_follow.2.2.1 Mr_follow.2.2.2.1 ∈ gtbl) ∧ (Mr_follow.1.cls ≠ "java/lang/invoke/MethodHandle" ∧ Mr_follow.1.cls ≠ "java/lang/invoke/VarHandle" ∧ (parseMethodDescriptor Mr_follow.1.desc).map (fun d => d.parameters.length) = some 2) := ⟨k81, k742, by decide +kernel, by decide +kernel, by decide +kernel⟩
theorem k740 : Cond.instanceMethod yX5_follow ∈ gtbl := gm 740 (by decide +kernel)
theorem k741 : Cond.selects RX5 yX5_follow yX5_follow ∈ gtbl := gm 741 (by decide +kernel)
theorem k747 : Cond.code yX5_ring cX5_ring 4 none ∈ gtbl := gm 747 (by decide +kernel)
theorem ck_r_ring : (Cond.initialized Mr_ring.1.cls ∈ gtbl) ∧ (Cond.code Mr_ring.1 Mr_ring.2.1 Mr_ring.2.2.1 Mr_ring.2.2.2.1 ∈ gtbl) ∧ (Mr_ring.1.cls ≠ "java/lang/invoke/MethodHandle" ∧ Mr_ring.1.cls ≠ "java/lang/invoke/VarHandle" ∧ (parseMethodDescriptor Mr_ring.1.desc).map (fun d => d.parameters.length) = some 0) := ⟨k81, k747, by decide +kernel, by decide +kernel, by decide +kernel⟩
theorem k746 : Cond.instanceMethod yX5_ring ∈ gtbl := gm 746 (by decide +kernel)
theorem k24 : Cond.selects RX5 yX5_ring yX5_ring ∈ gtbl := gm 24 (by decide +kernel)
theorem k752 : Cond.code yX5_possibleEnds cX5_possibleEnds 3 (some .int) ∈ gtbl := gm 752 (by decide +kernel)
theorem ck_r_possibleEnds : (Cond.initialized Mr_possibleEnds.1.cls ∈ gtbl) ∧ (Cond.code Mr_possibleEnds.1 Mr_possibleEnds.2.1 Mr_possibleEnds.2.2.1 Mr_possibleEnds.2.2.2.1 ∈ gtbl) ∧ (Mr_possibleEnds.1.cls ≠ "java/lang/invoke/MethodHandle" ∧ Mr_possibleEnds.1.cls ≠ "java/lang/invoke/VarHandle" ∧ (parseMethodDescriptor Mr_possibleEnds.1.desc).map (fun d => d.parameters.length) = some 0) := ⟨k81, k752, by decide +kernel, by decide +kernel, by decide +kernel⟩
theorem k750 : Cond.instanceMethod yX5_possibleEnds ∈ gtbl := gm 750 (by decide +kernel)
theorem k751 : Cond.selects RX5 yX5_possibleEnds yX5_possibleEnds ∈ gtbl := gm 751 (by decide +kernel)
theorem k768 : Cond.code yX5_stroll cX5_stroll 8 (some .int) ∈ gtbl := gm 768 (by decide +kernel)
theorem ck_r_stroll : (Cond.initialized Mr_stroll.1.cls ∈ gtbl) ∧ (Cond.code Mr_stroll.1 Mr_stroll.2.1 Mr_stroll.2.2.1 Mr_stroll.2.2.2.1 ∈ gtbl) ∧ (Mr_stroll.1.cls ≠ "java/lang/invoke/MethodHandle" ∧ Mr_stroll.1.cls ≠ "java/lang/invoke/VarHandle" ∧ (parseMethodDescriptor Mr_stroll.1.desc).map (fun d => d.parameters.length) = some 3) := ⟨k81, k768, by decide +kernel, by decide +kernel, by decide +kernel⟩
theorem k766 : Cond.instanceMethod yX5_stroll ∈ gtbl := gm 766 (by decide +kernel)
theorem k767 : Cond.selects RX5 yX5_stroll yX5_stroll ∈ gtbl := gm 767 (by decide +kernel)
theorem k772 : Cond.code yX5_choicesAt cX5_choicesAt 4 (some .int) ∈ gtbl := gm 772 (by decide +kernel)
theorem ck_r_choicesAt : (Cond.initialized Mr_choicesAt.1.cls ∈ gtbl) ∧ (Cond.code Mr_choicesAt.1 Mr_choicesAt.2.1 Mr_choicesAt.2.2.1 Mr_choicesAt.2.2.2.1 ∈ gtbl) ∧ (Mr_choicesAt.1.cls ≠ "java/lang/invoke/MethodHandle" ∧ Mr_choicesAt.1.cls ≠ "java/lang/invoke/VarHandle" ∧ (parseMethodDescriptor Mr_choicesAt.1.desc).map (fun d => d.parameters.length) = some 1) := ⟨k81, k772, by decide +kernel, by decide +kernel, by decide +kernel⟩
theorem k771 : Cond.instanceMethod yX5_choicesAt ∈ gtbl := gm 771 (by decide +kernel)
theorem k25 : Cond.selects RX5 yX5_choicesAt yX5_choicesAt ∈ gtbl := gm 25 (by decide +kernel)
theorem k782 : Cond.code yX5_behindChoice cX5_behindChoice 5 (some .int) ∈ gtbl := gm 782 (by decide +kernel)
theorem ck_r_behindChoice : (Cond.initialized Mr_behindChoice.1.cls ∈ gtbl) ∧ (Cond.code Mr_behindChoice.1 Mr_behindChoice.2.1 Mr_behindChoice.2.2.1 Mr_behindChoice.2.2.2.1 ∈ gtbl) ∧ (Mr_behindChoice.1.cls ≠ "java/lang/invoke/MethodHandle" ∧ Mr_behindChoice.1.cls ≠ "java/lang/invoke/VarHandle" ∧ (parseMethodDescriptor Mr_behindChoice.1.desc).map (fun d => d.parameters.length) = some 2) := ⟨k81, k782, by decide +kernel, by decide +kernel, by decide +kernel⟩
theorem k781 : Cond.instanceMethod yX5_behindChoice ∈ gtbl := gm 781 (by decide +kernel)
theorem k27 : Cond.selects RX5 yX5_behindChoice yX5_behindChoice ∈ gtbl := gm 27 (by decide +kernel)
theorem k776 : Cond.code yX5_isChoice cX5_isChoice 3 (some .boolean) ∈ gtbl := gm 776 (by decide +kernel)
theorem ck_r_isChoice : (Cond.initialized Mr_isChoice.1.cls ∈ gtbl) ∧ (Cond.code Mr_isChoice.1 Mr_isChoice.2.1 Mr_isChoice.2.2.1 Mr_isChoice.2.2.2.1 ∈ gtbl) ∧ (Mr_isChoice.1.cls ≠ "java/lang/invoke/MethodHandle" ∧ Mr_isChoice.1.cls ≠ "java/lang/invoke/VarHandle" ∧ (parseMethodDescriptor Mr_isChoice.1.desc).map (fun d => d.parameters.length) = some 2) := ⟨k81, k776, by decide +kernel, by decide +kernel, by decide +kernel⟩
theorem k775 : Cond.instanceMethod yX5_isChoice ∈ gtbl := gm 775 (by decide +kernel)
theorem k26 : Cond.selects RX5 yX5_isChoice yX5_isChoice ∈ gtbl := gm 26 (by decide +kernel)
theorem k83 : Cond.initialized RX6 ∈ gtbl := gm 83 (by decide +kernel)
theorem k557 : Cond.code yX6_found cX6_found 2 (some .int) ∈ gtbl := gm 557 (by decide +kernel)
theorem ck_s_found : (Cond.initialized Ms_found.1.cls ∈ gtbl) ∧ (Cond.code Ms_found.1 Ms_found.2.1 Ms_found.2.2.1 Ms_found.2.2.2.1 ∈ gtbl) ∧ (Ms_found.1.cls ≠ "java/lang/invoke/MethodHandle" ∧ Ms_found.1.cls ≠ "java/lang/invoke/VarHandle" ∧ (parseMethodDescriptor Ms_found.1.desc).map (fun d => d.parameters.length) = some 1) := ⟨k83, k557, by decide +kernel, by decide +kernel, by decide +kernel⟩
theorem k555 : Cond.instanceMethod yX6_found ∈ gtbl := gm 555 (by decide +kernel)
theorem k556 : Cond.selects RX6 yX6_found yX6_found ∈ gtbl := gm 556 (by decide +kernel)
theorem k548 : Cond.code yX6_hasSheet cX6_hasSheet 2 (some .boolean) ∈ gtbl := gm 548 (by decide +kernel)
theorem ck_s_hasSheet : (Cond.initialized Ms_hasSheet.1.cls ∈ gtbl) ∧ (Cond.code Ms_hasSheet.1 Ms_hasSheet.2.1 Ms_hasSheet.2.2.1 Ms_hasSheet.2.2.2.1 ∈ gtbl) ∧ (Ms_hasSheet.1.cls ≠ "java/lang/invoke/MethodHandle" ∧ Ms_hasSheet.1.cls ≠ "java/lang/invoke/VarHandle" ∧ (parseMethodDescriptor Ms_hasSheet.1.desc).map (fun d => d.parameters.length) = some 1) := ⟨k83, k548, by decide +kernel, by decide +kernel, by decide +kernel⟩
theorem k546 : Cond.instanceMethod yX6_hasSheet ∈ gtbl := gm 546 (by decide +kernel)
theorem k547 : Cond.selects RX6 yX6_hasSheet yX6_hasSheet ∈ gtbl := gm 547 (by decide +kernel)
theorem k837 : Cond.code yX6_isForm cX6_isForm 2 (some .boolean) ∈ gtbl := gm 837 (by decide +kernel)
theorem ck_s_isForm : (Cond.initialized Ms_isForm.1.cls ∈ gtbl) ∧ (Cond.code Ms_isForm.1 Ms_isForm.2.1 Ms_isForm.2.2.1 Ms_isForm.2.2.2.1 ∈ gtbl) ∧ (Ms_isForm.1.cls ≠ "java/lang/invoke/MethodHandle" ∧ Ms_isForm.1.cls ≠ "java/lang/invoke/VarHandle" ∧ (parseMethodDescriptor Ms_isForm.1.desc).map (fun d => d.parameters.length) = some 1) := ⟨k83, k837, by decide +kernel, by decide +kernel, by decide +kernel⟩
theorem k835 : Cond.instanceMethod yX6_isForm ∈ gtbl := gm 835 (by decide +kernel)
theorem k836 : Cond.selects RX6 yX6_isForm yX6_isForm ∈ gtbl := gm 836 (by decide +kernel)
theorem k553 : Cond.code yX6_isLost cX6_isLost 2 (some .boolean) ∈ gtbl := gm 553 (by decide +kernel)
theorem ck_s_isLost : (Cond.initialized Ms_isLost.1.cls ∈ gtbl) ∧ (Cond.code Ms_isLost.1 Ms_isLost.2.1 Ms_isLost.2.2.1 Ms_isLost.2.2.2.1 ∈ gtbl) ∧ (Ms_isLost.1.cls ≠ "java/lang/invoke/MethodHandle" ∧ Ms_isLost.1.cls ≠ "java/lang/invoke/VarHandle" ∧ (parseMethodDescriptor Ms_isLost.1.desc).map (fun d => d.parameters.length) = some 1) := ⟨k83, k553, by decide +kernel, by decide +kernel, by decide +kernel⟩
theorem k551 : Cond.instanceMethod yX6_isLost ∈ gtbl := gm 551 (by decide +kernel)
theorem k552 : Cond.selects RX6 yX6_isLost yX6_isLost ∈ gtbl := gm 552 (by decide +kernel)
theorem k841 : Cond.code yX6_renew cX6_renew 5 none ∈ gtbl := gm 841 (by decide +kernel)
theorem ck_s_renew : (Cond.initialized Ms_renew.1.cls ∈ gtbl) ∧ (Cond.code Ms_renew.1 Ms_renew.2.1 Ms_renew.2.2.1 Ms_renew.2.2.2.1 ∈ gtbl) ∧ (Ms_renew.1.cls ≠ "java/lang/invoke/MethodHandle" ∧ Ms_renew.1.cls ≠ "java/lang/invoke/VarHandle" ∧ (parseMethodDescriptor Ms_renew.1.desc).map (fun d => d.parameters.length) = some 3) := ⟨k83, k841, by decide +kernel, by decide +kernel, by decide +kernel⟩
theorem k839 : Cond.instanceMethod yX6_renew ∈ gtbl := gm 839 (by decide +kernel)
theorem k840 : Cond.selects RX6 yX6_renew yX6_renew ∈ gtbl := gm 840 (by decide +kernel)
theorem k849 : Cond.code yX6_drop cX6_drop 2 none ∈ gtbl := gm 849 (by decide +kernel)
theorem ck_s_drop : (Cond.initialized Ms_drop.1.cls ∈ gtbl) ∧ (Cond.code Ms_drop.1 Ms_drop.2.1 Ms_drop.2.2.1 Ms_drop.2.2.2.1 ∈ gtbl) ∧ (Ms_drop.1.cls ≠ "java/lang/invoke/MethodHandle" ∧ Ms_drop.1.cls ≠ "java/lang/invoke/VarHandle" ∧ (parseMethodDescriptor Ms_drop.1.desc).map (fun d => d.parameters.length) = some 1) := ⟨k83, k849, by decide +kernel, by decide +kernel, by decide +kernel⟩
theorem k847 : Cond.instanceMethod yX6_drop ∈ gtbl := gm 847 (by decide +kernel)
theorem k848 : Cond.selects RX6 yX6_drop yX6_drop ∈ gtbl := gm 848 (by decide +kernel)
theorem k857 : Cond.code yX6_findingAt cX6_findingAt 4 (some .int) ∈ gtbl := gm 857 (by decide +kernel)
theorem ck_s_findingAt : (Cond.initialized Ms_findingAt.1.cls ∈ gtbl) ∧ (Cond.code Ms_findingAt.1 Ms_findingAt.2.1 Ms_findingAt.2.2.1 Ms_findingAt.2.2.2.1 ∈ gtbl) ∧ (Ms_findingAt.1.cls ≠ "java/lang/invoke/MethodHandle" ∧ Ms_findingAt.1.cls ≠ "java/lang/invoke/VarHandle" ∧ (parseMethodDescriptor Ms_findingAt.1.desc).map (fun d => d.parameters.length) = some 3) := ⟨k83, k857, by decide +kernel, by decide +kernel, by decide +kernel⟩
theorem k855 : Cond.instanceMethod yX6_findingAt ∈ gtbl := gm 855 (by decide +kernel)
theorem k856 : Cond.selects RX6 yX6_findingAt yX6_findingAt ∈ gtbl := gm 856 (by decide +kernel)
theorem k561 : Cond.code yX6_item cX6_item 3 (some .int) ∈ gtbl := gm 561 (by decide +kernel)
theorem ck_s_item : (Cond.initialized Ms_item.1.cls ∈ gtbl) ∧ (Cond.code Ms_item.1 Ms_item.2.1 Ms_item.2.2.1 Ms_item.2.2.2.1 ∈ gtbl) ∧ (Ms_item.1.cls ≠ "java/lang/invoke/MethodHandle" ∧ Ms_item.1.cls ≠ "java/lang/invoke/VarHandle" ∧ (parseMethodDescriptor Ms_item.1.desc).map (fun d => d.parameters.length) = some 2) := ⟨k83, k561, by decide +kernel, by decide +kernel, by decide +kernel⟩
theorem k559 : Cond.instanceMethod yX6_item ∈ gtbl := gm 559 (by decide +kernel)
theorem k560 : Cond.selects RX6 yX6_item yX6_item ∈ gtbl := gm 560 (by decide +kernel)
theorem k862 : Cond.code yX6_store cX6_store 4 none ∈ gtbl := gm 862 (by decide +kernel)
theorem ck_s_store : (Cond.initialized Ms_store.1.cls ∈ gtbl) ∧ (Cond.code Ms_store.1 Ms_store.2.1 Ms_store.2.2.1 Ms_store.2.2.2.1 ∈ gtbl) ∧ (Ms_store.1.cls ≠ "java/lang/invoke/MethodHandle" ∧ Ms_store.1.cls ≠ "java/lang/invoke/VarHandle" ∧ (parseMethodDescriptor Ms_store.1.desc).map (fun d => d.parameters.length) = some 3) := ⟨k83, k862, by decide +kernel, by decide +kernel, by decide +kernel⟩
theorem k860 : Cond.instanceMethod yX6_store ∈ gtbl := gm 860 (by decide +kernel)
theorem k861 : Cond.selects RX6 yX6_store yX6_store ∈ gtbl := gm 861 (by decide +kernel)
theorem k865 : Cond.code yX6_narrowed cX6_narrowed 2 (some .int) ∈ gtbl := gm 865 (by decide +kernel)
theorem ck_s_narrowed : (Cond.initialized Ms_narrowed.1.cls ∈ gtbl) ∧ (Cond.code Ms_narrowed.1 Ms_narrowed.2.1 Ms_narrowed.2.2.1 Ms_narrowed.2.2.2.1 ∈ gtbl) ∧ (Ms_narrowed.1.cls ≠ "java/lang/invoke/MethodHandle" ∧ Ms_narrowed.1.cls ≠ "java/lang/invoke/VarHandle" ∧ (parseMethodDescriptor Ms_narrowed.1.desc).map (fun d => d.parameters.length) = some 2) := ⟨k83, k865, by decide +kernel, by decide +kernel, by decide +kernel⟩
theorem k864 : Cond.static yX6_narrowed ∈ gtbl := gm 864 (by decide +kernel)
theorem k878 : Cond.code yX6_hasSpan cX6_hasSpan 4 (some .boolean) ∈ gtbl := gm 878 (by decide +kernel)
theorem ck_s_hasSpan : (Cond.initialized Ms_hasSpan.1.cls ∈ gtbl) ∧ (Cond.code Ms_hasSpan.1 Ms_hasSpan.2.1 Ms_hasSpan.2.2.1 Ms_hasSpan.2.2.2.1 ∈ gtbl) ∧ (Ms_hasSpan.1.cls ≠ "java/lang/invoke/MethodHandle" ∧ Ms_hasSpan.1.cls ≠ "java/lang/invoke/VarHandle" ∧ (parseMethodDescriptor Ms_hasSpan.1.desc).map (fun d => d.parameters.length) = some 3) := ⟨k83, k878, by decide +kernel, by decide +kernel, by decide +kernel⟩
theorem k876 : Cond.instanceMethod yX6_hasSpan ∈ gtbl := gm 876 (by decide +kernel)
theorem k877 : Cond.selects RX6 yX6_hasSpan yX6_hasSpan ∈ gtbl := gm 877 (by decide +kernel)
theorem k882 : Cond.code yX6_move cX6_move 6 none ∈ gtbl := gm 882 (by decide +kernel)
theorem ck_s_move : (Cond.initialized Ms_move.1.cls ∈ gtbl) ∧ (Cond.code Ms_move.1 Ms_move.2.1 Ms_move.2.2.1 Ms_move.2.2.2.1 ∈ gtbl) ∧ (Ms_move.1.cls ≠ "java/lang/invoke/MethodHandle" ∧ Ms_move.1.cls ≠ "java/lang/invoke/VarHandle" ∧ (parseMethodDescriptor Ms_move.1.desc).map (fun d => d.parameters.length) = some 5) := ⟨k83, k882, by decide +kernel, by decide +kernel, by decide +kernel⟩
theorem k880 : Cond.instanceMethod yX6_move ∈ gtbl := gm 880 (by decide +kernel)
theorem k881 : Cond.selects RX6 yX6_move yX6_move ∈ gtbl := gm 881 (by decide +kernel)
theorem k77 : Cond.initialized RX7 ∈ gtbl := gm 77 (by decide +kernel)
theorem k433 : Cond.code yX7_isOpen cX7_isOpen 2 (some .boolean) ∈ gtbl := gm 433 (by decide +kernel)
theorem ck_w_isOpen : (Cond.initialized Mw_isOpen.1.cls ∈ gtbl) ∧ (Cond.code Mw_isOpen.1 Mw_isOpen.2.1 Mw_isOpen.2.2.1 Mw_isOpen.2.2.2.1 ∈ gtbl) ∧ (Mw_isOpen.1.cls ≠ "java/lang/invoke/MethodHandle" ∧ Mw_isOpen.1.cls ≠ "java/lang/invoke/VarHandle" ∧ (parseMethodDescriptor Mw_isOpen.1.desc).map (fun d => d.parameters.length) = some 1) := ⟨k77, k433, by decide +kernel, by decide +kernel, by decide +kernel⟩
theorem k431 : Cond.instanceMethod yX7_isOpen ∈ gtbl := gm 431 (by decide +kernel)
theorem k432 : Cond.selects RX7 yX7_isOpen yX7_isOpen ∈ gtbl := gm 432 (by decide +kernel)
theorem k424 : Cond.code yX7_find cX7_find 6 (some .boolean) ∈ gtbl := gm 424 (by decide +kernel)
theorem ck_w_find : (Cond.initialized Mw_find.1.cls ∈ gtbl) ∧ (Cond.code Mw_find.1 Mw_find.2.1 Mw_find.2.2.1 Mw_find.2.2.2.1 ∈ gtbl) ∧ (Mw_find.1.cls ≠ "java/lang/invoke/MethodHandle" ∧ Mw_find.1.cls ≠ "java/lang/invoke/VarHandle" ∧ (parseMethodDescriptor Mw_find.1.desc).map (fun d => d.parameters.length) = some 2) := ⟨k77, k424, by decide +kernel, by decide +kernel, by decide +kernel⟩
theorem k422 : Cond.instanceMethod yX7_find ∈ gtbl := gm 422 (by decide +kernel)
theorem k423 : Cond.selects RX7 yX7_find yX7_find ∈ gtbl := gm 423 (by decide +kernel)
theorem k428 : Cond.code yX7_measure cX7_measure 5 none ∈ gtbl := gm 428 (by decide +kernel)
theorem ck_w_measure : (Cond.initialized Mw_measure.1.cls ∈ gtbl) ∧ (Cond.code Mw_measure.1 Mw_measure.2.1 Mw_measure.2.2.1 Mw_measure.2.2.2.1 ∈ gtbl) ∧ (Mw_measure.1.cls ≠ "java/lang/invoke/MethodHandle" ∧ Mw_measure.1.cls ≠ "java/lang/invoke/VarHandle" ∧ (parseMethodDescriptor Mw_measure.1.desc).map (fun d => d.parameters.length) = some 1) := ⟨k77, k428, by decide +kernel, by decide +kernel, by decide +kernel⟩
theorem k427 : Cond.instanceMethod yX7_measure ∈ gtbl := gm 427 (by decide +kernel)
theorem k6 : Cond.selects RX7 yX7_measure yX7_measure ∈ gtbl := gm 6 (by decide +kernel)
theorem k437 : Cond.code yX7_shorten cX7_shorten 5 (some .boolean) ∈ gtbl := gm 437 (by decide +kernel)
theorem ck_w_shorten : (Cond.initialized Mw_shorten.1.cls ∈ gtbl) ∧ (Cond.code Mw_shorten.1 Mw_shorten.2.1 Mw_shorten.2.2.1 Mw_shorten.2.2.2.1 ∈ gtbl) ∧ (Mw_shorten.1.cls ≠ "java/lang/invoke/MethodHandle" ∧ Mw_shorten.1.cls ≠ "java/lang/invoke/VarHandle" ∧ (parseMethodDescriptor Mw_shorten.1.desc).map (fun d => d.parameters.length) = some 1) := ⟨k77, k437, by decide +kernel, by decide +kernel, by decide +kernel⟩
theorem k436 : Cond.instanceMethod yX7_shorten ∈ gtbl := gm 436 (by decide +kernel)
theorem k7 : Cond.selects RX7 yX7_shorten yX7_shorten ∈ gtbl := gm 7 (by decide +kernel)
theorem k441 : Cond.code yX7_leastOnward cX7_leastOnward 3 (some .int) ∈ gtbl := gm 441 (by decide +kernel)
theorem ck_w_leastOnward : (Cond.initialized Mw_leastOnward.1.cls ∈ gtbl) ∧ (Cond.code Mw_leastOnward.1 Mw_leastOnward.2.1 Mw_leastOnward.2.2.1 Mw_leastOnward.2.2.2.1 ∈ gtbl) ∧ (Mw_leastOnward.1.cls ≠ "java/lang/invoke/MethodHandle" ∧ Mw_leastOnward.1.cls ≠ "java/lang/invoke/VarHandle" ∧ (parseMethodDescriptor Mw_leastOnward.1.desc).map (fun d => d.parameters.length) = some 1) := ⟨k77, k441, by decide +kernel, by decide +kernel, by decide +kernel⟩
theorem k440 : Cond.instanceMethod yX7_leastOnward ∈ gtbl := gm 440 (by decide +kernel)
theorem k8 : Cond.selects RX7 yX7_leastOnward yX7_leastOnward ∈ gtbl := gm 8 (by decide +kernel)
theorem k618 : Cond.code yX7_rowLength cX7_rowLength 3 (some .int) ∈ gtbl := gm 618 (by decide +kernel)
theorem ck_w_rowLength : (Cond.initialized Mw_rowLength.1.cls ∈ gtbl) ∧ (Cond.code Mw_rowLength.1 Mw_rowLength.2.1 Mw_rowLength.2.2.1 Mw_rowLength.2.2.2.1 ∈ gtbl) ∧ (Mw_rowLength.1.cls ≠ "java/lang/invoke/MethodHandle" ∧ Mw_rowLength.1.cls ≠ "java/lang/invoke/VarHandle" ∧ (parseMethodDescriptor Mw_rowLength.1.desc).map (fun d => d.parameters.length) = some 0) := ⟨k77, k618, by decide +kernel, by decide +kernel, by decide +kernel⟩
theorem k616 : Cond.instanceMethod yX7_rowLength ∈ gtbl := gm 616 (by decide +kernel)
theorem k617 : Cond.selects RX7 yX7_rowLength yX7_rowLength ∈ gtbl := gm 617 (by decide +kernel)
theorem k453 : Cond.code yX7_rowBits cX7_rowBits 3 (some .int) ∈ gtbl := gm 453 (by decide +kernel)
theorem ck_w_rowBits : (Cond.initialized Mw_rowBits.1.cls ∈ gtbl) ∧ (Cond.code Mw_rowBits.1 Mw_rowBits.2.1 Mw_rowBits.2.2.1 Mw_rowBits.2.2.2.1 ∈ gtbl) ∧ (Mw_rowBits.1.cls ≠ "java/lang/invoke/MethodHandle" ∧ Mw_rowBits.1.cls ≠ "java/lang/invoke/VarHandle" ∧ (parseMethodDescriptor Mw_rowBits.1.desc).map (fun d => d.parameters.length) = some 0) := ⟨k77, k453, by decide +kernel, by decide +kernel, by decide +kernel⟩
theorem k451 : Cond.instanceMethod yX7_rowBits ∈ gtbl := gm 451 (by decide +kernel)
theorem k452 : Cond.selects RX7 yX7_rowBits yX7_rowBits ∈ gtbl := gm 452 (by decide +kernel)
theorem k638 : Cond.code yX7_drawAlongRow cX7_drawAlongRow 3 none ∈ gtbl := gm 638 (by decide +kernel)
theorem ck_w_drawAlongRow : (Cond.initialized Mw_drawAlongRow.1.cls ∈ gtbl) ∧ (Cond.code Mw_drawAlongRow.1 Mw_drawAlongRow.2.1 Mw_drawAlongRow.2.2.1 Mw_drawAlongRow.2.2.2.1 ∈ gtbl) ∧ (Mw_drawAlongRow.1.cls ≠ "java/lang/invoke/MethodHandle" ∧ Mw_drawAlongRow.1.cls ≠ "java/lang/invoke/VarHandle" ∧ (parseMethodDescriptor Mw_drawAlongRow.1.desc).map (fun d => d.parameters.length) = some 1) := ⟨k77, k638, by decide +kernel, by decide +kernel, by decide +kernel⟩
theorem k636 : Cond.instanceMethod yX7_drawAlongRow ∈ gtbl := gm 636 (by decide +kernel)
theorem k637 : Cond.selects RX7 yX7_drawAlongRow yX7_drawAlongRow ∈ gtbl := gm 637 (by decide +kernel)
theorem k626 : Cond.code yX7_drawAll cX7_drawAll 6 (some .int) ∈ gtbl := gm 626 (by decide +kernel)
theorem ck_w_drawAll : (Cond.initialized Mw_drawAll.1.cls ∈ gtbl) ∧ (Cond.code Mw_drawAll.1 Mw_drawAll.2.1 Mw_drawAll.2.2.1 Mw_drawAll.2.2.2.1 ∈ gtbl) ∧ (Mw_drawAll.1.cls ≠ "java/lang/invoke/MethodHandle" ∧ Mw_drawAll.1.cls ≠ "java/lang/invoke/VarHandle" ∧ (parseMethodDescriptor Mw_drawAll.1.desc).map (fun d => d.parameters.length) = some 2) := ⟨k77, k626, by decide +kernel, by decide +kernel, by decide +kernel⟩
theorem k624 : Cond.instanceMethod yX7_drawAll ∈ gtbl := gm 624 (by decide +kernel)
theorem k625 : Cond.selects RX7 yX7_drawAll yX7_drawAll ∈ gtbl := gm 625 (by decide +kernel)
theorem k631 : Cond.code yX7_roomInRow cX7_roomInRow 3 (some .int) ∈ gtbl := gm 631 (by decide +kernel)
theorem ck_w_roomInRow : (Cond.initialized Mw_roomInRow.1.cls ∈ gtbl) ∧ (Cond.code Mw_roomInRow.1 Mw_roomInRow.2.1 Mw_roomInRow.2.2.1 Mw_roomInRow.2.2.2.1 ∈ gtbl) ∧ (Mw_roomInRow.1.cls ≠ "java/lang/invoke/MethodHandle" ∧ Mw_roomInRow.1.cls ≠ "java/lang/invoke/VarHandle" ∧ (parseMethodDescriptor Mw_roomInRow.1.desc).map (fun d => d.parameters.length) = some 0) := ⟨k77, k631, by decide +kernel, by decide +kernel, by decide +kernel⟩
theorem k630 : Cond.instanceMethod yX7_roomInRow ∈ gtbl := gm 630 (by decide +kernel)
theorem k15 : Cond.selects RX7 yX7_roomInRow yX7_roomInRow ∈ gtbl := gm 15 (by decide +kernel)
theorem k728 : Cond.code yX7_reachedFrom cX7_reachedFrom 7 (some .int) ∈ gtbl := gm 728 (by decide +kernel)
theorem ck_w_reachedFrom : (Cond.initialized Mw_reachedFrom.1.cls ∈ gtbl) ∧ (Cond.code Mw_reachedFrom.1 Mw_reachedFrom.2.1 Mw_reachedFrom.2.2.1 Mw_reachedFrom.2.2.2.1 ∈ gtbl) ∧ (Mw_reachedFrom.1.cls ≠ "java/lang/invoke/MethodHandle" ∧ Mw_reachedFrom.1.cls ≠ "java/lang/invoke/VarHandle" ∧ (parseMethodDescriptor Mw_reachedFrom.1.desc).map (fun d => d.parameters.length) = some 1) := ⟨k77, k728, by decide +kernel, by decide +kernel, by decide +kernel⟩
theorem k726 : Cond.instanceMethod yX7_reachedFrom ∈ gtbl := gm 726 (by decide +kernel)
theorem k727 : Cond.selects RX7 yX7_reachedFrom yX7_reachedFrom ∈ gtbl := gm 727 (by decide +kernel)
theorem k75 : Cond.initialized RX8 ∈ gtbl := gm 75 (by decide +kernel)
theorem k373 : Cond.code yX8_type cX8_type 2 (some .int) ∈ gtbl := gm 373 (by decide +kernel)
theorem ck_x_type : (Cond.initialized Mx_type.1.cls ∈ gtbl) ∧ (Cond.code Mx_type.1 Mx_type.2.1 Mx_type.2.2.1 Mx_type.2.2.2.1 ∈ gtbl) ∧ (Mx_type.1.cls ≠ "java/lang/invoke/MethodHandle" ∧ Mx_type.1.cls ≠ "java/lang/invoke/VarHandle" ∧ (parseMethodDescriptor Mx_type.1.desc).map (fun d => d.parameters.length) = some 1) := ⟨k75, k373, by decide +kernel, by decide +kernel, by decide +kernel⟩
theorem k371 : Cond.instanceMethod yX8_type ∈ gtbl := gm 371 (by decide +kernel)
theorem k372 : Cond.selects RX8 yX8_type yX8_type ∈ gtbl := gm 372 (by decide +kernel)
theorem k458 : Cond.code yX8_wipe cX8_wipe 2 (some .int) ∈ gtbl := gm 458 (by decide +kernel)
theorem ck_x_wipe : (Cond.initialized Mx_wipe.1.cls ∈ gtbl) ∧ (Cond.code Mx_wipe.1 Mx_wipe.2.1 Mx_wipe.2.2.1 Mx_wipe.2.2.2.1 ∈ gtbl) ∧ (Mx_wipe.1.cls ≠ "java/lang/invoke/MethodHandle" ∧ Mx_wipe.1.cls ≠ "java/lang/invoke/VarHandle" ∧ (parseMethodDescriptor Mx_wipe.1.desc).map (fun d => d.parameters.length) = some 0) := ⟨k75, k458, by decide +kernel, by decide +kernel, by decide +kernel⟩
theorem k456 : Cond.instanceMethod yX8_wipe ∈ gtbl := gm 456 (by decide +kernel)
theorem k457 : Cond.selects RX8 yX8_wipe yX8_wipe ∈ gtbl := gm 457 (by decide +kernel)
theorem k466 : Cond.code yX8_undo cX8_undo 1 (some .int) ∈ gtbl := gm 466 (by decide +kernel)
theorem ck_x_undo : (Cond.initialized Mx_undo.1.cls ∈ gtbl) ∧ (Cond.code Mx_undo.1 Mx_undo.2.1 Mx_undo.2.2.1 Mx_undo.2.2.2.1 ∈ gtbl) ∧ (Mx_undo.1.cls ≠ "java/lang/invoke/MethodHandle" ∧ Mx_undo.1.cls ≠ "java/lang/invoke/VarHandle" ∧ (parseMethodDescriptor Mx_undo.1.desc).map (fun d => d.parameters.length) = some 0) := ⟨k75, k466, by decide +kernel, by decide +kernel, by decide +kernel⟩
theorem k464 : Cond.instanceMethod yX8_undo ∈ gtbl := gm 464 (by decide +kernel)
theorem k465 : Cond.selects RX8 yX8_undo yX8_undo ∈ gtbl := gm 465 (by decide +kernel)
theorem k477 : Cond.code yX8_fault cX8_fault 1 (some .int) ∈ gtbl := gm 477 (by decide +kernel)
theorem ck_x_fault : (Cond.initialized Mx_fault.1.cls ∈ gtbl) ∧ (Cond.code Mx_fault.1 Mx_fault.2.1 Mx_fault.2.2.1 Mx_fault.2.2.2.1 ∈ gtbl) ∧ (Mx_fault.1.cls ≠ "java/lang/invoke/MethodHandle" ∧ Mx_fault.1.cls ≠ "java/lang/invoke/VarHandle" ∧ (parseMethodDescriptor Mx_fault.1.desc).map (fun d => d.parameters.length) = some 0) := ⟨k75, k477, by decide +kernel, by decide +kernel, by decide +kernel⟩
theorem k475 : Cond.instanceMethod yX8_fault ∈ gtbl := gm 475 (by decide +kernel)
theorem k476 : Cond.selects RX8 yX8_fault yX8_fault ∈ gtbl := gm 476 (by decide +kernel)
theorem k481 : Cond.code yX8_pipe cX8_pipe 3 (some .int) ∈ gtbl := gm 481 (by decide +kernel)
theorem ck_x_pipe : (Cond.initialized Mx_pipe.1.cls ∈ gtbl) ∧ (Cond.code Mx_pipe.1 Mx_pipe.2.1 Mx_pipe.2.2.1 Mx_pipe.2.2.2.1 ∈ gtbl) ∧ (Mx_pipe.1.cls ≠ "java/lang/invoke/MethodHandle" ∧ Mx_pipe.1.cls ≠ "java/lang/invoke/VarHandle" ∧ (parseMethodDescriptor Mx_pipe.1.desc).map (fun d => d.parameters.length) = some 2) := ⟨k75, k481, by decide +kernel, by decide +kernel, by decide +kernel⟩
theorem k479 : Cond.instanceMethod yX8_pipe ∈ gtbl := gm 479 (by decide +kernel)
theorem k480 : Cond.selects RX8 yX8_pipe yX8_pipe ∈ gtbl := gm 480 (by decide +kernel)
theorem k497 : Cond.code yX8_set cX8_set 3 (some .int) ∈ gtbl := gm 497 (by decide +kernel)
theorem ck_x_set : (Cond.initialized Mx_set.1.cls ∈ gtbl) ∧ (Cond.code Mx_set.1 Mx_set.2.1 Mx_set.2.2.1 Mx_set.2.2.2.1 ∈ gtbl) ∧ (Mx_set.1.cls ≠ "java/lang/invoke/MethodHandle" ∧ Mx_set.1.cls ≠ "java/lang/invoke/VarHandle" ∧ (parseMethodDescriptor Mx_set.1.desc).map (fun d => d.parameters.length) = some 2) := ⟨k75, k497, by decide +kernel, by decide +kernel, by decide +kernel⟩
theorem k495 : Cond.instanceMethod yX8_set ∈ gtbl := gm 495 (by decide +kernel)
theorem k496 : Cond.selects RX8 yX8_set yX8_set ∈ gtbl := gm 496 (by decide +kernel)
theorem k502 : Cond.code yX8_setShut cX8_setShut 3 (some .int) ∈ gtbl := gm 502 (by decide +kernel)
theorem ck_x_setShut : (Cond.initialized Mx_setShut.1.cls ∈ gtbl) ∧ (Cond.code Mx_setShut.1 Mx_setShut.2.1 Mx_setShut.2.2.1 Mx_setShut.2.2.2.1 ∈ gtbl) ∧ (Mx_setShut.1.cls ≠ "java/lang/invoke/MethodHandle" ∧ Mx_setShut.1.cls ≠ "java/lang/invoke/VarHandle" ∧ (parseMethodDescriptor Mx_setShut.1.desc).map (fun d => d.parameters.length) = some 1) := ⟨k75, k502, by decide +kernel, by decide +kernel, by decide +kernel⟩
theorem k501 : Cond.instanceMethod yX8_setShut ∈ gtbl := gm 501 (by decide +kernel)
theorem k9 : Cond.selects RX8 yX8_setShut yX8_setShut ∈ gtbl := gm 9 (by decide +kernel)
theorem k506 : Cond.code yX8_setTakes cX8_setTakes 3 (some .int) ∈ gtbl := gm 506 (by decide +kernel)
theorem ck_x_setTakes : (Cond.initialized Mx_setTakes.1.cls ∈ gtbl) ∧ (Cond.code Mx_setTakes.1 Mx_setTakes.2.1 Mx_setTakes.2.2.1 Mx_setTakes.2.2.2.1 ∈ gtbl) ∧ (Mx_setTakes.1.cls ≠ "java/lang/invoke/MethodHandle" ∧ Mx_setTakes.1.cls ≠ "java/lang/invoke/VarHandle" ∧ (parseMethodDescriptor Mx_setTakes.1.desc).map (fun d => d.parameters.length) = some 1) := ⟨k75, k506, by decide +kernel, by decide +kernel, by decide +kernel⟩
theorem k505 : Cond.instanceMethod yX8_setTakes ∈ gtbl := gm 505 (by decide +kernel)
theorem k10 : Cond.selects RX8 yX8_setTakes yX8_setTakes ∈ gtbl := gm 10 (by decide +kernel)
theorem k510 : Cond.code yX8_setHard cX8_setHard 3 (some .int) ∈ gtbl := gm 510 (by decide +kernel)
theorem ck_x_setHard : (Cond.initialized Mx_setHard.1.cls ∈ gtbl) ∧ (Cond.code Mx_setHard.1 Mx_setHard.2.1 Mx_setHard.2.2.1 Mx_setHard.2.2.2.1 ∈ gtbl) ∧ (Mx_setHard.1.cls ≠ "java/lang/invoke/MethodHandle" ∧ Mx_setHard.1.cls ≠ "java/lang/invoke/VarHandle" ∧ (parseMethodDescriptor Mx_setHard.1.desc).map (fun d => d.parameters.length) = some 1) := ⟨k75, k510, by decide +kernel, by decide +kernel, by decide +kernel⟩
theorem k509 : Cond.instanceMethod yX8_setHard ∈ gtbl := gm 509 (by decide +kernel)
theorem k11 : Cond.selects RX8 yX8_setHard yX8_setHard ∈ gtbl := gm 11 (by decide +kernel)
theorem k514 : Cond.code yX8_letIn cX8_letIn 3 (some .int) ∈ gtbl := gm 514 (by decide +kernel)
theorem ck_x_letIn : (Cond.initialized Mx_letIn.1.cls ∈ gtbl) ∧ (Cond.code Mx_letIn.1 Mx_letIn.2.1 Mx_letIn.2.2.1 Mx_letIn.2.2.2.1 ∈ gtbl) ∧ (Mx_letIn.1.cls ≠ "java/lang/invoke/MethodHandle" ∧ Mx_letIn.1.cls ≠ "java/lang/invoke/VarHandle" ∧ (parseMethodDescriptor Mx_letIn.1.desc).map (fun d => d.parameters.length) = some 2) := ⟨k75, k514, by decide +kernel, by decide +kernel, by decide +kernel⟩
theorem k512 : Cond.instanceMethod yX8_letIn ∈ gtbl := gm 512 (by decide +kernel)
theorem k513 : Cond.selects RX8 yX8_letIn yX8_letIn ∈ gtbl := gm 513 (by decide +kernel)
theorem k529 : Cond.code yX8_pull cX8_pull 2 (some .int) ∈ gtbl := gm 529 (by decide +kernel)
theorem ck_x_pull : (Cond.initialized Mx_pull.1.cls ∈ gtbl) ∧ (Cond.code Mx_pull.1 Mx_pull.2.1 Mx_pull.2.2.1 Mx_pull.2.2.2.1 ∈ gtbl) ∧ (Mx_pull.1.cls ≠ "java/lang/invoke/MethodHandle" ∧ Mx_pull.1.cls ≠ "java/lang/invoke/VarHandle" ∧ (parseMethodDescriptor Mx_pull.1.desc).map (fun d => d.parameters.length) = some 1) := ⟨k75, k529, by decide +kernel, by decide +kernel, by decide +kernel⟩
theorem k527 : Cond.instanceMethod yX8_pull ∈ gtbl := gm 527 (by decide +kernel)
theorem k528 : Cond.selects RX8 yX8_pull yX8_pull ∈ gtbl := gm 528 (by decide +kernel)
theorem k536 : Cond.code yX8_back cX8_back 1 (some .int) ∈ gtbl := gm 536 (by decide +kernel)
theorem ck_x_back : (Cond.initialized Mx_back.1.cls ∈ gtbl) ∧ (Cond.code Mx_back.1 Mx_back.2.1 Mx_back.2.2.1 Mx_back.2.2.2.1 ∈ gtbl) ∧ (Mx_back.1.cls ≠ "java/lang/invoke/MethodHandle" ∧ Mx_back.1.cls ≠ "java/lang/invoke/VarHandle" ∧ (parseMethodDescriptor Mx_back.1.desc).map (fun d => d.parameters.length) = some 0) := ⟨k75, k536, by decide +kernel, by decide +kernel, by decide +kernel⟩
theorem k534 : Cond.instanceMethod yX8_back ∈ gtbl := gm 534 (by decide +kernel)
theorem k535 : Cond.selects RX8 yX8_back yX8_back ∈ gtbl := gm 535 (by decide +kernel)
theorem k544 : Cond.code yX8_read cX8_read 6 (some .int) ∈ gtbl := gm 544 (by decide +kernel)
theorem ck_x_read : (Cond.initialized Mx_read.1.cls ∈ gtbl) ∧ (Cond.code Mx_read.1 Mx_read.2.1 Mx_read.2.2.1 Mx_read.2.2.2.1 ∈ gtbl) ∧ (Mx_read.1.cls ≠ "java/lang/invoke/MethodHandle" ∧ Mx_read.1.cls ≠ "java/lang/invoke/VarHandle" ∧ (parseMethodDescriptor Mx_read.1.desc).map (fun d => d.parameters.length) = some 1) := ⟨k75, k544, by decide +kernel, by decide +kernel, by decide +kernel⟩
theorem k542 : Cond.instanceMethod yX8_read ∈ gtbl := gm 542 (by decide +kernel)
theorem k543 : Cond.selects RX8 yX8_read yX8_read ∈ gtbl := gm 543 (by decide +kernel)
theorem k565 : Cond.code yX8_judged cX8_judged 1 (some .int) ∈ gtbl := gm 565 (by decide +kernel)
theorem ck_x_judged : (Cond.initialized Mx_judged.1.cls ∈ gtbl) ∧ (Cond.code Mx_judged.1 Mx_judged.2.1 Mx_judged.2.2.1 Mx_judged.2.2.2.1 ∈ gtbl) ∧ (Mx_judged.1.cls ≠ "java/lang/invoke/MethodHandle" ∧ Mx_judged.1.cls ≠ "java/lang/invoke/VarHandle" ∧ (parseMethodDescriptor Mx_judged.1.desc).map (fun d => d.parameters.length) = some 0) := ⟨k75, k565, by decide +kernel, by decide +kernel, by decide +kernel⟩
theorem k563 : Cond.instanceMethod yX8_judged ∈ gtbl := gm 563 (by decide +kernel)
theorem k564 : Cond.selects RX8 yX8_judged yX8_judged ∈ gtbl := gm 564 (by decide +kernel)
theorem k577 : Cond.code yX8_state cX8_state 3 (some .int) ∈ gtbl := gm 577 (by decide +kernel)
theorem ck_x_state : (Cond.initialized Mx_state.1.cls ∈ gtbl) ∧ (Cond.code Mx_state.1 Mx_state.2.1 Mx_state.2.2.1 Mx_state.2.2.2.1 ∈ gtbl) ∧ (Mx_state.1.cls ≠ "java/lang/invoke/MethodHandle" ∧ Mx_state.1.cls ≠ "java/lang/invoke/VarHandle" ∧ (parseMethodDescriptor Mx_state.1.desc).map (fun d => d.parameters.length) = some 2) := ⟨k75, k577, by decide +kernel, by decide +kernel, by decide +kernel⟩
theorem k575 : Cond.instanceMethod yX8_state ∈ gtbl := gm 575 (by decide +kernel)
theorem k576 : Cond.selects RX8 yX8_state yX8_state ∈ gtbl := gm 576 (by decide +kernel)
theorem k590 : Cond.code yX8_wire cX8_wire 3 (some .int) ∈ gtbl := gm 590 (by decide +kernel)
theorem ck_x_wire : (Cond.initialized Mx_wire.1.cls ∈ gtbl) ∧ (Cond.code Mx_wire.1 Mx_wire.2.1 Mx_wire.2.2.1 Mx_wire.2.2.2.1 ∈ gtbl) ∧ (Mx_wire.1.cls ≠ "java/lang/invoke/MethodHandle" ∧ Mx_wire.1.cls ≠ "java/lang/invoke/VarHandle" ∧ (parseMethodDescriptor Mx_wire.1.desc).map (fun d => d.parameters.length) = some 2) := ⟨k75, k590, by decide +kernel, by decide +kernel, by decide +kernel⟩
theorem k588 : Cond.instanceMethod yX8_wire ∈ gtbl := gm 588 (by decide +kernel)
theorem k589 : Cond.selects RX8 yX8_wire yX8_wire ∈ gtbl := gm 589 (by decide +kernel)
theorem k595 : Cond.code yX8_out cX8_out 2 (some .int) ∈ gtbl := gm 595 (by decide +kernel)
theorem ck_x_out : (Cond.initialized Mx_out.1.cls ∈ gtbl) ∧ (Cond.code Mx_out.1 Mx_out.2.1 Mx_out.2.2.1 Mx_out.2.2.2.1 ∈ gtbl) ∧ (Mx_out.1.cls ≠ "java/lang/invoke/MethodHandle" ∧ Mx_out.1.cls ≠ "java/lang/invoke/VarHandle" ∧ (parseMethodDescriptor Mx_out.1.desc).map (fun d => d.parameters.length) = some 1) := ⟨k75, k595, by decide +kernel, by decide +kernel, by decide +kernel⟩
theorem k593 : Cond.instanceMethod yX8_out ∈ gtbl := gm 593 (by decide +kernel)
theorem k594 : Cond.selects RX8 yX8_out yX8_out ∈ gtbl := gm 594 (by decide +kernel)
theorem k605 : Cond.code yX8_shortest cX8_shortest 4 (some .int) ∈ gtbl := gm 605 (by decide +kernel)
theorem ck_x_shortest : (Cond.initialized Mx_shortest.1.cls ∈ gtbl) ∧ (Cond.code Mx_shortest.1 Mx_shortest.2.1 Mx_shortest.2.2.1 Mx_shortest.2.2.2.1 ∈ gtbl) ∧ (Mx_shortest.1.cls ≠ "java/lang/invoke/MethodHandle" ∧ Mx_shortest.1.cls ≠ "java/lang/invoke/VarHandle" ∧ (parseMethodDescriptor Mx_shortest.1.desc).map (fun d => d.parameters.length) = some 3) := ⟨k75, k605, by decide +kernel, by decide +kernel, by decide +kernel⟩
theorem k603 : Cond.instanceMethod yX8_shortest ∈ gtbl := gm 603 (by decide +kernel)
theorem k604 : Cond.selects RX8 yX8_shortest yX8_shortest ∈ gtbl := gm 604 (by decide +kernel)
theorem k622 : Cond.code yX8_most cX8_most 4 (some .int) ∈ gtbl := gm 622 (by decide +kernel)
theorem ck_x_most : (Cond.initialized Mx_most.1.cls ∈ gtbl) ∧ (Cond.code Mx_most.1 Mx_most.2.1 Mx_most.2.2.1 Mx_most.2.2.2.1 ∈ gtbl) ∧ (Mx_most.1.cls ≠ "java/lang/invoke/MethodHandle" ∧ Mx_most.1.cls ≠ "java/lang/invoke/VarHandle" ∧ (parseMethodDescriptor Mx_most.1.desc).map (fun d => d.parameters.length) = some 3) := ⟨k75, k622, by decide +kernel, by decide +kernel, by decide +kernel⟩
theorem k620 : Cond.instanceMethod yX8_most ∈ gtbl := gm 620 (by decide +kernel)
theorem k621 : Cond.selects RX8 yX8_most yX8_most ∈ gtbl := gm 621 (by decide +kernel)
theorem k667 : Cond.code yX8_fails cX8_fails 2 (some .int) ∈ gtbl := gm 667 (by decide +kernel)
theorem ck_x_fails : (Cond.initialized Mx_fails.1.cls ∈ gtbl) ∧ (Cond.code Mx_fails.1 Mx_fails.2.1 Mx_fails.2.2.1 Mx_fails.2.2.2.1 ∈ gtbl) ∧ (Mx_fails.1.cls ≠ "java/lang/invoke/MethodHandle" ∧ Mx_fails.1.cls ≠ "java/lang/invoke/VarHandle" ∧ (parseMethodDescriptor Mx_fails.1.desc).map (fun d => d.parameters.length) = some 1) := ⟨k75, k667, by decide +kernel, by decide +kernel, by decide +kernel⟩
theorem k665 : Cond.instanceMethod yX8_fails ∈ gtbl := gm 665 (by decide +kernel)
theorem k666 : Cond.selects RX8 yX8_fails yX8_fails ∈ gtbl := gm 666 (by decide +kernel)
theorem k680 : Cond.code yX8_soonest cX8_soonest 6 (some .int) ∈ gtbl := gm 680 (by decide +kernel)
theorem ck_x_soonest : (Cond.initialized Mx_soonest.1.cls ∈ gtbl) ∧ (Cond.code Mx_soonest.1 Mx_soonest.2.1 Mx_soonest.2.2.1 Mx_soonest.2.2.2.1 ∈ gtbl) ∧ (Mx_soonest.1.cls ≠ "java/lang/invoke/MethodHandle" ∧ Mx_soonest.1.cls ≠ "java/lang/invoke/VarHandle" ∧ (parseMethodDescriptor Mx_soonest.1.desc).map (fun d => d.parameters.length) = some 0) := ⟨k75, k680, by decide +kernel, by decide +kernel, by decide +kernel⟩
theorem k678 : Cond.instanceMethod yX8_soonest ∈ gtbl := gm 678 (by decide +kernel)
theorem k679 : Cond.selects RX8 yX8_soonest yX8_soonest ∈ gtbl := gm 679 (by decide +kernel)
theorem k684 : Cond.code yX8_left cX8_left 6 (some .int) ∈ gtbl := gm 684 (by decide +kernel)
theorem ck_x_left : (Cond.initialized Mx_left.1.cls ∈ gtbl) ∧ (Cond.code Mx_left.1 Mx_left.2.1 Mx_left.2.2.1 Mx_left.2.2.2.1 ∈ gtbl) ∧ (Mx_left.1.cls ≠ "java/lang/invoke/MethodHandle" ∧ Mx_left.1.cls ≠ "java/lang/invoke/VarHandle" ∧ (parseMethodDescriptor Mx_left.1.desc).map (fun d => d.parameters.length) = some 1) := ⟨k75, k684, by decide +kernel, by decide +kernel, by decide +kernel⟩
theorem k682 : Cond.instanceMethod yX8_left ∈ gtbl := gm 682 (by decide +kernel)
theorem k683 : Cond.selects RX8 yX8_left yX8_left ∈ gtbl := gm 683 (by decide +kernel)
theorem k688 : Cond.code yX8_burns cX8_burns 2 (some .int) ∈ gtbl := gm 688 (by decide +kernel)
theorem ck_x_burns : (Cond.initialized Mx_burns.1.cls ∈ gtbl) ∧ (Cond.code Mx_burns.1 Mx_burns.2.1 Mx_burns.2.2.1 Mx_burns.2.2.2.1 ∈ gtbl) ∧ (Mx_burns.1.cls ≠ "java/lang/invoke/MethodHandle" ∧ Mx_burns.1.cls ≠ "java/lang/invoke/VarHandle" ∧ (parseMethodDescriptor Mx_burns.1.desc).map (fun d => d.parameters.length) = some 1) := ⟨k75, k688, by decide +kernel, by decide +kernel, by decide +kernel⟩
theorem k686 : Cond.instanceMethod yX8_burns ∈ gtbl := gm 686 (by decide +kernel)
theorem k687 : Cond.selects RX8 yX8_burns yX8_burns ∈ gtbl := gm 687 (by decide +kernel)
theorem k700 : Cond.code yX8_lit cX8_lit 3 (some .int) ∈ gtbl := gm 700 (by decide +kernel)
theorem ck_x_lit : (Cond.initialized Mx_lit.1.cls ∈ gtbl) ∧ (Cond.code Mx_lit.1 Mx_lit.2.1 Mx_lit.2.2.1 Mx_lit.2.2.2.1 ∈ gtbl) ∧ (Mx_lit.1.cls ≠ "java/lang/invoke/MethodHandle" ∧ Mx_lit.1.cls ≠ "java/lang/invoke/VarHandle" ∧ (parseMethodDescriptor Mx_lit.1.desc).map (fun d => d.parameters.length) = some 2) := ⟨k75, k700, by decide +kernel, by decide +kernel, by decide +kernel⟩
theorem k698 : Cond.instanceMethod yX8_lit ∈ gtbl := gm 698 (by decide +kernel)
theorem k699 : Cond.selects RX8 yX8_lit yX8_lit ∈ gtbl := gm 699 (by decide +kernel)
theorem k738 : Cond.code yX8_heard cX8_heard 4 (some .int) ∈ gtbl := gm 738 (by decide +kernel)
theorem ck_x_heard : (Cond.initialized Mx_heard.1.cls ∈ gtbl) ∧ (Cond.code Mx_heard.1 Mx_heard.2.1 Mx_heard.2.2.1 Mx_heard.2.2.2.1 ∈ gtbl) ∧ (Mx_heard.1.cls ≠ "java/lang/invoke/MethodHandle" ∧ Mx_heard.1.cls ≠ "java/lang/invoke/VarHandle" ∧ (parseMethodDescriptor Mx_heard.1.desc).map (fun d => d.parameters.length) = some 3) := ⟨k75, k738, by decide +kernel, by decide +kernel, by decide +kernel⟩
theorem k736 : Cond.instanceMethod yX8_heard ∈ gtbl := gm 736 (by decide +kernel)
theorem k737 : Cond.selects RX8 yX8_heard yX8_heard ∈ gtbl := gm 737 (by decide +kernel)
theorem k757 : Cond.code yX8_meet cX8_meet 6 (some .int) ∈ gtbl := gm 757 (by decide +kernel)
theorem ck_x_meet : (Cond.initialized Mx_meet.1.cls ∈ gtbl) ∧ (Cond.code Mx_meet.1 Mx_meet.2.1 Mx_meet.2.2.1 Mx_meet.2.2.2.1 ∈ gtbl) ∧ (Mx_meet.1.cls ≠ "java/lang/invoke/MethodHandle" ∧ Mx_meet.1.cls ≠ "java/lang/invoke/VarHandle" ∧ (parseMethodDescriptor Mx_meet.1.desc).map (fun d => d.parameters.length) = some 4) := ⟨k75, k757, by decide +kernel, by decide +kernel, by decide +kernel⟩
theorem k755 : Cond.instanceMethod yX8_meet ∈ gtbl := gm 755 (by decide +kernel)
theorem k756 : Cond.selects RX8 yX8_meet yX8_meet ∈ gtbl := gm 756 (by decide +kernel)
theorem k764 : Cond.code yX8_drowsy cX8_drowsy 4 (some .int) ∈ gtbl := gm 764 (by decide +kernel)
theorem ck_x_drowsy : (Cond.initialized Mx_drowsy.1.cls ∈ gtbl) ∧ (Cond.code Mx_drowsy.1 Mx_drowsy.2.1 Mx_drowsy.2.2.1 Mx_drowsy.2.2.2.1 ∈ gtbl) ∧ (Mx_drowsy.1.cls ≠ "java/lang/invoke/MethodHandle" ∧ Mx_drowsy.1.cls ≠ "java/lang/invoke/VarHandle" ∧ (parseMethodDescriptor Mx_drowsy.1.desc).map (fun d => d.parameters.length) = some 3) := ⟨k75, k764, by decide +kernel, by decide +kernel, by decide +kernel⟩
theorem k762 : Cond.instanceMethod yX8_drowsy ∈ gtbl := gm 762 (by decide +kernel)
theorem k763 : Cond.selects RX8 yX8_drowsy yX8_drowsy ∈ gtbl := gm 763 (by decide +kernel)
theorem k787 : Cond.code yX8_chalk cX8_chalk 4 (some .int) ∈ gtbl := gm 787 (by decide +kernel)
theorem ck_x_chalk : (Cond.initialized Mx_chalk.1.cls ∈ gtbl) ∧ (Cond.code Mx_chalk.1 Mx_chalk.2.1 Mx_chalk.2.2.1 Mx_chalk.2.2.2.1 ∈ gtbl) ∧ (Mx_chalk.1.cls ≠ "java/lang/invoke/MethodHandle" ∧ Mx_chalk.1.cls ≠ "java/lang/invoke/VarHandle" ∧ (parseMethodDescriptor Mx_chalk.1.desc).map (fun d => d.parameters.length) = some 3) := ⟨k75, k787, by decide +kernel, by decide +kernel, by decide +kernel⟩
theorem k785 : Cond.instanceMethod yX8_chalk ∈ gtbl := gm 785 (by decide +kernel)
theorem k786 : Cond.selects RX8 yX8_chalk yX8_chalk ∈ gtbl := gm 786 (by decide +kernel)
theorem k796 : Cond.code yX8_lies cX8_lies 5 (some .int) ∈ gtbl := gm 796 (by decide +kernel)
theorem ck_x_lies : (Cond.initialized Mx_lies.1.cls ∈ gtbl) ∧ (Cond.code Mx_lies.1 Mx_lies.2.1 Mx_lies.2.2.1 Mx_lies.2.2.2.1 ∈ gtbl) ∧ (Mx_lies.1.cls ≠ "java/lang/invoke/MethodHandle" ∧ Mx_lies.1.cls ≠ "java/lang/invoke/VarHandle" ∧ (parseMethodDescriptor Mx_lies.1.desc).map (fun d => d.parameters.length) = some 0) := ⟨k75, k796, by decide +kernel, by decide +kernel, by decide +kernel⟩
theorem k794 : Cond.instanceMethod yX8_lies ∈ gtbl := gm 794 (by decide +kernel)
theorem k795 : Cond.selects RX8 yX8_lies yX8_lies ∈ gtbl := gm 795 (by decide +kernel)
theorem k801 : Cond.code yX8_scene cX8_scene 2 (some .int) ∈ gtbl := gm 801 (by decide +kernel)
theorem ck_x_scene : (Cond.initialized Mx_scene.1.cls ∈ gtbl) ∧ (Cond.code Mx_scene.1 Mx_scene.2.1 Mx_scene.2.2.1 Mx_scene.2.2.2.1 ∈ gtbl) ∧ (Mx_scene.1.cls ≠ "java/lang/invoke/MethodHandle" ∧ Mx_scene.1.cls ≠ "java/lang/invoke/VarHandle" ∧ (parseMethodDescriptor Mx_scene.1.desc).map (fun d => d.parameters.length) = some 1) := ⟨k75, k801, by decide +kernel, by decide +kernel, by decide +kernel⟩
theorem k799 : Cond.instanceMethod yX8_scene ∈ gtbl := gm 799 (by decide +kernel)
theorem k800 : Cond.selects RX8 yX8_scene yX8_scene ∈ gtbl := gm 800 (by decide +kernel)
theorem k809 : Cond.code yX8_scenes cX8_scenes 5 (some .int) ∈ gtbl := gm 809 (by decide +kernel)
theorem ck_x_scenes : (Cond.initialized Mx_scenes.1.cls ∈ gtbl) ∧ (Cond.code Mx_scenes.1 Mx_scenes.2.1 Mx_scenes.2.2.1 Mx_scenes.2.2.2.1 ∈ gtbl) ∧ (Mx_scenes.1.cls ≠ "java/lang/invoke/MethodHandle" ∧ Mx_scenes.1.cls ≠ "java/lang/invoke/VarHandle" ∧ (parseMethodDescriptor Mx_scenes.1.desc).map (fun d => d.parameters.length) = some 1) := ⟨k75, k809, by decide +kernel, by decide +kernel, by decide +kernel⟩
theorem k807 : Cond.instanceMethod yX8_scenes ∈ gtbl := gm 807 (by decide +kernel)
theorem k808 : Cond.selects RX8 yX8_scenes yX8_scenes ∈ gtbl := gm 808 (by decide +kernel)
theorem k817 : Cond.code yX8_cue cX8_cue 3 (some .int) ∈ gtbl := gm 817 (by decide +kernel)
theorem ck_x_cue : (Cond.initialized Mx_cue.1.cls ∈ gtbl) ∧ (Cond.code Mx_cue.1 Mx_cue.2.1 Mx_cue.2.2.1 Mx_cue.2.2.2.1 ∈ gtbl) ∧ (Mx_cue.1.cls ≠ "java/lang/invoke/MethodHandle" ∧ Mx_cue.1.cls ≠ "java/lang/invoke/VarHandle" ∧ (parseMethodDescriptor Mx_cue.1.desc).map (fun d => d.parameters.length) = some 1) := ⟨k75, k817, by decide +kernel, by decide +kernel, by decide +kernel⟩
theorem k815 : Cond.instanceMethod yX8_cue ∈ gtbl := gm 815 (by decide +kernel)
theorem k816 : Cond.selects RX8 yX8_cue yX8_cue ∈ gtbl := gm 816 (by decide +kernel)
theorem k821 : Cond.code yX8_forget cX8_forget 2 (some .int) ∈ gtbl := gm 821 (by decide +kernel)
theorem ck_x_forget : (Cond.initialized Mx_forget.1.cls ∈ gtbl) ∧ (Cond.code Mx_forget.1 Mx_forget.2.1 Mx_forget.2.2.1 Mx_forget.2.2.2.1 ∈ gtbl) ∧ (Mx_forget.1.cls ≠ "java/lang/invoke/MethodHandle" ∧ Mx_forget.1.cls ≠ "java/lang/invoke/VarHandle" ∧ (parseMethodDescriptor Mx_forget.1.desc).map (fun d => d.parameters.length) = some 1) := ⟨k75, k821, by decide +kernel, by decide +kernel, by decide +kernel⟩
theorem k819 : Cond.instanceMethod yX8_forget ∈ gtbl := gm 819 (by decide +kernel)
theorem k820 : Cond.selects RX8 yX8_forget yX8_forget ∈ gtbl := gm 820 (by decide +kernel)
theorem k833 : Cond.code yX8_sheet cX8_sheet 4 (some .int) ∈ gtbl := gm 833 (by decide +kernel)
theorem ck_x_sheet : (Cond.initialized Mx_sheet.1.cls ∈ gtbl) ∧ (Cond.code Mx_sheet.1 Mx_sheet.2.1 Mx_sheet.2.2.1 Mx_sheet.2.2.2.1 ∈ gtbl) ∧ (Mx_sheet.1.cls ≠ "java/lang/invoke/MethodHandle" ∧ Mx_sheet.1.cls ≠ "java/lang/invoke/VarHandle" ∧ (parseMethodDescriptor Mx_sheet.1.desc).map (fun d => d.parameters.length) = some 3) := ⟨k75, k833, by decide +kernel, by decide +kernel, by decide +kernel⟩
theorem k831 : Cond.instanceMethod yX8_sheet ∈ gtbl := gm 831 (by decide +kernel)
theorem k832 : Cond.selects RX8 yX8_sheet yX8_sheet ∈ gtbl := gm 832 (by decide +kernel)
theorem k845 : Cond.code yX8_lose cX8_lose 3 (some .int) ∈ gtbl := gm 845 (by decide +kernel)
theorem ck_x_lose : (Cond.initialized Mx_lose.1.cls ∈ gtbl) ∧ (Cond.code Mx_lose.1 Mx_lose.2.1 Mx_lose.2.2.1 Mx_lose.2.2.2.1 ∈ gtbl) ∧ (Mx_lose.1.cls ≠ "java/lang/invoke/MethodHandle" ∧ Mx_lose.1.cls ≠ "java/lang/invoke/VarHandle" ∧ (parseMethodDescriptor Mx_lose.1.desc).map (fun d => d.parameters.length) = some 1) := ⟨k75, k845, by decide +kernel, by decide +kernel, by decide +kernel⟩
theorem k843 : Cond.instanceMethod yX8_lose ∈ gtbl := gm 843 (by decide +kernel)
theorem k844 : Cond.selects RX8 yX8_lose yX8_lose ∈ gtbl := gm 844 (by decide +kernel)
theorem k853 : Cond.code yX8_lay cX8_lay 6 (some .int) ∈ gtbl := gm 853 (by decide +kernel)
theorem ck_x_lay : (Cond.initialized Mx_lay.1.cls ∈ gtbl) ∧ (Cond.code Mx_lay.1 Mx_lay.2.1 Mx_lay.2.2.1 Mx_lay.2.2.2.1 ∈ gtbl) ∧ (Mx_lay.1.cls ≠ "java/lang/invoke/MethodHandle" ∧ Mx_lay.1.cls ≠ "java/lang/invoke/VarHandle" ∧ (parseMethodDescriptor Mx_lay.1.desc).map (fun d => d.parameters.length) = some 4) := ⟨k75, k853, by decide +kernel, by decide +kernel, by decide +kernel⟩
theorem k851 : Cond.instanceMethod yX8_lay ∈ gtbl := gm 851 (by decide +kernel)
theorem k852 : Cond.selects RX8 yX8_lay yX8_lay ∈ gtbl := gm 852 (by decide +kernel)
theorem k869 : Cond.code yX8_get cX8_get 5 (some .int) ∈ gtbl := gm 869 (by decide +kernel)
theorem ck_x_get : (Cond.initialized Mx_get.1.cls ∈ gtbl) ∧ (Cond.code Mx_get.1 Mx_get.2.1 Mx_get.2.2.1 Mx_get.2.2.2.1 ∈ gtbl) ∧ (Mx_get.1.cls ≠ "java/lang/invoke/MethodHandle" ∧ Mx_get.1.cls ≠ "java/lang/invoke/VarHandle" ∧ (parseMethodDescriptor Mx_get.1.desc).map (fun d => d.parameters.length) = some 3) := ⟨k75, k869, by decide +kernel, by decide +kernel, by decide +kernel⟩
theorem k867 : Cond.instanceMethod yX8_get ∈ gtbl := gm 867 (by decide +kernel)
theorem k868 : Cond.selects RX8 yX8_get yX8_get ∈ gtbl := gm 868 (by decide +kernel)
theorem k874 : Cond.code yX8_copy cX8_copy 6 (some .int) ∈ gtbl := gm 874 (by decide +kernel)
theorem ck_x_copy : (Cond.initialized Mx_copy.1.cls ∈ gtbl) ∧ (Cond.code Mx_copy.1 Mx_copy.2.1 Mx_copy.2.2.1 Mx_copy.2.2.2.1 ∈ gtbl) ∧ (Mx_copy.1.cls ≠ "java/lang/invoke/MethodHandle" ∧ Mx_copy.1.cls ≠ "java/lang/invoke/VarHandle" ∧ (parseMethodDescriptor Mx_copy.1.desc).map (fun d => d.parameters.length) = some 5) := ⟨k75, k874, by decide +kernel, by decide +kernel, by decide +kernel⟩
theorem k872 : Cond.instanceMethod yX8_copy ∈ gtbl := gm 872 (by decide +kernel)
theorem k873 : Cond.selects RX8 yX8_copy yX8_copy ∈ gtbl := gm 873 (by decide +kernel)
theorem k889 : Cond.code yX8_write cX8_write 6 (some .int) ∈ gtbl := gm 889 (by decide +kernel)
theorem ck_x_write : (Cond.initialized Mx_write.1.cls ∈ gtbl) ∧ (Cond.code Mx_write.1 Mx_write.2.1 Mx_write.2.2.1 Mx_write.2.2.2.1 ∈ gtbl) ∧ (Mx_write.1.cls ≠ "java/lang/invoke/MethodHandle" ∧ Mx_write.1.cls ≠ "java/lang/invoke/VarHandle" ∧ (parseMethodDescriptor Mx_write.1.desc).map (fun d => d.parameters.length) = some 3) := ⟨k75, k889, by decide +kernel, by decide +kernel, by decide +kernel⟩
theorem k887 : Cond.instanceMethod yX8_write ∈ gtbl := gm 887 (by decide +kernel)
theorem k888 : Cond.selects RX8 yX8_write yX8_write ∈ gtbl := gm 888 (by decide +kernel)
theorem k894 : Cond.code yX8_count cX8_count 2 (some .int) ∈ gtbl := gm 894 (by decide +kernel)
theorem ck_x_count : (Cond.initialized Mx_count.1.cls ∈ gtbl) ∧ (Cond.code Mx_count.1 Mx_count.2.1 Mx_count.2.2.1 Mx_count.2.2.2.1 ∈ gtbl) ∧ (Mx_count.1.cls ≠ "java/lang/invoke/MethodHandle" ∧ Mx_count.1.cls ≠ "java/lang/invoke/VarHandle" ∧ (parseMethodDescriptor Mx_count.1.desc).map (fun d => d.parameters.length) = some 1) := ⟨k75, k894, by decide +kernel, by decide +kernel, by decide +kernel⟩
theorem k892 : Cond.instanceMethod yX8_count ∈ gtbl := gm 892 (by decide +kernel)
theorem k893 : Cond.selects RX8 yX8_count yX8_count ∈ gtbl := gm 893 (by decide +kernel)
theorem k912 : Cond.code yX8_digest cX8_digest 4 (some .long) ∈ gtbl := gm 912 (by decide +kernel)
theorem ck_x_digest : (Cond.initialized Mx_digest.1.cls ∈ gtbl) ∧ (Cond.code Mx_digest.1 Mx_digest.2.1 Mx_digest.2.2.1 Mx_digest.2.2.2.1 ∈ gtbl) ∧ (Mx_digest.1.cls ≠ "java/lang/invoke/MethodHandle" ∧ Mx_digest.1.cls ≠ "java/lang/invoke/VarHandle" ∧ (parseMethodDescriptor Mx_digest.1.desc).map (fun d => d.parameters.length) = some 0) := ⟨k75, k912, by decide +kernel, by decide +kernel, by decide +kernel⟩
theorem k910 : Cond.instanceMethod yX8_digest ∈ gtbl := gm 910 (by decide +kernel)
theorem k911 : Cond.selects RX8 yX8_digest yX8_digest ∈ gtbl := gm 911 (by decide +kernel)
theorem k924 : Cond.code yX8_mixPipes cX8_mixPipes 7 (some .long) ∈ gtbl := gm 924 (by decide +kernel)
theorem ck_x_mixPipes : (Cond.initialized Mx_mixPipes.1.cls ∈ gtbl) ∧ (Cond.code Mx_mixPipes.1 Mx_mixPipes.2.1 Mx_mixPipes.2.2.1 Mx_mixPipes.2.2.2.1 ∈ gtbl) ∧ (Mx_mixPipes.1.cls ≠ "java/lang/invoke/MethodHandle" ∧ Mx_mixPipes.1.cls ≠ "java/lang/invoke/VarHandle" ∧ (parseMethodDescriptor Mx_mixPipes.1.desc).map (fun d => d.parameters.length) = some 1) := ⟨k75, k924, by decide +kernel, by decide +kernel, by decide +kernel⟩
theorem k923 : Cond.instanceMethod yX8_mixPipes ∈ gtbl := gm 923 (by decide +kernel)
theorem k29 : Cond.selects RX8 yX8_mixPipes yX8_mixPipes ∈ gtbl := gm 29 (by decide +kernel)
theorem k929 : Cond.code yX8_mixWires cX8_mixWires 6 (some .long) ∈ gtbl := gm 929 (by decide +kernel)
theorem ck_x_mixWires : (Cond.initialized Mx_mixWires.1.cls ∈ gtbl) ∧ (Cond.code Mx_mixWires.1 Mx_mixWires.2.1 Mx_mixWires.2.2.1 Mx_mixWires.2.2.2.1 ∈ gtbl) ∧ (Mx_mixWires.1.cls ≠ "java/lang/invoke/MethodHandle" ∧ Mx_mixWires.1.cls ≠ "java/lang/invoke/VarHandle" ∧ (parseMethodDescriptor Mx_mixWires.1.desc).map (fun d => d.parameters.length) = some 1) := ⟨k75, k929, by decide +kernel, by decide +kernel, by decide +kernel⟩
theorem k928 : Cond.instanceMethod yX8_mixWires ∈ gtbl := gm 928 (by decide +kernel)
theorem k30 : Cond.selects RX8 yX8_mixWires yX8_mixWires ∈ gtbl := gm 30 (by decide +kernel)
theorem k940 : Cond.code yX8_mixEnds cX8_mixEnds 6 (some .long) ∈ gtbl := gm 940 (by decide +kernel)
theorem ck_x_mixEnds : (Cond.initialized Mx_mixEnds.1.cls ∈ gtbl) ∧ (Cond.code Mx_mixEnds.1 Mx_mixEnds.2.1 Mx_mixEnds.2.2.1 Mx_mixEnds.2.2.2.1 ∈ gtbl) ∧ (Mx_mixEnds.1.cls ≠ "java/lang/invoke/MethodHandle" ∧ Mx_mixEnds.1.cls ≠ "java/lang/invoke/VarHandle" ∧ (parseMethodDescriptor Mx_mixEnds.1.desc).map (fun d => d.parameters.length) = some 1) := ⟨k75, k940, by decide +kernel, by decide +kernel, by decide +kernel⟩
theorem k939 : Cond.instanceMethod yX8_mixEnds ∈ gtbl := gm 939 (by decide +kernel)
theorem k31 : Cond.selects RX8 yX8_mixEnds yX8_mixEnds ∈ gtbl := gm 31 (by decide +kernel)
theorem k917 : Cond.code yX8_mix cX8_mix 3 (some .long) ∈ gtbl := gm 917 (by decide +kernel)
theorem ck_x_mix : (Cond.initialized Mx_mix.1.cls ∈ gtbl) ∧ (Cond.code Mx_mix.1 Mx_mix.2.1 Mx_mix.2.2.1 Mx_mix.2.2.2.1 ∈ gtbl) ∧ (Mx_mix.1.cls ≠ "java/lang/invoke/MethodHandle" ∧ Mx_mix.1.cls ≠ "java/lang/invoke/VarHandle" ∧ (parseMethodDescriptor Mx_mix.1.desc).map (fun d => d.parameters.length) = some 2) := ⟨k75, k917, by decide +kernel, by decide +kernel, by decide +kernel⟩
theorem k916 : Cond.static yX8_mix ∈ gtbl := gm 916 (by decide +kernel)
theorem k376 : Cond.code yX8_within cX8_within 3 (some .boolean) ∈ gtbl := gm 376 (by decide +kernel)
theorem ck_x_within : (Cond.initialized Mx_within.1.cls ∈ gtbl) ∧ (Cond.code Mx_within.1 Mx_within.2.1 Mx_within.2.2.1 Mx_within.2.2.2.1 ∈ gtbl) ∧ (Mx_within.1.cls ≠ "java/lang/invoke/MethodHandle" ∧ Mx_within.1.cls ≠ "java/lang/invoke/VarHandle" ∧ (parseMethodDescriptor Mx_within.1.desc).map (fun d => d.parameters.length) = some 3) := ⟨k75, k376, by decide +kernel, by decide +kernel, by decide +kernel⟩
theorem k375 : Cond.static yX8_within ∈ gtbl := gm 375 (by decide +kernel)
theorem k520 : Cond.code yX8_isEnd cX8_isEnd 1 (some .boolean) ∈ gtbl := gm 520 (by decide +kernel)
theorem ck_x_isEnd : (Cond.initialized Mx_isEnd.1.cls ∈ gtbl) ∧ (Cond.code Mx_isEnd.1 Mx_isEnd.2.1 Mx_isEnd.2.2.1 Mx_isEnd.2.2.2.1 ∈ gtbl) ∧ (Mx_isEnd.1.cls ≠ "java/lang/invoke/MethodHandle" ∧ Mx_isEnd.1.cls ≠ "java/lang/invoke/VarHandle" ∧ (parseMethodDescriptor Mx_isEnd.1.desc).map (fun d => d.parameters.length) = some 1) := ⟨k75, k520, by decide +kernel, by decide +kernel, by decide +kernel⟩
theorem k519 : Cond.static yX8_isEnd ∈ gtbl := gm 519 (by decide +kernel)
theorem k517 : Cond.code yX8_areTwoEnds cX8_areTwoEnds 2 (some .boolean) ∈ gtbl := gm 517 (by decide +kernel)
theorem ck_x_areTwoEnds : (Cond.initialized Mx_areTwoEnds.1.cls ∈ gtbl) ∧ (Cond.code Mx_areTwoEnds.1 Mx_areTwoEnds.2.1 Mx_areTwoEnds.2.2.1 Mx_areTwoEnds.2.2.2.1 ∈ gtbl) ∧ (Mx_areTwoEnds.1.cls ≠ "java/lang/invoke/MethodHandle" ∧ Mx_areTwoEnds.1.cls ≠ "java/lang/invoke/VarHandle" ∧ (parseMethodDescriptor Mx_areTwoEnds.1.desc).map (fun d => d.parameters.length) = some 2) := ⟨k75, k517, by decide +kernel, by decide +kernel, by decide +kernel⟩
theorem k516 : Cond.static yX8_areTwoEnds ∈ gtbl := gm 516 (by decide +kernel)
theorem k532 : Cond.code yX8_isWire cX8_isWire 1 (some .boolean) ∈ gtbl := gm 532 (by decide +kernel)
theorem ck_x_isWire : (Cond.initialized Mx_isWire.1.cls ∈ gtbl) ∧ (Cond.code Mx_isWire.1 Mx_isWire.2.1 Mx_isWire.2.2.1 Mx_isWire.2.2.2.1 ∈ gtbl) ∧ (Mx_isWire.1.cls ≠ "java/lang/invoke/MethodHandle" ∧ Mx_isWire.1.cls ≠ "java/lang/invoke/VarHandle" ∧ (parseMethodDescriptor Mx_isWire.1.desc).map (fun d => d.parameters.length) = some 1) := ⟨k75, k532, by decide +kernel, by decide +kernel, by decide +kernel⟩
theorem k531 : Cond.static yX8_isWire ∈ gtbl := gm 531 (by decide +kernel)
theorem k581 : Cond.code yX8_isBehind cX8_isBehind 2 (some .boolean) ∈ gtbl := gm 581 (by decide +kernel)
theorem ck_x_isBehind : (Cond.initialized Mx_isBehind.1.cls ∈ gtbl) ∧ (Cond.code Mx_isBehind.1 Mx_isBehind.2.1 Mx_isBehind.2.2.1 Mx_isBehind.2.2.2.1 ∈ gtbl) ∧ (Mx_isBehind.1.cls ≠ "java/lang/invoke/MethodHandle" ∧ Mx_isBehind.1.cls ≠ "java/lang/invoke/VarHandle" ∧ (parseMethodDescriptor Mx_isBehind.1.desc).map (fun d => d.parameters.length) = some 1) := ⟨k75, k581, by decide +kernel, by decide +kernel, by decide +kernel⟩
theorem k580 : Cond.instanceMethod yX8_isBehind ∈ gtbl := gm 580 (by decide +kernel)
theorem k13 : Cond.selects RX8 yX8_isBehind yX8_isBehind ∈ gtbl := gm 13 (by decide +kernel)
theorem k407 : Cond.code yX8_bit cX8_bit 1 (some .int) ∈ gtbl := gm 407 (by decide +kernel)
theorem ck_x_bit : (Cond.initialized Mx_bit.1.cls ∈ gtbl) ∧ (Cond.code Mx_bit.1 Mx_bit.2.1 Mx_bit.2.2.1 Mx_bit.2.2.2.1 ∈ gtbl) ∧ (Mx_bit.1.cls ≠ "java/lang/invoke/MethodHandle" ∧ Mx_bit.1.cls ≠ "java/lang/invoke/VarHandle" ∧ (parseMethodDescriptor Mx_bit.1.desc).map (fun d => d.parameters.length) = some 1) := ⟨k75, k407, by decide +kernel, by decide +kernel, by decide +kernel⟩
theorem k406 : Cond.static yX8_bit ∈ gtbl := gm 406 (by decide +kernel)
theorem k404 : Cond.code yX8_hasBit cX8_hasBit 2 (some .boolean) ∈ gtbl := gm 404 (by decide +kernel)
theorem ck_x_hasBit : (Cond.initialized Mx_hasBit.1.cls ∈ gtbl) ∧ (Cond.code Mx_hasBit.1 Mx_hasBit.2.1 Mx_hasBit.2.2.1 Mx_hasBit.2.2.2.1 ∈ gtbl) ∧ (Mx_hasBit.1.cls ≠ "java/lang/invoke/MethodHandle" ∧ Mx_hasBit.1.cls ≠ "java/lang/invoke/VarHandle" ∧ (parseMethodDescriptor Mx_hasBit.1.desc).map (fun d => d.parameters.length) = some 2) := ⟨k75, k404, by decide +kernel, by decide +kernel, by decide +kernel⟩
theorem k403 : Cond.static yX8_hasBit ∈ gtbl := gm 403 (by decide +kernel)
theorem k609 : Cond.code yX8_findWay cX8_findWay 3 (some .boolean) ∈ gtbl := gm 609 (by decide +kernel)
theorem ck_x_findWay : (Cond.initialized Mx_findWay.1.cls ∈ gtbl) ∧ (Cond.code Mx_findWay.1 Mx_findWay.2.1 Mx_findWay.2.2.1 Mx_findWay.2.2.2.1 ∈ gtbl) ∧ (Mx_findWay.1.cls ≠ "java/lang/invoke/MethodHandle" ∧ Mx_findWay.1.cls ≠ "java/lang/invoke/VarHandle" ∧ (parseMethodDescriptor Mx_findWay.1.desc).map (fun d => d.parameters.length) = some 2) := ⟨k75, k609, by decide +kernel, by decide +kernel, by decide +kernel⟩
theorem k608 : Cond.instanceMethod yX8_findWay ∈ gtbl := gm 608 (by decide +kernel)
theorem k14 : Cond.selects RX8 yX8_findWay yX8_findWay ∈ gtbl := gm 14 (by decide +kernel)
theorem k813 : Cond.code yX8_burningBehind cX8_burningBehind 2 (some .int) ∈ gtbl := gm 813 (by decide +kernel)
theorem ck_x_burningBehind : (Cond.initialized Mx_burningBehind.1.cls ∈ gtbl) ∧ (Cond.code Mx_burningBehind.1 Mx_burningBehind.2.1 Mx_burningBehind.2.2.1 Mx_burningBehind.2.2.2.1 ∈ gtbl) ∧ (Mx_burningBehind.1.cls ≠ "java/lang/invoke/MethodHandle" ∧ Mx_burningBehind.1.cls ≠ "java/lang/invoke/VarHandle" ∧ (parseMethodDescriptor Mx_burningBehind.1.desc).map (fun d => d.parameters.length) = some 1) := ⟨k75, k813, by decide +kernel, by decide +kernel, by decide +kernel⟩
theorem k812 : Cond.instanceMethod yX8_burningBehind ∈ gtbl := gm 812 (by decide +kernel)
theorem k28 : Cond.selects RX8 yX8_burningBehind yX8_burningBehind ∈ gtbl := gm 28 (by decide +kernel)
theorem k671 : Cond.code yX8_failingDay cX8_failingDay 4 (some .int) ∈ gtbl := gm 671 (by decide +kernel)
theorem ck_x_failingDay : (Cond.initialized Mx_failingDay.1.cls ∈ gtbl) ∧ (Cond.code Mx_failingDay.1 Mx_failingDay.2.1 Mx_failingDay.2.2.1 Mx_failingDay.2.2.2.1 ∈ gtbl) ∧ (Mx_failingDay.1.cls ≠ "java/lang/invoke/MethodHandle" ∧ Mx_failingDay.1.cls ≠ "java/lang/invoke/VarHandle" ∧ (parseMethodDescriptor Mx_failingDay.1.desc).map (fun d => d.parameters.length) = some 2) := ⟨k75, k671, by decide +kernel, by decide +kernel, by decide +kernel⟩
theorem k670 : Cond.instanceMethod yX8_failingDay ∈ gtbl := gm 670 (by decide +kernel)
theorem k19 : Cond.selects RX8 yX8_failingDay yX8_failingDay ∈ gtbl := gm 19 (by decide +kernel)
theorem k85 : Cond.initialized RX9 ∈ gtbl := gm 85 (by decide +kernel)
theorem k1055 : Cond.code yX9_in cX9_in 6 (some .boolean) ∈ gtbl := gm 1055 (by decide +kernel)
theorem ck_m_in : (Cond.initialized Mm_in.1.cls ∈ gtbl) ∧ (Cond.code Mm_in.1 Mm_in.2.1 Mm_in.2.2.1 Mm_in.2.2.2.1 ∈ gtbl) ∧ (Mm_in.1.cls ≠ "java/lang/invoke/MethodHandle" ∧ Mm_in.1.cls ≠ "java/lang/invoke/VarHandle" ∧ (parseMethodDescriptor Mm_in.1.desc).map (fun d => d.parameters.length) = some 3) := ⟨k85, k1055, by decide +kernel, by decide +kernel, by decide +kernel⟩
theorem k1054 : Cond.static yX9_in ∈ gtbl := gm 1054 (by decide +kernel)
theorem k1203 : Cond.code yX9_isTwo cX9_isTwo 1 (some .boolean) ∈ gtbl := gm 1203 (by decide +kernel)
theorem ck_m_isTwo : (Cond.initialized Mm_isTwo.1.cls ∈ gtbl) ∧ (Cond.code Mm_isTwo.1 Mm_isTwo.2.1 Mm_isTwo.2.2.1 Mm_isTwo.2.2.2.1 ∈ gtbl) ∧ (Mm_isTwo.1.cls ≠ "java/lang/invoke/MethodHandle" ∧ Mm_isTwo.1.cls ≠ "java/lang/invoke/VarHandle" ∧ (parseMethodDescriptor Mm_isTwo.1.desc).map (fun d => d.parameters.length) = some 1) := ⟨k85, k1203, by decide +kernel, by decide +kernel, by decide +kernel⟩
theorem k1202 : Cond.static yX9_isTwo ∈ gtbl := gm 1202 (by decide +kernel)
theorem k1180 : Cond.code yX9_isIn cX9_isIn 2 (some .boolean) ∈ gtbl := gm 1180 (by decide +kernel)
theorem ck_m_isIn : (Cond.initialized Mm_isIn.1.cls ∈ gtbl) ∧ (Cond.code Mm_isIn.1 Mm_isIn.2.1 Mm_isIn.2.2.1 Mm_isIn.2.2.2.1 ∈ gtbl) ∧ (Mm_isIn.1.cls ≠ "java/lang/invoke/MethodHandle" ∧ Mm_isIn.1.cls ≠ "java/lang/invoke/VarHandle" ∧ (parseMethodDescriptor Mm_isIn.1.desc).map (fun d => d.parameters.length) = some 2) := ⟨k85, k1180, by decide +kernel, by decide +kernel, by decide +kernel⟩
theorem k1179 : Cond.static yX9_isIn ∈ gtbl := gm 1179 (by decide +kernel)
theorem k1405 : Cond.code yX9_ones cX9_ones 3 (some .int) ∈ gtbl := gm 1405 (by decide +kernel)
theorem ck_m_ones : (Cond.initialized Mm_ones.1.cls ∈ gtbl) ∧ (Cond.code Mm_ones.1 Mm_ones.2.1 Mm_ones.2.2.1 Mm_ones.2.2.2.1 ∈ gtbl) ∧ (Mm_ones.1.cls ≠ "java/lang/invoke/MethodHandle" ∧ Mm_ones.1.cls ≠ "java/lang/invoke/VarHandle" ∧ (parseMethodDescriptor Mm_ones.1.desc).map (fun d => d.parameters.length) = some 1) := ⟨k85, k1405, by decide +kernel, by decide +kernel, by decide +kernel⟩
theorem k1404 : Cond.static yX9_ones ∈ gtbl := gm 1404 (by decide +kernel)
theorem k1060 : Cond.code yX9_finds cX9_finds 2 (some .int) ∈ gtbl := gm 1060 (by decide +kernel)
theorem ck_m_finds : (Cond.initialized Mm_finds.1.cls ∈ gtbl) ∧ (Cond.code Mm_finds.1 Mm_finds.2.1 Mm_finds.2.2.1 Mm_finds.2.2.2.1 ∈ gtbl) ∧ (Mm_finds.1.cls ≠ "java/lang/invoke/MethodHandle" ∧ Mm_finds.1.cls ≠ "java/lang/invoke/VarHandle" ∧ (parseMethodDescriptor Mm_finds.1.desc).map (fun d => d.parameters.length) = some 1) := ⟨k85, k1060, by decide +kernel, by decide +kernel, by decide +kernel⟩
theorem k1059 : Cond.instanceMethod yX9_finds ∈ gtbl := gm 1059 (by decide +kernel)
theorem k32 : Cond.selects RX9 yX9_finds yX9_finds ∈ gtbl := gm 32 (by decide +kernel)
theorem k1051 : Cond.code yX9_isSheet cX9_isSheet 1 (some .boolean) ∈ gtbl := gm 1051 (by decide +kernel)
theorem ck_m_isSheet : (Cond.initialized Mm_isSheet.1.cls ∈ gtbl) ∧ (Cond.code Mm_isSheet.1 Mm_isSheet.2.1 Mm_isSheet.2.2.1 Mm_isSheet.2.2.2.1 ∈ gtbl) ∧ (Mm_isSheet.1.cls ≠ "java/lang/invoke/MethodHandle" ∧ Mm_isSheet.1.cls ≠ "java/lang/invoke/VarHandle" ∧ (parseMethodDescriptor Mm_isSheet.1.desc).map (fun d => d.parameters.length) = some 1) := ⟨k85, k1051, by decide +kernel, by decide +kernel, by decide +kernel⟩
theorem k1050 : Cond.static yX9_isSheet ∈ gtbl := gm 1050 (by decide +kernel)
theorem k1048 : Cond.code yX9_sheet cX9_sheet 5 (some .int) ∈ gtbl := gm 1048 (by decide +kernel)
theorem ck_m_sheet : (Cond.initialized Mm_sheet.1.cls ∈ gtbl) ∧ (Cond.code Mm_sheet.1 Mm_sheet.2.1 Mm_sheet.2.2.1 Mm_sheet.2.2.2.1 ∈ gtbl) ∧ (Mm_sheet.1.cls ≠ "java/lang/invoke/MethodHandle" ∧ Mm_sheet.1.cls ≠ "java/lang/invoke/VarHandle" ∧ (parseMethodDescriptor Mm_sheet.1.desc).map (fun d => d.parameters.length) = some 3) := ⟨k85, k1048, by decide +kernel, by decide +kernel, by decide +kernel⟩
theorem k1046 : Cond.instanceMethod yX9_sheet ∈ gtbl := gm 1046 (by decide +kernel)
theorem k1047 : Cond.selects RX9 yX9_sheet yX9_sheet ∈ gtbl := gm 1047 (by decide +kernel)
theorem k1064 : Cond.code yX9_lose cX9_lose 2 (some .int) ∈ gtbl := gm 1064 (by decide +kernel)
theorem ck_m_lose : (Cond.initialized Mm_lose.1.cls ∈ gtbl) ∧ (Cond.code Mm_lose.1 Mm_lose.2.1 Mm_lose.2.2.1 Mm_lose.2.2.2.1 ∈ gtbl) ∧ (Mm_lose.1.cls ≠ "java/lang/invoke/MethodHandle" ∧ Mm_lose.1.cls ≠ "java/lang/invoke/VarHandle" ∧ (parseMethodDescriptor Mm_lose.1.desc).map (fun d => d.parameters.length) = some 1) := ⟨k85, k1064, by decide +kernel, by decide +kernel, by decide +kernel⟩
theorem k1062 : Cond.instanceMethod yX9_lose ∈ gtbl := gm 1062 (by decide +kernel)
theorem k1063 : Cond.selects RX9 yX9_lose yX9_lose ∈ gtbl := gm 1063 (by decide +kernel)
theorem k1072 : Cond.code yX9_lacks cX9_lacks 4 (some .int) ∈ gtbl := gm 1072 (by decide +kernel)
theorem ck_m_lacks : (Cond.initialized Mm_lacks.1.cls ∈ gtbl) ∧ (Cond.code Mm_lacks.1 Mm_lacks.2.1 Mm_lacks.2.2.1 Mm_lacks.2.2.2.1 ∈ gtbl) ∧ (Mm_lacks.1.cls ≠ "java/lang/invoke/MethodHandle" ∧ Mm_lacks.1.cls ≠ "java/lang/invoke/VarHandle" ∧ (parseMethodDescriptor Mm_lacks.1.desc).map (fun d => d.parameters.length) = some 3) := ⟨k85, k1072, by decide +kernel, by decide +kernel, by decide +kernel⟩
theorem k1071 : Cond.instanceMethod yX9_lacks ∈ gtbl := gm 1071 (by decide +kernel)
theorem k33 : Cond.selects RX9 yX9_lacks yX9_lacks ∈ gtbl := gm 33 (by decide +kernel)
theorem k1075 : Cond.code yX9_cut cX9_cut 2 (some .int) ∈ gtbl := gm 1075 (by decide +kernel)
theorem ck_m_cut : (Cond.initialized Mm_cut.1.cls ∈ gtbl) ∧ (Cond.code Mm_cut.1 Mm_cut.2.1 Mm_cut.2.2.1 Mm_cut.2.2.2.1 ∈ gtbl) ∧ (Mm_cut.1.cls ≠ "java/lang/invoke/MethodHandle" ∧ Mm_cut.1.cls ≠ "java/lang/invoke/VarHandle" ∧ (parseMethodDescriptor Mm_cut.1.desc).map (fun d => d.parameters.length) = some 2) := ⟨k85, k1075, by decide +kernel, by decide +kernel, by decide +kernel⟩
theorem k1074 : Cond.static yX9_cut ∈ gtbl := gm 1074 (by decide +kernel)
theorem k1068 : Cond.code yX9_lay cX9_lay 6 (some .int) ∈ gtbl := gm 1068 (by decide +kernel)
theorem ck_m_lay : (Cond.initialized Mm_lay.1.cls ∈ gtbl) ∧ (Cond.code Mm_lay.1 Mm_lay.2.1 Mm_lay.2.2.1 Mm_lay.2.2.2.1 ∈ gtbl) ∧ (Mm_lay.1.cls ≠ "java/lang/invoke/MethodHandle" ∧ Mm_lay.1.cls ≠ "java/lang/invoke/VarHandle" ∧ (parseMethodDescriptor Mm_lay.1.desc).map (fun d => d.parameters.length) = some 4) := ⟨k85, k1068, by decide +kernel, by decide +kernel, by decide +kernel⟩
theorem k1066 : Cond.instanceMethod yX9_lay ∈ gtbl := gm 1066 (by decide +kernel)
theorem k1067 : Cond.selects RX9 yX9_lay yX9_lay ∈ gtbl := gm 1067 (by decide +kernel)
theorem k1079 : Cond.code yX9_get cX9_get 4 (some .int) ∈ gtbl := gm 1079 (by decide +kernel)
theorem ck_m_get : (Cond.initialized Mm_get.1.cls ∈ gtbl) ∧ (Cond.code Mm_get.1 Mm_get.2.1 Mm_get.2.2.1 Mm_get.2.2.2.1 ∈ gtbl) ∧ (Mm_get.1.cls ≠ "java/lang/invoke/MethodHandle" ∧ Mm_get.1.cls ≠ "java/lang/invoke/VarHandle" ∧ (parseMethodDescriptor Mm_get.1.desc).map (fun d => d.parameters.length) = some 3) := ⟨k85, k1079, by decide +kernel, by decide +kernel, by decide +kernel⟩
theorem k1077 : Cond.instanceMethod yX9_get ∈ gtbl := gm 1077 (by decide +kernel)
theorem k1078 : Cond.selects RX9 yX9_get yX9_get ∈ gtbl := gm 1078 (by decide +kernel)
theorem k1084 : Cond.code yX9_copy cX9_copy 7 (some .int) ∈ gtbl := gm 1084 (by decide +kernel)
theorem ck_m_copy : (Cond.initialized Mm_copy.1.cls ∈ gtbl) ∧ (Cond.code Mm_copy.1 Mm_copy.2.1 Mm_copy.2.2.1 Mm_copy.2.2.2.1 ∈ gtbl) ∧ (Mm_copy.1.cls ≠ "java/lang/invoke/MethodHandle" ∧ Mm_copy.1.cls ≠ "java/lang/invoke/VarHandle" ∧ (parseMethodDescriptor Mm_copy.1.desc).map (fun d => d.parameters.length) = some 5) := ⟨k85, k1084, by decide +kernel, by decide +kernel, by decide +kernel⟩
theorem k1082 : Cond.instanceMethod yX9_copy ∈ gtbl := gm 1082 (by decide +kernel)
theorem k1083 : Cond.selects RX9 yX9_copy yX9_copy ∈ gtbl := gm 1083 (by decide +kernel)
theorem k1088 : Cond.code yX9_type cX9_type 2 (some .int) ∈ gtbl := gm 1088 (by decide +kernel)
theorem ck_m_type : (Cond.initialized Mm_type.1.cls ∈ gtbl) ∧ (Cond.code Mm_type.1 Mm_type.2.1 Mm_type.2.2.1 Mm_type.2.2.2.1 ∈ gtbl) ∧ (Mm_type.1.cls ≠ "java/lang/invoke/MethodHandle" ∧ Mm_type.1.cls ≠ "java/lang/invoke/VarHandle" ∧ (parseMethodDescriptor Mm_type.1.desc).map (fun d => d.parameters.length) = some 1) := ⟨k85, k1088, by decide +kernel, by decide +kernel, by decide +kernel⟩
theorem k1086 : Cond.instanceMethod yX9_type ∈ gtbl := gm 1086 (by decide +kernel)
theorem k1087 : Cond.selects RX9 yX9_type yX9_type ∈ gtbl := gm 1087 (by decide +kernel)
theorem k1093 : Cond.code yX9_wipe cX9_wipe 2 (some .int) ∈ gtbl := gm 1093 (by decide +kernel)
theorem ck_m_wipe : (Cond.initialized Mm_wipe.1.cls ∈ gtbl) ∧ (Cond.code Mm_wipe.1 Mm_wipe.2.1 Mm_wipe.2.2.1 Mm_wipe.2.2.2.1 ∈ gtbl) ∧ (Mm_wipe.1.cls ≠ "java/lang/invoke/MethodHandle" ∧ Mm_wipe.1.cls ≠ "java/lang/invoke/VarHandle" ∧ (parseMethodDescriptor Mm_wipe.1.desc).map (fun d => d.parameters.length) = some 0) := ⟨k85, k1093, by decide +kernel, by decide +kernel, by decide +kernel⟩
theorem k1091 : Cond.instanceMethod yX9_wipe ∈ gtbl := gm 1091 (by decide +kernel)
theorem k1092 : Cond.selects RX9 yX9_wipe yX9_wipe ∈ gtbl := gm 1092 (by decide +kernel)
theorem k1105 : Cond.code yX9_readsPipe cX9_readsPipe 4 (some .boolean) ∈ gtbl := gm 1105 (by decide +kernel)
theorem ck_m_readsPipe : (Cond.initialized Mm_readsPipe.1.cls ∈ gtbl) ∧ (Cond.code Mm_readsPipe.1 Mm_readsPipe.2.1 Mm_readsPipe.2.2.1 Mm_readsPipe.2.2.2.1 ∈ gtbl) ∧ (Mm_readsPipe.1.cls ≠ "java/lang/invoke/MethodHandle" ∧ Mm_readsPipe.1.cls ≠ "java/lang/invoke/VarHandle" ∧ (parseMethodDescriptor Mm_readsPipe.1.desc).map (fun d => d.parameters.length) = some 0) := ⟨k85, k1105, by decide +kernel, by decide +kernel, by decide +kernel⟩
theorem k1104 : Cond.instanceMethod yX9_readsPipe ∈ gtbl := gm 1104 (by decide +kernel)
theorem k35 : Cond.selects RX9 yX9_readsPipe yX9_readsPipe ∈ gtbl := gm 35 (by decide +kernel)
theorem k1101 : Cond.code yX9_reads cX9_reads 3 (some .int) ∈ gtbl := gm 1101 (by decide +kernel)
theorem ck_m_reads : (Cond.initialized Mm_reads.1.cls ∈ gtbl) ∧ (Cond.code Mm_reads.1 Mm_reads.2.1 Mm_reads.2.2.1 Mm_reads.2.2.2.1 ∈ gtbl) ∧ (Mm_reads.1.cls ≠ "java/lang/invoke/MethodHandle" ∧ Mm_reads.1.cls ≠ "java/lang/invoke/VarHandle" ∧ (parseMethodDescriptor Mm_reads.1.desc).map (fun d => d.parameters.length) = some 0) := ⟨k85, k1101, by decide +kernel, by decide +kernel, by decide +kernel⟩
theorem k1100 : Cond.instanceMethod yX9_reads ∈ gtbl := gm 1100 (by decide +kernel)
theorem k34 : Cond.selects RX9 yX9_reads yX9_reads ∈ gtbl := gm 34 (by decide +kernel)
theorem k1097 : Cond.code yX9_fault cX9_fault 1 (some .int) ∈ gtbl := gm 1097 (by decide +kernel)
theorem ck_m_fault : (Cond.initialized Mm_fault.1.cls ∈ gtbl) ∧ (Cond.code Mm_fault.1 Mm_fault.2.1 Mm_fault.2.2.1 Mm_fault.2.2.2.1 ∈ gtbl) ∧ (Mm_fault.1.cls ≠ "java/lang/invoke/MethodHandle" ∧ Mm_fault.1.cls ≠ "java/lang/invoke/VarHandle" ∧ (parseMethodDescriptor Mm_fault.1.desc).map (fun d => d.parameters.length) = some 0) := ⟨k85, k1097, by decide +kernel, by decide +kernel, by decide +kernel⟩
theorem k1095 : Cond.instanceMethod yX9_fault ∈ gtbl := gm 1095 (by decide +kernel)
theorem k1096 : Cond.selects RX9 yX9_fault yX9_fault ∈ gtbl := gm 1096 (by decide +kernel)
theorem k1111 : Cond.code yX9_undo cX9_undo 1 (some .int) ∈ gtbl := gm 1111 (by decide +kernel)
theorem ck_m_undo : (Cond.initialized Mm_undo.1.cls ∈ gtbl) ∧ (Cond.code Mm_undo.1 Mm_undo.2.1 Mm_undo.2.2.1 Mm_undo.2.2.2.1 ∈ gtbl) ∧ (Mm_undo.1.cls ≠ "java/lang/invoke/MethodHandle" ∧ Mm_undo.1.cls ≠ "java/lang/invoke/VarHandle" ∧ (parseMethodDescriptor Mm_undo.1.desc).map (fun d => d.parameters.length) = some 0) := ⟨k85, k1111, by decide +kernel, by decide +kernel, by decide +kernel⟩
theorem k1109 : Cond.instanceMethod yX9_undo ∈ gtbl := gm 1109 (by decide +kernel)
theorem k1110 : Cond.selects RX9 yX9_undo yX9_undo ∈ gtbl := gm 1110 (by decide +kernel)
theorem k1115 : Cond.code yX9_set cX9_set 4 (some .int) ∈ gtbl := gm 1115 (by decide +kernel)
theorem ck_m_set : (Cond.initialized Mm_set.1.cls ∈ gtbl) ∧ (Cond.code Mm_set.1 Mm_set.2.1 Mm_set.2.2.1 Mm_set.2.2.2.1 ∈ gtbl) ∧ (Mm_set.1.cls ≠ "java/lang/invoke/MethodHandle" ∧ Mm_set.1.cls ≠ "java/lang/invoke/VarHandle" ∧ (parseMethodDescriptor Mm_set.1.desc).map (fun d => d.parameters.length) = some 2) := ⟨k85, k1115, by decide +kernel, by decide +kernel, by decide +kernel⟩
theorem k1113 : Cond.instanceMethod yX9_set ∈ gtbl := gm 1113 (by decide +kernel)
theorem k1114 : Cond.selects RX9 yX9_set yX9_set ∈ gtbl := gm 1114 (by decide +kernel)
theorem k1128 : Cond.code yX9_isEnd cX9_isEnd 1 (some .boolean) ∈ gtbl := gm 1128 (by decide +kernel)
theorem ck_m_isEnd : (Cond.initialized Mm_isEnd.1.cls ∈ gtbl) ∧ (Cond.code Mm_isEnd.1 Mm_isEnd.2.1 Mm_isEnd.2.2.1 Mm_isEnd.2.2.2.1 ∈ gtbl) ∧ (Mm_isEnd.1.cls ≠ "java/lang/invoke/MethodHandle" ∧ Mm_isEnd.1.cls ≠ "java/lang/invoke/VarHandle" ∧ (parseMethodDescriptor Mm_isEnd.1.desc).map (fun d => d.parameters.length) = some 1) := ⟨k85, k1128, by decide +kernel, by decide +kernel, by decide +kernel⟩
theorem k1127 : Cond.static yX9_isEnd ∈ gtbl := gm 1127 (by decide +kernel)
theorem k1139 : Cond.code yX9_isWire cX9_isWire 1 (some .boolean) ∈ gtbl := gm 1139 (by decide +kernel)
theorem ck_m_isWire : (Cond.initialized Mm_isWire.1.cls ∈ gtbl) ∧ (Cond.code Mm_isWire.1 Mm_isWire.2.1 Mm_isWire.2.2.1 Mm_isWire.2.2.2.1 ∈ gtbl) ∧ (Mm_isWire.1.cls ≠ "java/lang/invoke/MethodHandle" ∧ Mm_isWire.1.cls ≠ "java/lang/invoke/VarHandle" ∧ (parseMethodDescriptor Mm_isWire.1.desc).map (fun d => d.parameters.length) = some 1) := ⟨k85, k1139, by decide +kernel, by decide +kernel, by decide +kernel⟩
theorem k1138 : Cond.static yX9_isWire ∈ gtbl := gm 1138 (by decide +kernel)
theorem k1125 : Cond.code yX9_areEnds cX9_areEnds 2 (some .boolean) ∈ gtbl := gm 1125 (by decide +kernel)
theorem ck_m_areEnds : (Cond.initialized Mm_areEnds.1.cls ∈ gtbl) ∧ (Cond.code Mm_areEnds.1 Mm_areEnds.2.1 Mm_areEnds.2.2.1 Mm_areEnds.2.2.2.1 ∈ gtbl) ∧ (Mm_areEnds.1.cls ≠ "java/lang/invoke/MethodHandle" ∧ Mm_areEnds.1.cls ≠ "java/lang/invoke/VarHandle" ∧ (parseMethodDescriptor Mm_areEnds.1.desc).map (fun d => d.parameters.length) = some 2) := ⟨k85, k1125, by decide +kernel, by decide +kernel, by decide +kernel⟩
theorem k1124 : Cond.static yX9_areEnds ∈ gtbl := gm 1124 (by decide +kernel)
theorem k1132 : Cond.code yX9_more cX9_more 3 (some .int) ∈ gtbl := gm 1132 (by decide +kernel)
theorem ck_m_more : (Cond.initialized Mm_more.1.cls ∈ gtbl) ∧ (Cond.code Mm_more.1 Mm_more.2.1 Mm_more.2.2.1 Mm_more.2.2.2.1 ∈ gtbl) ∧ (Mm_more.1.cls ≠ "java/lang/invoke/MethodHandle" ∧ Mm_more.1.cls ≠ "java/lang/invoke/VarHandle" ∧ (parseMethodDescriptor Mm_more.1.desc).map (fun d => d.parameters.length) = some 2) := ⟨k85, k1132, by decide +kernel, by decide +kernel, by decide +kernel⟩
theorem k1131 : Cond.instanceMethod yX9_more ∈ gtbl := gm 1131 (by decide +kernel)
theorem k36 : Cond.selects RX9 yX9_more yX9_more ∈ gtbl := gm 36 (by decide +kernel)
theorem k1122 : Cond.code yX9_letIn cX9_letIn 3 (some .int) ∈ gtbl := gm 1122 (by decide +kernel)
theorem ck_m_letIn : (Cond.initialized Mm_letIn.1.cls ∈ gtbl) ∧ (Cond.code Mm_letIn.1 Mm_letIn.2.1 Mm_letIn.2.2.1 Mm_letIn.2.2.2.1 ∈ gtbl) ∧ (Mm_letIn.1.cls ≠ "java/lang/invoke/MethodHandle" ∧ Mm_letIn.1.cls ≠ "java/lang/invoke/VarHandle" ∧ (parseMethodDescriptor Mm_letIn.1.desc).map (fun d => d.parameters.length) = some 2) := ⟨k85, k1122, by decide +kernel, by decide +kernel, by decide +kernel⟩
theorem k1120 : Cond.instanceMethod yX9_letIn ∈ gtbl := gm 1120 (by decide +kernel)
theorem k1121 : Cond.selects RX9 yX9_letIn yX9_letIn ∈ gtbl := gm 1121 (by decide +kernel)
theorem k1136 : Cond.code yX9_pull cX9_pull 2 (some .int) ∈ gtbl := gm 1136 (by decide +kernel)
theorem ck_m_pull : (Cond.initialized Mm_pull.1.cls ∈ gtbl) ∧ (Cond.code Mm_pull.1 Mm_pull.2.1 Mm_pull.2.2.1 Mm_pull.2.2.2.1 ∈ gtbl) ∧ (Mm_pull.1.cls ≠ "java/lang/invoke/MethodHandle" ∧ Mm_pull.1.cls ≠ "java/lang/invoke/VarHandle" ∧ (parseMethodDescriptor Mm_pull.1.desc).map (fun d => d.parameters.length) = some 1) := ⟨k85, k1136, by decide +kernel, by decide +kernel, by decide +kernel⟩
theorem k1134 : Cond.instanceMethod yX9_pull ∈ gtbl := gm 1134 (by decide +kernel)
theorem k1135 : Cond.selects RX9 yX9_pull yX9_pull ∈ gtbl := gm 1135 (by decide +kernel)
theorem k1144 : Cond.code yX9_back cX9_back 1 (some .int) ∈ gtbl := gm 1144 (by decide +kernel)
theorem ck_m_back : (Cond.initialized Mm_back.1.cls ∈ gtbl) ∧ (Cond.code Mm_back.1 Mm_back.2.1 Mm_back.2.2.1 Mm_back.2.2.2.1 ∈ gtbl) ∧ (Mm_back.1.cls ≠ "java/lang/invoke/MethodHandle" ∧ Mm_back.1.cls ≠ "java/lang/invoke/VarHandle" ∧ (parseMethodDescriptor Mm_back.1.desc).map (fun d => d.parameters.length) = some 0) := ⟨k85, k1144, by decide +kernel, by decide +kernel, by decide +kernel⟩
theorem k1142 : Cond.instanceMethod yX9_back ∈ gtbl := gm 1142 (by decide +kernel)
theorem k1143 : Cond.selects RX9 yX9_back yX9_back ∈ gtbl := gm 1143 (by decide +kernel)
theorem k1148 : Cond.code yX9_read cX9_read 4 (some .int) ∈ gtbl := gm 1148 (by decide +kernel)
theorem ck_m_read : (Cond.initialized Mm_read.1.cls ∈ gtbl) ∧ (Cond.code Mm_read.1 Mm_read.2.1 Mm_read.2.2.1 Mm_read.2.2.2.1 ∈ gtbl) ∧ (Mm_read.1.cls ≠ "java/lang/invoke/MethodHandle" ∧ Mm_read.1.cls ≠ "java/lang/invoke/VarHandle" ∧ (parseMethodDescriptor Mm_read.1.desc).map (fun d => d.parameters.length) = some 1) := ⟨k85, k1148, by decide +kernel, by decide +kernel, by decide +kernel⟩
theorem k1146 : Cond.instanceMethod yX9_read ∈ gtbl := gm 1146 (by decide +kernel)
theorem k1147 : Cond.selects RX9 yX9_read yX9_read ∈ gtbl := gm 1147 (by decide +kernel)
theorem k1184 : Cond.code yX9_other cX9_other 3 (some .int) ∈ gtbl := gm 1184 (by decide +kernel)
theorem ck_m_other : (Cond.initialized Mm_other.1.cls ∈ gtbl) ∧ (Cond.code Mm_other.1 Mm_other.2.1 Mm_other.2.2.1 Mm_other.2.2.2.1 ∈ gtbl) ∧ (Mm_other.1.cls ≠ "java/lang/invoke/MethodHandle" ∧ Mm_other.1.cls ≠ "java/lang/invoke/VarHandle" ∧ (parseMethodDescriptor Mm_other.1.desc).map (fun d => d.parameters.length) = some 2) := ⟨k85, k1184, by decide +kernel, by decide +kernel, by decide +kernel⟩
theorem k1183 : Cond.instanceMethod yX9_other ∈ gtbl := gm 1183 (by decide +kernel)
theorem k43 : Cond.selects RX9 yX9_other yX9_other ∈ gtbl := gm 43 (by decide +kernel)
theorem k1177 : Cond.code yX9_isOpen cX9_isOpen 2 (some .boolean) ∈ gtbl := gm 1177 (by decide +kernel)
theorem ck_m_isOpen : (Cond.initialized Mm_isOpen.1.cls ∈ gtbl) ∧ (Cond.code Mm_isOpen.1 Mm_isOpen.2.1 Mm_isOpen.2.2.1 Mm_isOpen.2.2.2.1 ∈ gtbl) ∧ (Mm_isOpen.1.cls ≠ "java/lang/invoke/MethodHandle" ∧ Mm_isOpen.1.cls ≠ "java/lang/invoke/VarHandle" ∧ (parseMethodDescriptor Mm_isOpen.1.desc).map (fun d => d.parameters.length) = some 1) := ⟨k85, k1177, by decide +kernel, by decide +kernel, by decide +kernel⟩
theorem k1176 : Cond.instanceMethod yX9_isOpen ∈ gtbl := gm 1176 (by decide +kernel)
theorem k42 : Cond.selects RX9 yX9_isOpen yX9_isOpen ∈ gtbl := gm 42 (by decide +kernel)
theorem k1173 : Cond.code yX9_findFar cX9_findFar 7 none ∈ gtbl := gm 1173 (by decide +kernel)
theorem ck_m_findFar : (Cond.initialized Mm_findFar.1.cls ∈ gtbl) ∧ (Cond.code Mm_findFar.1 Mm_findFar.2.1 Mm_findFar.2.2.1 Mm_findFar.2.2.2.1 ∈ gtbl) ∧ (Mm_findFar.1.cls ≠ "java/lang/invoke/MethodHandle" ∧ Mm_findFar.1.cls ≠ "java/lang/invoke/VarHandle" ∧ (parseMethodDescriptor Mm_findFar.1.desc).map (fun d => d.parameters.length) = some 1) := ⟨k85, k1173, by decide +kernel, by decide +kernel, by decide +kernel⟩
theorem k1172 : Cond.instanceMethod yX9_findFar ∈ gtbl := gm 1172 (by decide +kernel)
theorem k41 : Cond.selects RX9 yX9_findFar yX9_findFar ∈ gtbl := gm 41 (by decide +kernel)
theorem k1169 : Cond.code yX9_findWay cX9_findWay 8 (some .int) ∈ gtbl := gm 1169 (by decide +kernel)
theorem ck_m_findWay : (Cond.initialized Mm_findWay.1.cls ∈ gtbl) ∧ (Cond.code Mm_findWay.1 Mm_findWay.2.1 Mm_findWay.2.2.1 Mm_findWay.2.2.2.1 ∈ gtbl) ∧ (Mm_findWay.1.cls ≠ "java/lang/invoke/MethodHandle" ∧ Mm_findWay.1.cls ≠ "java/lang/invoke/VarHandle" ∧ (parseMethodDescriptor Mm_findWay.1.desc).map (fun d => d.parameters.length) = some 2) := ⟨k85, k1169, by decide +kernel, by decide +kernel, by decide +kernel⟩
theorem k1168 : Cond.instanceMethod yX9_findWay ∈ gtbl := gm 1168 (by decide +kernel)
theorem k40 : Cond.selects RX9 yX9_findWay yX9_findWay ∈ gtbl := gm 40 (by decide +kernel)
theorem k1165 : Cond.code yX9_draws cX9_draws 6 (some .int) ∈ gtbl := gm 1165 (by decide +kernel)
theorem ck_m_draws : (Cond.initialized Mm_draws.1.cls ∈ gtbl) ∧ (Cond.code Mm_draws.1 Mm_draws.2.1 Mm_draws.2.2.1 Mm_draws.2.2.2.1 ∈ gtbl) ∧ (Mm_draws.1.cls ≠ "java/lang/invoke/MethodHandle" ∧ Mm_draws.1.cls ≠ "java/lang/invoke/VarHandle" ∧ (parseMethodDescriptor Mm_draws.1.desc).map (fun d => d.parameters.length) = some 2) := ⟨k85, k1165, by decide +kernel, by decide +kernel, by decide +kernel⟩
theorem k1164 : Cond.instanceMethod yX9_draws ∈ gtbl := gm 1164 (by decide +kernel)
theorem k39 : Cond.selects RX9 yX9_draws yX9_draws ∈ gtbl := gm 39 (by decide +kernel)
theorem k1188 : Cond.code yX9_canPull cX9_canPull 4 (some .boolean) ∈ gtbl := gm 1188 (by decide +kernel)
theorem ck_m_canPull : (Cond.initialized Mm_canPull.1.cls ∈ gtbl) ∧ (Cond.code Mm_canPull.1 Mm_canPull.2.1 Mm_canPull.2.2.1 Mm_canPull.2.2.2.1 ∈ gtbl) ∧ (Mm_canPull.1.cls ≠ "java/lang/invoke/MethodHandle" ∧ Mm_canPull.1.cls ≠ "java/lang/invoke/VarHandle" ∧ (parseMethodDescriptor Mm_canPull.1.desc).map (fun d => d.parameters.length) = some 1) := ⟨k85, k1188, by decide +kernel, by decide +kernel, by decide +kernel⟩
theorem k1187 : Cond.instanceMethod yX9_canPull ∈ gtbl := gm 1187 (by decide +kernel)
theorem k44 : Cond.selects RX9 yX9_canPull yX9_canPull ∈ gtbl := gm 44 (by decide +kernel)
theorem k1192 : Cond.code yX9_pulls cX9_pulls 3 none ∈ gtbl := gm 1192 (by decide +kernel)
theorem ck_m_pulls : (Cond.initialized Mm_pulls.1.cls ∈ gtbl) ∧ (Cond.code Mm_pulls.1 Mm_pulls.2.1 Mm_pulls.2.2.1 Mm_pulls.2.2.2.1 ∈ gtbl) ∧ (Mm_pulls.1.cls ≠ "java/lang/invoke/MethodHandle" ∧ Mm_pulls.1.cls ≠ "java/lang/invoke/VarHandle" ∧ (parseMethodDescriptor Mm_pulls.1.desc).map (fun d => d.parameters.length) = some 1) := ⟨k85, k1192, by decide +kernel, by decide +kernel, by decide +kernel⟩
theorem k1191 : Cond.instanceMethod yX9_pulls ∈ gtbl := gm 1191 (by decide +kernel)
theorem k45 : Cond.selects RX9 yX9_pulls yX9_pulls ∈ gtbl := gm 45 (by decide +kernel)
theorem k1161 : Cond.code yX9_goes cX9_goes 4 none ∈ gtbl := gm 1161 (by decide +kernel)
theorem ck_m_goes : (Cond.initialized Mm_goes.1.cls ∈ gtbl) ∧ (Cond.code Mm_goes.1 Mm_goes.2.1 Mm_goes.2.2.1 Mm_goes.2.2.2.1 ∈ gtbl) ∧ (Mm_goes.1.cls ≠ "java/lang/invoke/MethodHandle" ∧ Mm_goes.1.cls ≠ "java/lang/invoke/VarHandle" ∧ (parseMethodDescriptor Mm_goes.1.desc).map (fun d => d.parameters.length) = some 1) := ⟨k85, k1161, by decide +kernel, by decide +kernel, by decide +kernel⟩
theorem k1160 : Cond.instanceMethod yX9_goes ∈ gtbl := gm 1160 (by decide +kernel)
theorem k38 : Cond.selects RX9 yX9_goes yX9_goes ∈ gtbl := gm 38 (by decide +kernel)
theorem k1157 : Cond.code yX9_goesAll cX9_goesAll 1 none ∈ gtbl := gm 1157 (by decide +kernel)
theorem ck_m_goesAll : (Cond.initialized Mm_goesAll.1.cls ∈ gtbl) ∧ (Cond.code Mm_goesAll.1 Mm_goesAll.2.1 Mm_goesAll.2.2.1 Mm_goesAll.2.2.2.1 ∈ gtbl) ∧ (Mm_goesAll.1.cls ≠ "java/lang/invoke/MethodHandle" ∧ Mm_goesAll.1.cls ≠ "java/lang/invoke/VarHandle" ∧ (parseMethodDescriptor Mm_goesAll.1.desc).map (fun d => d.parameters.length) = some 0) := ⟨k85, k1157, by decide +kernel, by decide +kernel, by decide +kernel⟩
theorem k1156 : Cond.instanceMethod yX9_goesAll ∈ gtbl := gm 1156 (by decide +kernel)
theorem k37 : Cond.selects RX9 yX9_goesAll yX9_goesAll ∈ gtbl := gm 37 (by decide +kernel)
theorem k1153 : Cond.code yX9_pipe cX9_pipe 3 (some .int) ∈ gtbl := gm 1153 (by decide +kernel)
theorem ck_m_pipe : (Cond.initialized Mm_pipe.1.cls ∈ gtbl) ∧ (Cond.code Mm_pipe.1 Mm_pipe.2.1 Mm_pipe.2.2.1 Mm_pipe.2.2.2.1 ∈ gtbl) ∧ (Mm_pipe.1.cls ≠ "java/lang/invoke/MethodHandle" ∧ Mm_pipe.1.cls ≠ "java/lang/invoke/VarHandle" ∧ (parseMethodDescriptor Mm_pipe.1.desc).map (fun d => d.parameters.length) = some 2) := ⟨k85, k1153, by decide +kernel, by decide +kernel, by decide +kernel⟩
theorem k1151 : Cond.instanceMethod yX9_pipe ∈ gtbl := gm 1151 (by decide +kernel)
theorem k1152 : Cond.selects RX9 yX9_pipe yX9_pipe ∈ gtbl := gm 1152 (by decide +kernel)
theorem k1196 : Cond.code yX9_judged cX9_judged 1 (some .int) ∈ gtbl := gm 1196 (by decide +kernel)
theorem ck_m_judged : (Cond.initialized Mm_judged.1.cls ∈ gtbl) ∧ (Cond.code Mm_judged.1 Mm_judged.2.1 Mm_judged.2.2.1 Mm_judged.2.2.2.1 ∈ gtbl) ∧ (Mm_judged.1.cls ≠ "java/lang/invoke/MethodHandle" ∧ Mm_judged.1.cls ≠ "java/lang/invoke/VarHandle" ∧ (parseMethodDescriptor Mm_judged.1.desc).map (fun d => d.parameters.length) = some 0) := ⟨k85, k1196, by decide +kernel, by decide +kernel, by decide +kernel⟩
theorem k1194 : Cond.instanceMethod yX9_judged ∈ gtbl := gm 1194 (by decide +kernel)
theorem k1195 : Cond.selects RX9 yX9_judged yX9_judged ∈ gtbl := gm 1195 (by decide +kernel)
theorem k1211 : Cond.code yX9_fullNow cX9_fullNow 3 (some .int) ∈ gtbl := gm 1211 (by decide +kernel)
theorem ck_m_fullNow : (Cond.initialized Mm_fullNow.1.cls ∈ gtbl) ∧ (Cond.code Mm_fullNow.1 Mm_fullNow.2.1 Mm_fullNow.2.2.1 Mm_fullNow.2.2.2.1 ∈ gtbl) ∧ (Mm_fullNow.1.cls ≠ "java/lang/invoke/MethodHandle" ∧ Mm_fullNow.1.cls ≠ "java/lang/invoke/VarHandle" ∧ (parseMethodDescriptor Mm_fullNow.1.desc).map (fun d => d.parameters.length) = some 0) := ⟨k85, k1211, by decide +kernel, by decide +kernel, by decide +kernel⟩
theorem k1210 : Cond.instanceMethod yX9_fullNow ∈ gtbl := gm 1210 (by decide +kernel)
theorem k47 : Cond.selects RX9 yX9_fullNow yX9_fullNow ∈ gtbl := gm 47 (by decide +kernel)
theorem k1207 : Cond.code yX9_stateOf cX9_stateOf 3 (some .int) ∈ gtbl := gm 1207 (by decide +kernel)
theorem ck_m_stateOf : (Cond.initialized Mm_stateOf.1.cls ∈ gtbl) ∧ (Cond.code Mm_stateOf.1 Mm_stateOf.2.1 Mm_stateOf.2.2.1 Mm_stateOf.2.2.2.1 ∈ gtbl) ∧ (Mm_stateOf.1.cls ≠ "java/lang/invoke/MethodHandle" ∧ Mm_stateOf.1.cls ≠ "java/lang/invoke/VarHandle" ∧ (parseMethodDescriptor Mm_stateOf.1.desc).map (fun d => d.parameters.length) = some 2) := ⟨k85, k1207, by decide +kernel, by decide +kernel, by decide +kernel⟩
theorem k1206 : Cond.instanceMethod yX9_stateOf ∈ gtbl := gm 1206 (by decide +kernel)
theorem k46 : Cond.selects RX9 yX9_stateOf yX9_stateOf ∈ gtbl := gm 46 (by decide +kernel)
theorem k1200 : Cond.code yX9_state cX9_state 3 (some .int) ∈ gtbl := gm 1200 (by decide +kernel)
theorem ck_m_state : (Cond.initialized Mm_state.1.cls ∈ gtbl) ∧ (Cond.code Mm_state.1 Mm_state.2.1 Mm_state.2.2.1 Mm_state.2.2.2.1 ∈ gtbl) ∧ (Mm_state.1.cls ≠ "java/lang/invoke/MethodHandle" ∧ Mm_state.1.cls ≠ "java/lang/invoke/VarHandle" ∧ (parseMethodDescriptor Mm_state.1.desc).map (fun d => d.parameters.length) = some 2) := ⟨k85, k1200, by decide +kernel, by decide +kernel, by decide +kernel⟩
theorem k1198 : Cond.instanceMethod yX9_state ∈ gtbl := gm 1198 (by decide +kernel)
theorem k1199 : Cond.selects RX9 yX9_state yX9_state ∈ gtbl := gm 1199 (by decide +kernel)
theorem k1219 : Cond.code yX9_pipesOf cX9_pipesOf 2 (some .int) ∈ gtbl := gm 1219 (by decide +kernel)
theorem ck_m_pipesOf : (Cond.initialized Mm_pipesOf.1.cls ∈ gtbl) ∧ (Cond.code Mm_pipesOf.1 Mm_pipesOf.2.1 Mm_pipesOf.2.2.1 Mm_pipesOf.2.2.2.1 ∈ gtbl) ∧ (Mm_pipesOf.1.cls ≠ "java/lang/invoke/MethodHandle" ∧ Mm_pipesOf.1.cls ≠ "java/lang/invoke/VarHandle" ∧ (parseMethodDescriptor Mm_pipesOf.1.desc).map (fun d => d.parameters.length) = some 1) := ⟨k85, k1219, by decide +kernel, by decide +kernel, by decide +kernel⟩
theorem k1218 : Cond.instanceMethod yX9_pipesOf ∈ gtbl := gm 1218 (by decide +kernel)
theorem k48 : Cond.selects RX9 yX9_pipesOf yX9_pipesOf ∈ gtbl := gm 48 (by decide +kernel)
theorem k1215 : Cond.code yX9_wire cX9_wire 3 (some .int) ∈ gtbl := gm 1215 (by decide +kernel)
theorem ck_m_wire : (Cond.initialized Mm_wire.1.cls ∈ gtbl) ∧ (Cond.code Mm_wire.1 Mm_wire.2.1 Mm_wire.2.2.1 Mm_wire.2.2.2.1 ∈ gtbl) ∧ (Mm_wire.1.cls ≠ "java/lang/invoke/MethodHandle" ∧ Mm_wire.1.cls ≠ "java/lang/invoke/VarHandle" ∧ (parseMethodDescriptor Mm_wire.1.desc).map (fun d => d.parameters.length) = some 2) := ⟨k85, k1215, by decide +kernel, by decide +kernel, by decide +kernel⟩
theorem k1213 : Cond.instanceMethod yX9_wire ∈ gtbl := gm 1213 (by decide +kernel)
theorem k1214 : Cond.selects RX9 yX9_wire yX9_wire ∈ gtbl := gm 1214 (by decide +kernel)
theorem k1227 : Cond.code yX9_outOf cX9_outOf 5 (some .int) ∈ gtbl := gm 1227 (by decide +kernel)
theorem ck_m_outOf : (Cond.initialized Mm_outOf.1.cls ∈ gtbl) ∧ (Cond.code Mm_outOf.1 Mm_outOf.2.1 Mm_outOf.2.2.1 Mm_outOf.2.2.2.1 ∈ gtbl) ∧ (Mm_outOf.1.cls ≠ "java/lang/invoke/MethodHandle" ∧ Mm_outOf.1.cls ≠ "java/lang/invoke/VarHandle" ∧ (parseMethodDescriptor Mm_outOf.1.desc).map (fun d => d.parameters.length) = some 1) := ⟨k85, k1227, by decide +kernel, by decide +kernel, by decide +kernel⟩
theorem k1226 : Cond.instanceMethod yX9_outOf ∈ gtbl := gm 1226 (by decide +kernel)
theorem k49 : Cond.selects RX9 yX9_outOf yX9_outOf ∈ gtbl := gm 49 (by decide +kernel)
theorem k1223 : Cond.code yX9_out cX9_out 2 (some .int) ∈ gtbl := gm 1223 (by decide +kernel)
theorem ck_m_out : (Cond.initialized Mm_out.1.cls ∈ gtbl) ∧ (Cond.code Mm_out.1 Mm_out.2.1 Mm_out.2.2.1 Mm_out.2.2.2.1 ∈ gtbl) ∧ (Mm_out.1.cls ≠ "java/lang/invoke/MethodHandle" ∧ Mm_out.1.cls ≠ "java/lang/invoke/VarHandle" ∧ (parseMethodDescriptor Mm_out.1.desc).map (fun d => d.parameters.length) = some 1) := ⟨k85, k1223, by decide +kernel, by decide +kernel, by decide +kernel⟩
theorem k1221 : Cond.instanceMethod yX9_out ∈ gtbl := gm 1221 (by decide +kernel)
theorem k1222 : Cond.selects RX9 yX9_out yX9_out ∈ gtbl := gm 1222 (by decide +kernel)
theorem k1235 : Cond.code yX9_shortestOf cX9_shortestOf 5 (some .int) ∈ gtbl := gm 1235 (by decide +kernel)
theorem ck_m_shortestOf : (Cond.initialized Mm_shortestOf.1.cls ∈ gtbl) ∧ (Cond.code Mm_shortestOf.1 Mm_shortestOf.2.1 Mm_shortestOf.2.2.1 Mm_shortestOf.2.2.2.1 ∈ gtbl) ∧ (Mm_shortestOf.1.cls ≠ "java/lang/invoke/MethodHandle" ∧ Mm_shortestOf.1.cls ≠ "java/lang/invoke/VarHandle" ∧ (parseMethodDescriptor Mm_shortestOf.1.desc).map (fun d => d.parameters.length) = some 3) := ⟨k85, k1235, by decide +kernel, by decide +kernel, by decide +kernel⟩
theorem k1234 : Cond.instanceMethod yX9_shortestOf ∈ gtbl := gm 1234 (by decide +kernel)
theorem k50 : Cond.selects RX9 yX9_shortestOf yX9_shortestOf ∈ gtbl := gm 50 (by decide +kernel)
theorem k1231 : Cond.code yX9_shortest cX9_shortest 4 (some .int) ∈ gtbl := gm 1231 (by decide +kernel)
theorem ck_m_shortest : (Cond.initialized Mm_shortest.1.cls ∈ gtbl) ∧ (Cond.code Mm_shortest.1 Mm_shortest.2.1 Mm_shortest.2.2.1 Mm_shortest.2.2.2.1 ∈ gtbl) ∧ (Mm_shortest.1.cls ≠ "java/lang/invoke/MethodHandle" ∧ Mm_shortest.1.cls ≠ "java/lang/invoke/VarHandle" ∧ (parseMethodDescriptor Mm_shortest.1.desc).map (fun d => d.parameters.length) = some 3) := ⟨k85, k1231, by decide +kernel, by decide +kernel, by decide +kernel⟩
theorem k1229 : Cond.instanceMethod yX9_shortest ∈ gtbl := gm 1229 (by decide +kernel)
theorem k1230 : Cond.selects RX9 yX9_shortest yX9_shortest ∈ gtbl := gm 1230 (by decide +kernel)
theorem k1247 : Cond.code yX9_keeps cX9_keeps 2 none ∈ gtbl := gm 1247 (by decide +kernel)
theorem ck_m_keeps : (Cond.initialized Mm_keeps.1.cls ∈ gtbl) ∧ (Cond.code Mm_keeps.1 Mm_keeps.2.1 Mm_keeps.2.2.1 Mm_keeps.2.2.2.1 ∈ gtbl) ∧ (Mm_keeps.1.cls ≠ "java/lang/invoke/MethodHandle" ∧ Mm_keeps.1.cls ≠ "java/lang/invoke/VarHandle" ∧ (parseMethodDescriptor Mm_keeps.1.desc).map (fun d => d.parameters.length) = some 0) := ⟨k85, k1247, by decide +kernel, by decide +kernel, by decide +kernel⟩
theorem k1246 : Cond.instanceMethod yX9_keeps ∈ gtbl := gm 1246 (by decide +kernel)
theorem k52 : Cond.selects RX9 yX9_keeps yX9_keeps ∈ gtbl := gm 52 (by decide +kernel)
theorem k1251 : Cond.code yX9_putsBack cX9_putsBack 2 none ∈ gtbl := gm 1251 (by decide +kernel)
theorem ck_m_putsBack : (Cond.initialized Mm_putsBack.1.cls ∈ gtbl) ∧ (Cond.code Mm_putsBack.1 Mm_putsBack.2.1 Mm_putsBack.2.2.1 Mm_putsBack.2.2.2.1 ∈ gtbl) ∧ (Mm_putsBack.1.cls ≠ "java/lang/invoke/MethodHandle" ∧ Mm_putsBack.1.cls ≠ "java/lang/invoke/VarHandle" ∧ (parseMethodDescriptor Mm_putsBack.1.desc).map (fun d => d.parameters.length) = some 0) := ⟨k85, k1251, by decide +kernel, by decide +kernel, by decide +kernel⟩
theorem k1250 : Cond.instanceMethod yX9_putsBack ∈ gtbl := gm 1250 (by decide +kernel)
theorem k53 : Cond.selects RX9 yX9_putsBack yX9_putsBack ∈ gtbl := gm 53 (by decide +kernel)
theorem k1243 : Cond.code yX9_drawnOf cX9_drawnOf 4 (some .int) ∈ gtbl := gm 1243 (by decide +kernel)
theorem ck_m_drawnOf : (Cond.initialized Mm_drawnOf.1.cls ∈ gtbl) ∧ (Cond.code Mm_drawnOf.1 Mm_drawnOf.2.1 Mm_drawnOf.2.2.1 Mm_drawnOf.2.2.2.1 ∈ gtbl) ∧ (Mm_drawnOf.1.cls ≠ "java/lang/invoke/MethodHandle" ∧ Mm_drawnOf.1.cls ≠ "java/lang/invoke/VarHandle" ∧ (parseMethodDescriptor Mm_drawnOf.1.desc).map (fun d => d.parameters.length) = some 2) := ⟨k85, k1243, by decide +kernel, by decide +kernel, by decide +kernel⟩
theorem k1242 : Cond.instanceMethod yX9_drawnOf ∈ gtbl := gm 1242 (by decide +kernel)
theorem k51 : Cond.selects RX9 yX9_drawnOf yX9_drawnOf ∈ gtbl := gm 51 (by decide +kernel)
theorem k1259 : Cond.code yX9_flows cX9_flows 9 (some .boolean) ∈ gtbl := gm 1259 (by decide +kernel)
theorem ck_m_flows : (Cond.initialized Mm_flows.1.cls ∈ gtbl) ∧ (Cond.code Mm_flows.1 Mm_flows.2.1 Mm_flows.2.2.1 Mm_flows.2.2.2.1 ∈ gtbl) ∧ (Mm_flows.1.cls ≠ "java/lang/invoke/MethodHandle" ∧ Mm_flows.1.cls ≠ "java/lang/invoke/VarHandle" ∧ (parseMethodDescriptor Mm_flows.1.desc).map (fun d => d.parameters.length) = some 2) := ⟨k85, k1259, by decide +kernel, by decide +kernel, by decide +kernel⟩
theorem k1258 : Cond.instanceMethod yX9_flows ∈ gtbl := gm 1258 (by decide +kernel)
theorem k55 : Cond.selects RX9 yX9_flows yX9_flows ∈ gtbl := gm 55 (by decide +kernel)
theorem k1255 : Cond.code yX9_mostOf cX9_mostOf 4 (some .int) ∈ gtbl := gm 1255 (by decide +kernel)
theorem ck_m_mostOf : (Cond.initialized Mm_mostOf.1.cls ∈ gtbl) ∧ (Cond.code Mm_mostOf.1 Mm_mostOf.2.1 Mm_mostOf.2.2.1 Mm_mostOf.2.2.2.1 ∈ gtbl) ∧ (Mm_mostOf.1.cls ≠ "java/lang/invoke/MethodHandle" ∧ Mm_mostOf.1.cls ≠ "java/lang/invoke/VarHandle" ∧ (parseMethodDescriptor Mm_mostOf.1.desc).map (fun d => d.parameters.length) = some 2) := ⟨k85, k1255, by decide +kernel, by decide +kernel, by decide +kernel⟩
theorem k1254 : Cond.instanceMethod yX9_mostOf ∈ gtbl := gm 1254 (by decide +kernel)
theorem k54 : Cond.selects RX9 yX9_mostOf yX9_mostOf ∈ gtbl := gm 54 (by decide +kernel)
theorem k1239 : Cond.code yX9_most cX9_most 4 (some .int) ∈ gtbl := gm 1239 (by decide +kernel)
theorem ck_m_most : (Cond.initialized Mm_most.1.cls ∈ gtbl) ∧ (Cond.code Mm_most.1 Mm_most.2.1 Mm_most.2.2.1 Mm_most.2.2.2.1 ∈ gtbl) ∧ (Mm_most.1.cls ≠ "java/lang/invoke/MethodHandle" ∧ Mm_most.1.cls ≠ "java/lang/invoke/VarHandle" ∧ (parseMethodDescriptor Mm_most.1.desc).map (fun d => d.parameters.length) = some 3) := ⟨k85, k1239, by decide +kernel, by decide +kernel, by decide +kernel⟩
theorem k1237 : Cond.instanceMethod yX9_most ∈ gtbl := gm 1237 (by decide +kernel)
theorem k1238 : Cond.selects RX9 yX9_most yX9_most ∈ gtbl := gm 1238 (by decide +kernel)
theorem k1267 : Cond.code yX9_failsOf cX9_failsOf 4 (some .int) ∈ gtbl := gm 1267 (by decide +kernel)
theorem ck_m_failsOf : (Cond.initialized Mm_failsOf.1.cls ∈ gtbl) ∧ (Cond.code Mm_failsOf.1 Mm_failsOf.2.1 Mm_failsOf.2.2.1 Mm_failsOf.2.2.2.1 ∈ gtbl) ∧ (Mm_failsOf.1.cls ≠ "java/lang/invoke/MethodHandle" ∧ Mm_failsOf.1.cls ≠ "java/lang/invoke/VarHandle" ∧ (parseMethodDescriptor Mm_failsOf.1.desc).map (fun d => d.parameters.length) = some 1) := ⟨k85, k1267, by decide +kernel, by decide +kernel, by decide +kernel⟩
theorem k1266 : Cond.instanceMethod yX9_failsOf ∈ gtbl := gm 1266 (by decide +kernel)
theorem k56 : Cond.selects RX9 yX9_failsOf yX9_failsOf ∈ gtbl := gm 56 (by decide +kernel)
theorem k1263 : Cond.code yX9_fails cX9_fails 2 (some .int) ∈ gtbl := gm 1263 (by decide +kernel)
theorem ck_m_fails : (Cond.initialized Mm_fails.1.cls ∈ gtbl) ∧ (Cond.code Mm_fails.1 Mm_fails.2.1 Mm_fails.2.2.1 Mm_fails.2.2.2.1 ∈ gtbl) ∧ (Mm_fails.1.cls ≠ "java/lang/invoke/MethodHandle" ∧ Mm_fails.1.cls ≠ "java/lang/invoke/VarHandle" ∧ (parseMethodDescriptor Mm_fails.1.desc).map (fun d => d.parameters.length) = some 1) := ⟨k85, k1263, by decide +kernel, by decide +kernel, by decide +kernel⟩
theorem k1261 : Cond.instanceMethod yX9_fails ∈ gtbl := gm 1261 (by decide +kernel)
theorem k1262 : Cond.selects RX9 yX9_fails yX9_fails ∈ gtbl := gm 1262 (by decide +kernel)
theorem k1275 : Cond.code yX9_soonestNow cX9_soonestNow 4 (some .int) ∈ gtbl := gm 1275 (by decide +kernel)
theorem ck_m_soonestNow : (Cond.initialized Mm_soonestNow.1.cls ∈ gtbl) ∧ (Cond.code Mm_soonestNow.1 Mm_soonestNow.2.1 Mm_soonestNow.2.2.1 Mm_soonestNow.2.2.2.1 ∈ gtbl) ∧ (Mm_soonestNow.1.cls ≠ "java/lang/invoke/MethodHandle" ∧ Mm_soonestNow.1.cls ≠ "java/lang/invoke/VarHandle" ∧ (parseMethodDescriptor Mm_soonestNow.1.desc).map (fun d => d.parameters.length) = some 0) := ⟨k85, k1275, by decide +kernel, by decide +kernel, by decide +kernel⟩
theorem k1274 : Cond.instanceMethod yX9_soonestNow ∈ gtbl := gm 1274 (by decide +kernel)
theorem k57 : Cond.selects RX9 yX9_soonestNow yX9_soonestNow ∈ gtbl := gm 57 (by decide +kernel)
theorem k1271 : Cond.code yX9_soonest cX9_soonest 1 (some .int) ∈ gtbl := gm 1271 (by decide +kernel)
theorem ck_m_soonest : (Cond.initialized Mm_soonest.1.cls ∈ gtbl) ∧ (Cond.code Mm_soonest.1 Mm_soonest.2.1 Mm_soonest.2.2.1 Mm_soonest.2.2.2.1 ∈ gtbl) ∧ (Mm_soonest.1.cls ≠ "java/lang/invoke/MethodHandle" ∧ Mm_soonest.1.cls ≠ "java/lang/invoke/VarHandle" ∧ (parseMethodDescriptor Mm_soonest.1.desc).map (fun d => d.parameters.length) = some 0) := ⟨k85, k1271, by decide +kernel, by decide +kernel, by decide +kernel⟩
theorem k1269 : Cond.instanceMethod yX9_soonest ∈ gtbl := gm 1269 (by decide +kernel)
theorem k1270 : Cond.selects RX9 yX9_soonest yX9_soonest ∈ gtbl := gm 1270 (by decide +kernel)
theorem k1283 : Cond.code yX9_leftOn cX9_leftOn 5 (some .int) ∈ gtbl := gm 1283 (by decide +kernel)
theorem ck_m_leftOn : (Cond.initialized Mm_leftOn.1.cls ∈ gtbl) ∧ (Cond.code Mm_leftOn.1 Mm_leftOn.2.1 Mm_leftOn.2.2.1 Mm_leftOn.2.2.2.1 ∈ gtbl) ∧ (Mm_leftOn.1.cls ≠ "java/lang/invoke/MethodHandle" ∧ Mm_leftOn.1.cls ≠ "java/lang/invoke/VarHandle" ∧ (parseMethodDescriptor Mm_leftOn.1.desc).map (fun d => d.parameters.length) = some 1) := ⟨k85, k1283, by decide +kernel, by decide +kernel, by decide +kernel⟩
theorem k1282 : Cond.instanceMethod yX9_leftOn ∈ gtbl := gm 1282 (by decide +kernel)
theorem k58 : Cond.selects RX9 yX9_leftOn yX9_leftOn ∈ gtbl := gm 58 (by decide +kernel)
theorem k1279 : Cond.code yX9_left cX9_left 2 (some .int) ∈ gtbl := gm 1279 (by decide +kernel)
theorem ck_m_left : (Cond.initialized Mm_left.1.cls ∈ gtbl) ∧ (Cond.code Mm_left.1 Mm_left.2.1 Mm_left.2.2.1 Mm_left.2.2.2.1 ∈ gtbl) ∧ (Mm_left.1.cls ≠ "java/lang/invoke/MethodHandle" ∧ Mm_left.1.cls ≠ "java/lang/invoke/VarHandle" ∧ (parseMethodDescriptor Mm_left.1.desc).map (fun d => d.parameters.length) = some 1) := ⟨k85, k1279, by decide +kernel, by decide +kernel, by decide +kernel⟩
theorem k1277 : Cond.instanceMethod yX9_left ∈ gtbl := gm 1277 (by decide +kernel)
theorem k1278 : Cond.selects RX9 yX9_left yX9_left ∈ gtbl := gm 1278 (by decide +kernel)
theorem k1295 : Cond.code yX9_burnsBy cX9_burnsBy 9 (some .int) ∈ gtbl := gm 1295 (by decide +kernel)
theorem ck_m_burnsBy : (Cond.initialized Mm_burnsBy.1.cls ∈ gtbl) ∧ (Cond.code Mm_burnsBy.1 Mm_burnsBy.2.1 Mm_burnsBy.2.2.1 Mm_burnsBy.2.2.2.1 ∈ gtbl) ∧ (Mm_burnsBy.1.cls ≠ "java/lang/invoke/MethodHandle" ∧ Mm_burnsBy.1.cls ≠ "java/lang/invoke/VarHandle" ∧ (parseMethodDescriptor Mm_burnsBy.1.desc).map (fun d => d.parameters.length) = some 5) := ⟨k85, k1295, by decide +kernel, by decide +kernel, by decide +kernel⟩
theorem k1294 : Cond.instanceMethod yX9_burnsBy ∈ gtbl := gm 1294 (by decide +kernel)
theorem k60 : Cond.selects RX9 yX9_burnsBy yX9_burnsBy ∈ gtbl := gm 60 (by decide +kernel)
theorem k1298 : Cond.code yX9_joined cX9_joined 3 (some .int) ∈ gtbl := gm 1298 (by decide +kernel)
theorem ck_m_joined : (Cond.initialized Mm_joined.1.cls ∈ gtbl) ∧ (Cond.code Mm_joined.1 Mm_joined.2.1 Mm_joined.2.2.1 Mm_joined.2.2.2.1 ∈ gtbl) ∧ (Mm_joined.1.cls ≠ "java/lang/invoke/MethodHandle" ∧ Mm_joined.1.cls ≠ "java/lang/invoke/VarHandle" ∧ (parseMethodDescriptor Mm_joined.1.desc).map (fun d => d.parameters.length) = some 3) := ⟨k85, k1298, by decide +kernel, by decide +kernel, by decide +kernel⟩
theorem k1297 : Cond.static yX9_joined ∈ gtbl := gm 1297 (by decide +kernel)
theorem k1291 : Cond.code yX9_burnsNow cX9_burnsNow 2 (some .int) ∈ gtbl := gm 1291 (by decide +kernel)
theorem ck_m_burnsNow : (Cond.initialized Mm_burnsNow.1.cls ∈ gtbl) ∧ (Cond.code Mm_burnsNow.1 Mm_burnsNow.2.1 Mm_burnsNow.2.2.1 Mm_burnsNow.2.2.2.1 ∈ gtbl) ∧ (Mm_burnsNow.1.cls ≠ "java/lang/invoke/MethodHandle" ∧ Mm_burnsNow.1.cls ≠ "java/lang/invoke/VarHandle" ∧ (parseMethodDescriptor Mm_burnsNow.1.desc).map (fun d => d.parameters.length) = some 1) := ⟨k85, k1291, by decide +kernel, by decide +kernel, by decide +kernel⟩
theorem k1290 : Cond.instanceMethod yX9_burnsNow ∈ gtbl := gm 1290 (by decide +kernel)
theorem k59 : Cond.selects RX9 yX9_burnsNow yX9_burnsNow ∈ gtbl := gm 59 (by decide +kernel)
theorem k1287 : Cond.code yX9_burns cX9_burns 2 (some .int) ∈ gtbl := gm 1287 (by decide +kernel)
theorem ck_m_burns : (Cond.initialized Mm_burns.1.cls ∈ gtbl) ∧ (Cond.code Mm_burns.1 Mm_burns.2.1 Mm_burns.2.2.1 Mm_burns.2.2.2.1 ∈ gtbl) ∧ (Mm_burns.1.cls ≠ "java/lang/invoke/MethodHandle" ∧ Mm_burns.1.cls ≠ "java/lang/invoke/VarHandle" ∧ (parseMethodDescriptor Mm_burns.1.desc).map (fun d => d.parameters.length) = some 1) := ⟨k85, k1287, by decide +kernel, by decide +kernel, by decide +kernel⟩
theorem k1285 : Cond.instanceMethod yX9_burns ∈ gtbl := gm 1285 (by decide +kernel)
theorem k1286 : Cond.selects RX9 yX9_burns yX9_burns ∈ gtbl := gm 1286 (by decide +kernel)
theorem k1310 : Cond.code yX9_lights cX9_lights 7 (some .boolean) ∈ gtbl := gm 1310 (by decide +kernel)
theorem ck_m_lights : (Cond.initialized Mm_lights.1.cls ∈ gtbl) ∧ (Cond.code Mm_lights.1 Mm_lights.2.1 Mm_lights.2.2.1 Mm_lights.2.2.2.1 ∈ gtbl) ∧ (Mm_lights.1.cls ≠ "java/lang/invoke/MethodHandle" ∧ Mm_lights.1.cls ≠ "java/lang/invoke/VarHandle" ∧ (parseMethodDescriptor Mm_lights.1.desc).map (fun d => d.parameters.length) = some 3) := ⟨k85, k1310, by decide +kernel, by decide +kernel, by decide +kernel⟩
theorem k1309 : Cond.instanceMethod yX9_lights ∈ gtbl := gm 1309 (by decide +kernel)
theorem k62 : Cond.selects RX9 yX9_lights yX9_lights ∈ gtbl := gm 62 (by decide +kernel)
theorem k1306 : Cond.code yX9_findLit cX9_findLit 5 none ∈ gtbl := gm 1306 (by decide +kernel)
theorem ck_m_findLit : (Cond.initialized Mm_findLit.1.cls ∈ gtbl) ∧ (Cond.code Mm_findLit.1 Mm_findLit.2.1 Mm_findLit.2.2.1 Mm_findLit.2.2.2.1 ∈ gtbl) ∧ (Mm_findLit.1.cls ≠ "java/lang/invoke/MethodHandle" ∧ Mm_findLit.1.cls ≠ "java/lang/invoke/VarHandle" ∧ (parseMethodDescriptor Mm_findLit.1.desc).map (fun d => d.parameters.length) = some 1) := ⟨k85, k1306, by decide +kernel, by decide +kernel, by decide +kernel⟩
theorem k1305 : Cond.instanceMethod yX9_findLit ∈ gtbl := gm 1305 (by decide +kernel)
theorem k61 : Cond.selects RX9 yX9_findLit yX9_findLit ∈ gtbl := gm 61 (by decide +kernel)
theorem k1302 : Cond.code yX9_lit cX9_lit 3 (some .int) ∈ gtbl := gm 1302 (by decide +kernel)
theorem ck_m_lit : (Cond.initialized Mm_lit.1.cls ∈ gtbl) ∧ (Cond.code Mm_lit.1 Mm_lit.2.1 Mm_lit.2.2.1 Mm_lit.2.2.2.1 ∈ gtbl) ∧ (Mm_lit.1.cls ≠ "java/lang/invoke/MethodHandle" ∧ Mm_lit.1.cls ≠ "java/lang/invoke/VarHandle" ∧ (parseMethodDescriptor Mm_lit.1.desc).map (fun d => d.parameters.length) = some 2) := ⟨k85, k1302, by decide +kernel, by decide +kernel, by decide +kernel⟩
theorem k1300 : Cond.instanceMethod yX9_lit ∈ gtbl := gm 1300 (by decide +kernel)
theorem k1301 : Cond.selects RX9 yX9_lit yX9_lit ∈ gtbl := gm 1301 (by decide +kernel)
theorem k1336 : Cond.code yX9_outAt cX9_outAt 2 (some .int) ∈ gtbl := gm 1336 (by decide +kernel)
theorem ck_m_outAt : (Cond.initialized Mm_outAt.1.cls ∈ gtbl) ∧ (Cond.code Mm_outAt.1 Mm_outAt.2.1 Mm_outAt.2.2.1 Mm_outAt.2.2.2.1 ∈ gtbl) ∧ (Mm_outAt.1.cls ≠ "java/lang/invoke/MethodHandle" ∧ Mm_outAt.1.cls ≠ "java/lang/invoke/VarHandle" ∧ (parseMethodDescriptor Mm_outAt.1.desc).map (fun d => d.parameters.length) = some 1) := ⟨k85, k1336, by decide +kernel, by decide +kernel, by decide +kernel⟩
theorem k1335 : Cond.instanceMethod yX9_outAt ∈ gtbl := gm 1335 (by decide +kernel)
theorem k67 : Cond.selects RX9 yX9_outAt yX9_outAt ∈ gtbl := gm 67 (by decide +kernel)
theorem k1332 : Cond.code yX9_inAt cX9_inAt 2 (some .int) ∈ gtbl := gm 1332 (by decide +kernel)
theorem ck_m_inAt : (Cond.initialized Mm_inAt.1.cls ∈ gtbl) ∧ (Cond.code Mm_inAt.1 Mm_inAt.2.1 Mm_inAt.2.2.1 Mm_inAt.2.2.2.1 ∈ gtbl) ∧ (Mm_inAt.1.cls ≠ "java/lang/invoke/MethodHandle" ∧ Mm_inAt.1.cls ≠ "java/lang/invoke/VarHandle" ∧ (parseMethodDescriptor Mm_inAt.1.desc).map (fun d => d.parameters.length) = some 1) := ⟨k85, k1332, by decide +kernel, by decide +kernel, by decide +kernel⟩
theorem k1331 : Cond.instanceMethod yX9_inAt ∈ gtbl := gm 1331 (by decide +kernel)
theorem k66 : Cond.selects RX9 yX9_inAt yX9_inAt ∈ gtbl := gm 66 (by decide +kernel)
theorem k1328 : Cond.code yX9_goesThrough cX9_goesThrough 2 (some .boolean) ∈ gtbl := gm 1328 (by decide +kernel)
theorem ck_m_goesThrough : (Cond.initialized Mm_goesThrough.1.cls ∈ gtbl) ∧ (Cond.code Mm_goesThrough.1 Mm_goesThrough.2.1 Mm_goesThrough.2.2.1 Mm_goesThrough.2.2.2.1 ∈ gtbl) ∧ (Mm_goesThrough.1.cls ≠ "java/lang/invoke/MethodHandle" ∧ Mm_goesThrough.1.cls ≠ "java/lang/invoke/VarHandle" ∧ (parseMethodDescriptor Mm_goesThrough.1.desc).map (fun d => d.parameters.length) = some 1) := ⟨k85, k1328, by decide +kernel, by decide +kernel, by decide +kernel⟩
theorem k1327 : Cond.instanceMethod yX9_goesThrough ∈ gtbl := gm 1327 (by decide +kernel)
theorem k65 : Cond.selects RX9 yX9_goesThrough yX9_goesThrough ∈ gtbl := gm 65 (by decide +kernel)
theorem k1324 : Cond.code yX9_walks cX9_walks 6 none ∈ gtbl := gm 1324 (by decide +kernel)
theorem ck_m_walks : (Cond.initialized Mm_walks.1.cls ∈ gtbl) ∧ (Cond.code Mm_walks.1 Mm_walks.2.1 Mm_walks.2.2.1 Mm_walks.2.2.2.1 ∈ gtbl) ∧ (Mm_walks.1.cls ≠ "java/lang/invoke/MethodHandle" ∧ Mm_walks.1.cls ≠ "java/lang/invoke/VarHandle" ∧ (parseMethodDescriptor Mm_walks.1.desc).map (fun d => d.parameters.length) = some 2) := ⟨k85, k1324, by decide +kernel, by decide +kernel, by decide +kernel⟩
theorem k1323 : Cond.instanceMethod yX9_walks ∈ gtbl := gm 1323 (by decide +kernel)
theorem k64 : Cond.selects RX9 yX9_walks yX9_walks ∈ gtbl := gm 64 (by decide +kernel)
theorem k1340 : Cond.code yX9_waysTo cX9_waysTo 6 (some .int) ∈ gtbl := gm 1340 (by decide +kernel)
theorem ck_m_waysTo : (Cond.initialized Mm_waysTo.1.cls ∈ gtbl) ∧ (Cond.code Mm_waysTo.1 Mm_waysTo.2.1 Mm_waysTo.2.2.1 Mm_waysTo.2.2.2.1 ∈ gtbl) ∧ (Mm_waysTo.1.cls ≠ "java/lang/invoke/MethodHandle" ∧ Mm_waysTo.1.cls ≠ "java/lang/invoke/VarHandle" ∧ (parseMethodDescriptor Mm_waysTo.1.desc).map (fun d => d.parameters.length) = some 3) := ⟨k85, k1340, by decide +kernel, by decide +kernel, by decide +kernel⟩
theorem k1339 : Cond.instanceMethod yX9_waysTo ∈ gtbl := gm 1339 (by decide +kernel)
theorem k68 : Cond.selects RX9 yX9_waysTo yX9_waysTo ∈ gtbl := gm 68 (by decide +kernel)
theorem k1320 : Cond.code yX9_heardOf cX9_heardOf 6 (some .int) ∈ gtbl := gm 1320 (by decide +kernel)
theorem ck_m_heardOf : (Cond.initialized Mm_heardOf.1.cls ∈ gtbl) ∧ (Cond.code Mm_heardOf.1 Mm_heardOf.2.1 Mm_heardOf.2.2.1 Mm_heardOf.2.2.2.1 ∈ gtbl) ∧ (Mm_heardOf.1.cls ≠ "java/lang/invoke/MethodHandle" ∧ Mm_heardOf.1.cls ≠ "java/lang/invoke/VarHandle" ∧ (parseMethodDescriptor Mm_heardOf.1.desc).map (fun d => d.parameters.length) = some 3) := ⟨k85, k1320, by decide +kernel, by decide +kernel, by decide +kernel⟩
theorem k1319 : Cond.instanceMethod yX9_heardOf ∈ gtbl := gm 1319 (by decide +kernel)
theorem k63 : Cond.selects RX9 yX9_heardOf yX9_heardOf ∈ gtbl := gm 63 (by decide +kernel)
theorem k1314 : Cond.code yX9_heard cX9_heard 4 (some .int) ∈ gtbl := gm 1314 (by decide +kernel)
theorem ck_m_heard : (Cond.initialized Mm_heard.1.cls ∈ gtbl) ∧ (Cond.code Mm_heard.1 Mm_heard.2.1 Mm_heard.2.2.1 Mm_heard.2.2.2.1 ∈ gtbl) ∧ (Mm_heard.1.cls ≠ "java/lang/invoke/MethodHandle" ∧ Mm_heard.1.cls ≠ "java/lang/invoke/VarHandle" ∧ (parseMethodDescriptor Mm_heard.1.desc).map (fun d => d.parameters.length) = some 3) := ⟨k85, k1314, by decide +kernel, by decide +kernel, by decide +kernel⟩
theorem k1312 : Cond.instanceMethod yX9_heard ∈ gtbl := gm 1312 (by decide +kernel)
theorem k1313 : Cond.selects RX9 yX9_heard yX9_heard ∈ gtbl := gm 1313 (by decide +kernel)
theorem k1348 : Cond.code yX9_meetOf cX9_meetOf 7 (some .int) ∈ gtbl := gm 1348 (by decide +kernel)
theorem ck_m_meetOf : (Cond.initialized Mm_meetOf.1.cls ∈ gtbl) ∧ (Cond.code Mm_meetOf.1 Mm_meetOf.2.1 Mm_meetOf.2.2.1 Mm_meetOf.2.2.2.1 ∈ gtbl) ∧ (Mm_meetOf.1.cls ≠ "java/lang/invoke/MethodHandle" ∧ Mm_meetOf.1.cls ≠ "java/lang/invoke/VarHandle" ∧ (parseMethodDescriptor Mm_meetOf.1.desc).map (fun d => d.parameters.length) = some 4) := ⟨k85, k1348, by decide +kernel, by decide +kernel, by decide +kernel⟩
theorem k1347 : Cond.instanceMethod yX9_meetOf ∈ gtbl := gm 1347 (by decide +kernel)
theorem k69 : Cond.selects RX9 yX9_meetOf yX9_meetOf ∈ gtbl := gm 69 (by decide +kernel)
theorem k1344 : Cond.code yX9_meet cX9_meet 6 (some .int) ∈ gtbl := gm 1344 (by decide +kernel)
theorem ck_m_meet : (Cond.initialized Mm_meet.1.cls ∈ gtbl) ∧ (Cond.code Mm_meet.1 Mm_meet.2.1 Mm_meet.2.2.1 Mm_meet.2.2.2.1 ∈ gtbl) ∧ (Mm_meet.1.cls ≠ "java/lang/invoke/MethodHandle" ∧ Mm_meet.1.cls ≠ "java/lang/invoke/VarHandle" ∧ (parseMethodDescriptor Mm_meet.1.desc).map (fun d => d.parameters.length) = some 4) := ⟨k85, k1344, by decide +kernel, by decide +kernel, by decide +kernel⟩
theorem k1342 : Cond.instanceMethod yX9_meet ∈ gtbl := gm 1342 (by decide +kernel)
theorem k1343 : Cond.selects RX9 yX9_meet yX9_meet ∈ gtbl := gm 1343 (by decide +kernel)
theorem k1357 : Cond.code yX9_drowsyOf cX9_drowsyOf 10 (some .int) ∈ gtbl := gm 1357 (by decide +kernel)
theorem ck_m_drowsyOf : (Cond.initialized Mm_drowsyOf.1.cls ∈ gtbl) ∧ (Cond.code Mm_drowsyOf.1 Mm_drowsyOf.2.1 Mm_drowsyOf.2.2.1 Mm_drowsyOf.2.2.2.1 ∈ gtbl) ∧ (Mm_drowsyOf.1.cls ≠ "java/lang/invoke/MethodHandle" ∧ Mm_drowsyOf.1.cls ≠ "java/lang/invoke/VarHandle" ∧ (parseMethodDescriptor Mm_drowsyOf.1.desc).map (fun d => d.parameters.length) = some 3) := ⟨k85, k1357, by decide +kernel, by decide +kernel, by decide +kernel⟩
theorem k1356 : Cond.instanceMethod yX9_drowsyOf ∈ gtbl := gm 1356 (by decide +kernel)
theorem k70 : Cond.selects RX9 yX9_drowsyOf yX9_drowsyOf ∈ gtbl := gm 70 (by decide +kernel)
theorem k1352 : Cond.code yX9_drowsy cX9_drowsy 4 (some .int) ∈ gtbl := gm 1352 (by decide +kernel)
theorem ck_m_drowsy : (Cond.initialized Mm_drowsy.1.cls ∈ gtbl) ∧ (Cond.code Mm_drowsy.1 Mm_drowsy.2.1 Mm_drowsy.2.2.1 Mm_drowsy.2.2.2.1 ∈ gtbl) ∧ (Mm_drowsy.1.cls ≠ "java/lang/invoke/MethodHandle" ∧ Mm_drowsy.1.cls ≠ "java/lang/invoke/VarHandle" ∧ (parseMethodDescriptor Mm_drowsy.1.desc).map (fun d => d.parameters.length) = some 3) := ⟨k85, k1352, by decide +kernel, by decide +kernel, by decide +kernel⟩
theorem k1350 : Cond.instanceMethod yX9_drowsy ∈ gtbl := gm 1350 (by decide +kernel)
theorem k1351 : Cond.selects RX9 yX9_drowsy yX9_drowsy ∈ gtbl := gm 1351 (by decide +kernel)
theorem k1362 : Cond.code yX9_chalk cX9_chalk 4 (some .int) ∈ gtbl := gm 1362 (by decide +kernel)
theorem ck_m_chalk : (Cond.initialized Mm_chalk.1.cls ∈ gtbl) ∧ (Cond.code Mm_chalk.1 Mm_chalk.2.1 Mm_chalk.2.2.1 Mm_chalk.2.2.2.1 ∈ gtbl) ∧ (Mm_chalk.1.cls ≠ "java/lang/invoke/MethodHandle" ∧ Mm_chalk.1.cls ≠ "java/lang/invoke/VarHandle" ∧ (parseMethodDescriptor Mm_chalk.1.desc).map (fun d => d.parameters.length) = some 3) := ⟨k85, k1362, by decide +kernel, by decide +kernel, by decide +kernel⟩
theorem k1360 : Cond.instanceMethod yX9_chalk ∈ gtbl := gm 1360 (by decide +kernel)
theorem k1361 : Cond.selects RX9 yX9_chalk yX9_chalk ∈ gtbl := gm 1361 (by decide +kernel)
theorem k1370 : Cond.code yX9_liesNow cX9_liesNow 7 (some .int) ∈ gtbl := gm 1370 (by decide +kernel)
theorem ck_m_liesNow : (Cond.initialized Mm_liesNow.1.cls ∈ gtbl) ∧ (Cond.code Mm_liesNow.1 Mm_liesNow.2.1 Mm_liesNow.2.2.1 Mm_liesNow.2.2.2.1 ∈ gtbl) ∧ (Mm_liesNow.1.cls ≠ "java/lang/invoke/MethodHandle" ∧ Mm_liesNow.1.cls ≠ "java/lang/invoke/VarHandle" ∧ (parseMethodDescriptor Mm_liesNow.1.desc).map (fun d => d.parameters.length) = some 0) := ⟨k85, k1370, by decide +kernel, by decide +kernel, by decide +kernel⟩
theorem k1369 : Cond.instanceMethod yX9_liesNow ∈ gtbl := gm 1369 (by decide +kernel)
theorem k71 : Cond.selects RX9 yX9_liesNow yX9_liesNow ∈ gtbl := gm 71 (by decide +kernel)
theorem k1366 : Cond.code yX9_lies cX9_lies 1 (some .int) ∈ gtbl := gm 1366 (by decide +kernel)
theorem ck_m_lies : (Cond.initialized Mm_lies.1.cls ∈ gtbl) ∧ (Cond.code Mm_lies.1 Mm_lies.2.1 Mm_lies.2.2.1 Mm_lies.2.2.2.1 ∈ gtbl) ∧ (Mm_lies.1.cls ≠ "java/lang/invoke/MethodHandle" ∧ Mm_lies.1.cls ≠ "java/lang/invoke/VarHandle" ∧ (parseMethodDescriptor Mm_lies.1.desc).map (fun d => d.parameters.length) = some 0) := ⟨k85, k1366, by decide +kernel, by decide +kernel, by decide +kernel⟩
theorem k1364 : Cond.instanceMethod yX9_lies ∈ gtbl := gm 1364 (by decide +kernel)
theorem k1365 : Cond.selects RX9 yX9_lies yX9_lies ∈ gtbl := gm 1365 (by decide +kernel)
theorem k1374 : Cond.code yX9_scene cX9_scene 2 (some .int) ∈ gtbl := gm 1374 (by decide +kernel)
theorem ck_m_scene : (Cond.initialized Mm_scene.1.cls ∈ gtbl) ∧ (Cond.code Mm_scene.1 Mm_scene.2.1 Mm_scene.2.2.1 Mm_scene.2.2.2.1 ∈ gtbl) ∧ (Mm_scene.1.cls ≠ "java/lang/invoke/MethodHandle" ∧ Mm_scene.1.cls ≠ "java/lang/invoke/VarHandle" ∧ (parseMethodDescriptor Mm_scene.1.desc).map (fun d => d.parameters.length) = some 1) := ⟨k85, k1374, by decide +kernel, by decide +kernel, by decide +kernel⟩
theorem k1372 : Cond.instanceMethod yX9_scene ∈ gtbl := gm 1372 (by decide +kernel)
theorem k1373 : Cond.selects RX9 yX9_scene yX9_scene ∈ gtbl := gm 1373 (by decide +kernel)
theorem k1382 : Cond.code yX9_scenesOf cX9_scenesOf 5 (some .int) ∈ gtbl := gm 1382 (by decide +kernel)
theorem ck_m_scenesOf : (Cond.initialized Mm_scenesOf.1.cls ∈ gtbl) ∧ (Cond.code Mm_scenesOf.1 Mm_scenesOf.2.1 Mm_scenesOf.2.2.1 Mm_scenesOf.2.2.2.1 ∈ gtbl) ∧ (Mm_scenesOf.1.cls ≠ "java/lang/invoke/MethodHandle" ∧ Mm_scenesOf.1.cls ≠ "java/lang/invoke/VarHandle" ∧ (parseMethodDescriptor Mm_scenesOf.1.desc).map (fun d => d.parameters.length) = some 1) := ⟨k85, k1382, by decide +kernel, by decide +kernel, by decide +kernel⟩
theorem k1381 : Cond.instanceMethod yX9_scenesOf ∈ gtbl := gm 1381 (by decide +kernel)
theorem k72 : Cond.selects RX9 yX9_scenesOf yX9_scenesOf ∈ gtbl := gm 72 (by decide +kernel)
theorem k1378 : Cond.code yX9_scenes cX9_scenes 2 (some .int) ∈ gtbl := gm 1378 (by decide +kernel)
theorem ck_m_scenes : (Cond.initialized Mm_scenes.1.cls ∈ gtbl) ∧ (Cond.code Mm_scenes.1 Mm_scenes.2.1 Mm_scenes.2.2.1 Mm_scenes.2.2.2.1 ∈ gtbl) ∧ (Mm_scenes.1.cls ≠ "java/lang/invoke/MethodHandle" ∧ Mm_scenes.1.cls ≠ "java/lang/invoke/VarHandle" ∧ (parseMethodDescriptor Mm_scenes.1.desc).map (fun d => d.parameters.length) = some 1) := ⟨k85, k1378, by decide +kernel, by decide +kernel, by decide +kernel⟩
theorem k1376 : Cond.instanceMethod yX9_scenes ∈ gtbl := gm 1376 (by decide +kernel)
theorem k1377 : Cond.selects RX9 yX9_scenes yX9_scenes ∈ gtbl := gm 1377 (by decide +kernel)
theorem k1390 : Cond.code yX9_cueOf cX9_cueOf 3 (some .int) ∈ gtbl := gm 1390 (by decide +kernel)
theorem ck_m_cueOf : (Cond.initialized Mm_cueOf.1.cls ∈ gtbl) ∧ (Cond.code Mm_cueOf.1 Mm_cueOf.2.1 Mm_cueOf.2.2.1 Mm_cueOf.2.2.2.1 ∈ gtbl) ∧ (Mm_cueOf.1.cls ≠ "java/lang/invoke/MethodHandle" ∧ Mm_cueOf.1.cls ≠ "java/lang/invoke/VarHandle" ∧ (parseMethodDescriptor Mm_cueOf.1.desc).map (fun d => d.parameters.length) = some 1) := ⟨k85, k1390, by decide +kernel, by decide +kernel, by decide +kernel⟩
theorem k1389 : Cond.instanceMethod yX9_cueOf ∈ gtbl := gm 1389 (by decide +kernel)
theorem k73 : Cond.selects RX9 yX9_cueOf yX9_cueOf ∈ gtbl := gm 73 (by decide +kernel)
theorem k1386 : Cond.code yX9_cue cX9_cue 2 (some .int) ∈ gtbl := gm 1386 (by decide +kernel)
theorem ck_m_cue : (Cond.initialized Mm_cue.1.cls ∈ gtbl) ∧ (Cond.code Mm_cue.1 Mm_cue.2.1 Mm_cue.2.2.1 Mm_cue.2.2.2.1 ∈ gtbl) ∧ (Mm_cue.1.cls ≠ "java/lang/invoke/MethodHandle" ∧ Mm_cue.1.cls ≠ "java/lang/invoke/VarHandle" ∧ (parseMethodDescriptor Mm_cue.1.desc).map (fun d => d.parameters.length) = some 1) := ⟨k85, k1386, by decide +kernel, by decide +kernel, by decide +kernel⟩
theorem k1384 : Cond.instanceMethod yX9_cue ∈ gtbl := gm 1384 (by decide +kernel)
theorem k1385 : Cond.selects RX9 yX9_cue yX9_cue ∈ gtbl := gm 1385 (by decide +kernel)
theorem k1394 : Cond.code yX9_forget cX9_forget 3 (some .int) ∈ gtbl := gm 1394 (by decide +kernel)
theorem ck_m_forget : (Cond.initialized Mm_forget.1.cls ∈ gtbl) ∧ (Cond.code Mm_forget.1 Mm_forget.2.1 Mm_forget.2.2.1 Mm_forget.2.2.2.1 ∈ gtbl) ∧ (Mm_forget.1.cls ≠ "java/lang/invoke/MethodHandle" ∧ Mm_forget.1.cls ≠ "java/lang/invoke/VarHandle" ∧ (parseMethodDescriptor Mm_forget.1.desc).map (fun d => d.parameters.length) = some 1) := ⟨k85, k1394, by decide +kernel, by decide +kernel, by decide +kernel⟩
theorem k1392 : Cond.instanceMethod yX9_forget ∈ gtbl := gm 1392 (by decide +kernel)
theorem k1393 : Cond.selects RX9 yX9_forget yX9_forget ∈ gtbl := gm 1393 (by decide +kernel)
theorem k1398 : Cond.code yX9_write cX9_write 7 (some .int) ∈ gtbl := gm 1398 (by decide +kernel)
theorem ck_m_write : (Cond.initialized Mm_write.1.cls ∈ gtbl) ∧ (Cond.code Mm_write.1 Mm_write.2.1 Mm_write.2.2.1 Mm_write.2.2.2.1 ∈ gtbl) ∧ (Mm_write.1.cls ≠ "java/lang/invoke/MethodHandle" ∧ Mm_write.1.cls ≠ "java/lang/invoke/VarHandle" ∧ (parseMethodDescriptor Mm_write.1.desc).map (fun d => d.parameters.length) = some 3) := ⟨k85, k1398, by decide +kernel, by decide +kernel, by decide +kernel⟩
theorem k1396 : Cond.instanceMethod yX9_write ∈ gtbl := gm 1396 (by decide +kernel)
theorem k1397 : Cond.selects RX9 yX9_write yX9_write ∈ gtbl := gm 1397 (by decide +kernel)
theorem k1402 : Cond.code yX9_count cX9_count 4 (some .int) ∈ gtbl := gm 1402 (by decide +kernel)
theorem ck_m_count : (Cond.initialized Mm_count.1.cls ∈ gtbl) ∧ (Cond.code Mm_count.1 Mm_count.2.1 Mm_count.2.2.1 Mm_count.2.2.2.1 ∈ gtbl) ∧ (Mm_count.1.cls ≠ "java/lang/invoke/MethodHandle" ∧ Mm_count.1.cls ≠ "java/lang/invoke/VarHandle" ∧ (parseMethodDescriptor Mm_count.1.desc).map (fun d => d.parameters.length) = some 1) := ⟨k85, k1402, by decide +kernel, by decide +kernel, by decide +kernel⟩
theorem k1400 : Cond.instanceMethod yX9_count ∈ gtbl := gm 1400 (by decide +kernel)
theorem k1401 : Cond.selects RX9 yX9_count yX9_count ∈ gtbl := gm 1401 (by decide +kernel)
theorem k1409 : Cond.code yX9_digest cX9_digest 5 (some .long) ∈ gtbl := gm 1409 (by decide +kernel)
theorem ck_m_digest : (Cond.initialized Mm_digest.1.cls ∈ gtbl) ∧ (Cond.code Mm_digest.1 Mm_digest.2.1 Mm_digest.2.2.1 Mm_digest.2.2.2.1 ∈ gtbl) ∧ (Mm_digest.1.cls ≠ "java/lang/invoke/MethodHandle" ∧ Mm_digest.1.cls ≠ "java/lang/invoke/VarHandle" ∧ (parseMethodDescriptor Mm_digest.1.desc).map (fun d => d.parameters.length) = some 0) := ⟨k85, k1409, by decide +kernel, by decide +kernel, by decide +kernel⟩
theorem k1407 : Cond.instanceMethod yX9_digest ∈ gtbl := gm 1407 (by decide +kernel)
theorem k1408 : Cond.selects RX9 yX9_digest yX9_digest ∈ gtbl := gm 1408 (by decide +kernel)
theorem k88 : Cond.initialized RJ6 ∈ gtbl := gm 88 (by decide +kernel)
theorem k901 : Cond.code yJ6_bitCount_0f7a4 cJ6_bitCount_0f7a4 1 (some .int) ∈ gtbl := gm 901 (by decide +kernel)
theorem ck_k_bitCount : (Cond.initialized Mk_bitCount.1.cls ∈ gtbl) ∧ (Cond.code Mk_bitCount.1 Mk_bitCount.2.1 Mk_bitCount.2.2.1 Mk_bitCount.2.2.2.1 ∈ gtbl) ∧ (Mk_bitCount.1.cls ≠ "java/lang/invoke/MethodHandle" ∧ Mk_bitCount.1.cls ≠ "java/lang/invoke/VarHandle" ∧ (parseMethodDescriptor Mk_bitCount.1.desc).map (fun d => d.parameters.length) = some 1) := ⟨k88, k901, by decide +kernel, by decide +kernel, by decide +kernel⟩
theorem k900 : Cond.static yJ6_bitCount_0f7a4 ∈ gtbl := gm 900 (by decide +kernel)
theorem k86 : Cond.initialized RJ9 ∈ gtbl := gm 86 (by decide +kernel)
theorem k760 : Cond.code yJ9_abs_0f7a4 cJ9_abs_0f7a4 1 (some .int) ∈ gtbl := gm 760 (by decide +kernel)
theorem ck_k_abs : (Cond.initialized Mk_abs.1.cls ∈ gtbl) ∧ (Cond.code Mk_abs.1 Mk_abs.2.1 Mk_abs.2.2.1 Mk_abs.2.2.2.1 ∈ gtbl) ∧ (Mk_abs.1.cls ≠ "java/lang/invoke/MethodHandle" ∧ Mk_abs.1.cls ≠ "java/lang/invoke/VarHandle" ∧ (parseMethodDescriptor Mk_abs.1.desc).map (fun d => d.parameters.length) = some 1) := ⟨k86, k760, by decide +kernel, by decide +kernel, by decide +kernel⟩
theorem k759 : Cond.static yJ9_abs_0f7a4 ∈ gtbl := gm 759 (by decide +kernel)
theorem k473 : Cond.code yJ9_max_7cf53 cJ9_max_7cf53 2 (some .int) ∈ gtbl := gm 473 (by decide +kernel)
theorem ck_k_max : (Cond.initialized Mk_max.1.cls ∈ gtbl) ∧ (Cond.code Mk_max.1 Mk_max.2.1 Mk_max.2.2.1 Mk_max.2.2.2.1 ∈ gtbl) ∧ (Mk_max.1.cls ≠ "java/lang/invoke/MethodHandle" ∧ Mk_max.1.cls ≠ "java/lang/invoke/VarHandle" ∧ (parseMethodDescriptor Mk_max.1.desc).map (fun d => d.parameters.length) = some 2) := ⟨k86, k473, by decide +kernel, by decide +kernel, by decide +kernel⟩
theorem k472 : Cond.static yJ9_max_7cf53 ∈ gtbl := gm 472 (by decide +kernel)
theorem k634 : Cond.code yJ9_min_7cf53 cJ9_min_7cf53 2 (some .int) ∈ gtbl := gm 634 (by decide +kernel)
theorem ck_k_min : (Cond.initialized Mk_min.1.cls ∈ gtbl) ∧ (Cond.code Mk_min.1 Mk_min.2.1 Mk_min.2.2.1 Mk_min.2.2.2.1 ∈ gtbl) ∧ (Mk_min.1.cls ≠ "java/lang/invoke/MethodHandle" ∧ Mk_min.1.cls ≠ "java/lang/invoke/VarHandle" ∧ (parseMethodDescriptor Mk_min.1.desc).map (fun d => d.parameters.length) = some 2) := ⟨k86, k634, by decide +kernel, by decide +kernel, by decide +kernel⟩
theorem k633 : Cond.static yJ9_min_7cf53 ∈ gtbl := gm 633 (by decide +kernel)
theorem k84 : Cond.initialized RJ7 ∈ gtbl := gm 84 (by decide +kernel)
theorem k325 : Cond.code yJ7_fill_53178 cJ7_fill_53178 4 none ∈ gtbl := gm 325 (by decide +kernel)
theorem ck_k_fill : (Cond.initialized Mk_fill.1.cls ∈ gtbl) ∧ (Cond.code Mk_fill.1 Mk_fill.2.1 Mk_fill.2.2.1 Mk_fill.2.2.2.1 ∈ gtbl) ∧ (Mk_fill.1.cls ≠ "java/lang/invoke/MethodHandle" ∧ Mk_fill.1.cls ≠ "java/lang/invoke/VarHandle" ∧ (parseMethodDescriptor Mk_fill.1.desc).map (fun d => d.parameters.length) = some 2) := ⟨k84, k325, by decide +kernel, by decide +kernel, by decide +kernel⟩
theorem k324 : Cond.static yJ7_fill_53178 ∈ gtbl := gm 324 (by decide +kernel)
theorem k525 : Cond.methodLink RX0 39 yX0_playFrom ∈ gtbl := gm 525 (by decide +kernel)
theorem ln_b_add_39 : VL Mb_add Mb_playFrom 39 1 0 := ⟨k525, k395, k396, ⟨_, _, rfl⟩, ⟨ck_b_playFrom.1, ck_b_playFrom.2.1, ck_b_playFrom.2.2, by decide, by decide⟩⟩
theorem k398 : Cond.methodLink RX0 43 yX0_afterPull ∈ gtbl := gm 398 (by decide +kernel)
theorem ln_b_playFrom_43 : VL Mb_playFrom Mb_afterPull 43 2 0 := ⟨k398, k400, k3, ⟨_, _, rfl⟩, ⟨ck_b_afterPull.1, ck_b_afterPull.2.1, ck_b_afterPull.2.2, by decide, by decide⟩⟩
theorem k408 : Cond.methodLink RX0 47 yX0_afterLetIn ∈ gtbl := gm 408 (by decide +kernel)
theorem ln_b_playFrom_47 : VL Mb_playFrom Mb_afterLetIn 47 1 0 := ⟨k408, k410, k4, ⟨_, _, rfl⟩, ⟨ck_b_afterLetIn.1, ck_b_afterLetIn.2.1, ck_b_afterLetIn.2.2, by decide, by decide⟩⟩
theorem k412 : Cond.methodLink RX0 51 yX0_fillLoad ∈ gtbl := gm 412 (by decide +kernel)
theorem ln_b_afterLetIn_51 : VL Mb_afterLetIn Mb_fillLoad 51 1 0 := ⟨k412, k414, k5, ⟨_, _, rfl⟩, ⟨ck_b_fillLoad.1, ck_b_fillLoad.2.1, ck_b_fillLoad.2.2, by decide, by decide⟩⟩
theorem k421 : Cond.methodLink RX0 54 yX7_find ∈ gtbl := gm 421 (by decide +kernel)
theorem ln_b_afterLetIn_54 : VL Mb_afterLetIn Mw_find 54 2 7 := ⟨k421, k422, k423, ⟨_, _, rfl⟩, ⟨ck_w_find.1, ck_w_find.2.1, ck_w_find.2.2, by decide, by decide⟩⟩
theorem k450 : Cond.methodLink RX0 58 yX7_rowBits ∈ gtbl := gm 450 (by decide +kernel)
theorem ln_b_afterLetIn_58 : VL Mb_afterLetIn Mw_rowBits 58 0 7 := ⟨k450, k451, k452, ⟨_, _, rfl⟩, ⟨ck_w_rowBits.1, ck_w_rowBits.2.1, ck_w_rowBits.2.2, by decide, by decide⟩⟩
theorem kn405 : Cond.methodLinkNest RX0 62 yX8_bit "FerretCables" ∈ lw_tbl := List.mem_of_getElem? (i := 405) (by decide +kernel)
theorem ln_b_afterLetIn_62 : SN Mb_afterLetIn Mx_bit 62 1 := ⟨⟨_, kn405⟩, k406, ⟨ck_x_bit.1, ck_x_bit.2.1, ck_x_bit.2.2, by decide, by decide⟩⟩
theorem kn402 : Cond.methodLinkNest RX0 65 yX8_hasBit "FerretCables" ∈ lw_tbl := List.mem_of_getElem? (i := 402) (by decide +kernel)
theorem ln_b_afterPull_65 : SN Mb_afterPull Mx_hasBit 65 2 := ⟨⟨_, kn402⟩, k403, ⟨ck_x_hasBit.1, ck_x_hasBit.2.1, ck_x_hasBit.2.2, by decide, by decide⟩⟩
theorem ln_b_afterPull_62 : SN Mb_afterPull Mx_bit 62 1 := ⟨⟨_, kn405⟩, k406, ⟨ck_x_bit.1, ck_x_bit.2.1, ck_x_bit.2.2, by decide, by decide⟩⟩
theorem k570 : Cond.methodLink RX0 68 yX0_isDone ∈ gtbl := gm 570 (by decide +kernel)
theorem ln_b_firstNotDone_68 : VL Mb_firstNotDone Mb_isDone 68 1 0 := ⟨k570, k572, k12, ⟨_, _, rfl⟩, ⟨ck_b_isDone.1, ck_b_isDone.2.1, ck_b_isDone.2.2, by decide, by decide⟩⟩
theorem ln_b_howManyDone_68 : VL Mb_howManyDone Mb_isDone 68 1 0 := ⟨k570, k572, k12, ⟨_, _, rfl⟩, ⟨ck_b_isDone.1, ck_b_isDone.2.1, ck_b_isDone.2.2, by decide, by decide⟩⟩
theorem ln_b_endsOf_62 : SN Mb_endsOf Mx_bit 62 1 := ⟨⟨_, kn405⟩, k406, ⟨ck_x_bit.1, ck_x_bit.2.1, ck_x_bit.2.2, by decide, by decide⟩⟩
theorem k417 : Cond.methodLink RX0 72 yX0_pipesOf ∈ gtbl := gm 417 (by decide +kernel)
theorem ln_b_wiresIn_72 : VL Mb_wiresIn Mb_pipesOf 72 2 0 := ⟨k417, k418, k419, ⟨_, _, rfl⟩, ⟨ck_b_pipesOf.1, ck_b_pipesOf.2.1, ck_b_pipesOf.2.2, by decide, by decide⟩⟩
theorem ln_b_wiresIn_65 : SN Mb_wiresIn Mx_hasBit 65 2 := ⟨⟨_, kn402⟩, k403, ⟨ck_x_hasBit.1, ck_x_hasBit.2.1, ck_x_hasBit.2.2, by decide, by decide⟩⟩
theorem k586 : Cond.methodLink RX0 78 yX0_wiresIn ∈ gtbl := gm 586 (by decide +kernel)
theorem ln_b_fullPipes_78 : VL Mb_fullPipes Mb_wiresIn 78 2 0 := ⟨k586, k491, k492, ⟨_, _, rfl⟩, ⟨ck_b_wiresIn.1, ck_b_wiresIn.2.1, ck_b_wiresIn.2.2, by decide, by decide⟩⟩
theorem ln_b_fullPipes_62 : SN Mb_fullPipes Mx_bit 62 1 := ⟨⟨_, kn405⟩, k406, ⟨ck_x_bit.1, ck_x_bit.2.1, ck_x_bit.2.2, by decide, by decide⟩⟩
theorem k601 : Cond.methodLink RX0 84 yX0_lyingNow ∈ gtbl := gm 601 (by decide +kernel)
theorem ln_b_loadNow_84 : VL Mb_loadNow Mb_lyingNow 84 0 0 := ⟨k601, k487, k488, ⟨_, _, rfl⟩, ⟨ck_b_lyingNow.1, ck_b_lyingNow.2.1, ck_b_lyingNow.2.2, by decide, by decide⟩⟩
theorem ln_b_loadNow_51 : VL Mb_loadNow Mb_fillLoad 51 1 0 := ⟨k412, k414, k5, ⟨_, _, rfl⟩, ⟨ck_b_fillLoad.1, ck_b_fillLoad.2.1, ck_b_fillLoad.2.2, by decide, by decide⟩⟩
theorem k416 : Cond.methodLink RX0 90 yJ7_fill_53178 ∈ gtbl := gm 416 (by decide +kernel)
theorem ln_b_fillLoad_90 : SL Mb_fillLoad Mk_fill 90 2 := ⟨k416, k324, ⟨ck_k_fill.1, ck_k_fill.2.1, ck_k_fill.2.2, by decide, by decide⟩⟩
theorem ln_b_fillLoad_72 : VL Mb_fillLoad Mb_pipesOf 72 2 0 := ⟨k417, k418, k419, ⟨_, _, rfl⟩, ⟨ck_b_pipesOf.1, ck_b_pipesOf.2.1, ck_b_pipesOf.2.2, by decide, by decide⟩⟩
theorem ln_b_drawnOutWith_84 : VL Mb_drawnOutWith Mb_lyingNow 84 0 0 := ⟨k601, k487, k488, ⟨_, _, rfl⟩, ⟨ck_b_lyingNow.1, ck_b_lyingNow.2.1, ck_b_lyingNow.2.2, by decide, by decide⟩⟩
theorem ln_b_drawnOutWith_62 : SN Mb_drawnOutWith Mx_bit 62 1 := ⟨⟨_, kn405⟩, k406, ⟨ck_x_bit.1, ck_x_bit.2.1, ck_x_bit.2.2, by decide, by decide⟩⟩
theorem ln_b_drawnOutWith_72 : VL Mb_drawnOutWith Mb_pipesOf 72 2 0 := ⟨k417, k418, k419, ⟨_, _, rfl⟩, ⟨ck_b_pipesOf.1, ck_b_pipesOf.2.1, ck_b_pipesOf.2.2, by decide, by decide⟩⟩
theorem ln_b_joinedTo_62 : SN Mb_joinedTo Mx_bit 62 1 := ⟨⟨_, kn405⟩, k406, ⟨ck_x_bit.1, ck_x_bit.2.1, ck_x_bit.2.2, by decide, by decide⟩⟩
theorem ln_b_joinedTo_65 : SN Mb_joinedTo Mx_hasBit 65 2 := ⟨⟨_, kn402⟩, k403, ⟨ck_x_hasBit.1, ck_x_hasBit.2.1, ck_x_hasBit.2.2, by decide, by decide⟩⟩
theorem k693 : Cond.methodLink RX0 96 yX0_endsOf ∈ gtbl := gm 693 (by decide +kernel)
theorem ln_b_joinedTo_96 : VL Mb_joinedTo Mb_endsOf 96 1 0 := ⟨k693, k694, k695, ⟨_, _, rfl⟩, ⟨ck_b_endsOf.1, ck_b_endsOf.2.1, ck_b_endsOf.2.2, by decide, by decide⟩⟩
theorem k643 : Cond.methodLink RX1 32 yJ7_fill_53178 ∈ gtbl := gm 643 (by decide +kernel)
theorem ln_f_greatest_32 : SL Mf_greatest Mk_fill 32 2 := ⟨k643, k324, ⟨ck_k_fill.1, ck_k_fill.2.1, ck_k_fill.2.2, by decide, by decide⟩⟩
theorem k644 : Cond.methodLink RX1 38 yX1_seekRoom ∈ gtbl := gm 644 (by decide +kernel)
theorem ln_f_greatest_38 : VL Mf_greatest Mf_seekRoom 38 2 1 := ⟨k644, k646, k16, ⟨_, _, rfl⟩, ⟨ck_f_seekRoom.1, ck_f_seekRoom.2.1, ck_f_seekRoom.2.2, by decide, by decide⟩⟩
theorem k660 : Cond.methodLink RX1 42 yX1_push ∈ gtbl := gm 660 (by decide +kernel)
theorem ln_f_greatest_42 : VL Mf_greatest Mf_push 42 2 1 := ⟨k660, k662, k18, ⟨_, _, rfl⟩, ⟨ck_f_push.1, ck_f_push.2.1, ck_f_push.2.2, by decide, by decide⟩⟩
theorem ln_f_seekRoom_32 : SL Mf_seekRoom Mk_fill 32 2 := ⟨k643, k324, ⟨ck_k_fill.1, ck_k_fill.2.1, ck_k_fill.2.2, by decide, by decide⟩⟩
theorem kn648 : Cond.methodLinkNest RX1 46 yX8_bit "FerretCables" ∈ lw_tbl := List.mem_of_getElem? (i := 648) (by decide +kernel)
theorem ln_f_seekRoom_46 : SN Mf_seekRoom Mx_bit 46 1 := ⟨⟨_, kn648⟩, k406, ⟨ck_x_bit.1, ck_x_bit.2.1, ck_x_bit.2.2, by decide, by decide⟩⟩
theorem kn649 : Cond.methodLinkNest RX1 50 yX8_hasBit "FerretCables" ∈ lw_tbl := List.mem_of_getElem? (i := 649) (by decide +kernel)
theorem ln_f_seekRoom_50 : SN Mf_seekRoom Mx_hasBit 50 2 := ⟨⟨_, kn649⟩, k403, ⟨ck_x_hasBit.1, ck_x_hasBit.2.1, ck_x_hasBit.2.2, by decide, by decide⟩⟩
theorem k650 : Cond.methodLink RX1 59 yX4_touches ∈ gtbl := gm 650 (by decide +kernel)
theorem ln_f_seekRoom_59 : VL Mf_seekRoom Mp_touches 59 2 4 := ⟨k650, k443, k444, ⟨_, _, rfl⟩, ⟨ck_p_touches.1, ck_p_touches.2.1, ck_p_touches.2.2, by decide, by decide⟩⟩
theorem k651 : Cond.methodLink RX1 62 yX1_hasRoom ∈ gtbl := gm 651 (by decide +kernel)
theorem ln_f_seekRoom_62 : VL Mf_seekRoom Mf_hasRoom 62 2 1 := ⟨k651, k653, k17, ⟨_, _, rfl⟩, ⟨ck_f_hasRoom.1, ck_f_hasRoom.2.1, ck_f_hasRoom.2.2, by decide, by decide⟩⟩
theorem k659 : Cond.methodLink RX1 65 yX4_opposite ∈ gtbl := gm 659 (by decide +kernel)
theorem ln_f_seekRoom_65 : VL Mf_seekRoom Mp_opposite 65 2 4 := ⟨k659, k447, k448, ⟨_, _, rfl⟩, ⟨ck_p_opposite.1, ck_p_opposite.2.1, ck_p_opposite.2.2, by decide, by decide⟩⟩
theorem k655 : Cond.methodLink RX1 69 yX4_isShut ∈ gtbl := gm 655 (by decide +kernel)
theorem ln_f_hasRoom_69 : VL Mf_hasRoom Mp_isShut 69 1 4 := ⟨k655, k656, k657, ⟨_, _, rfl⟩, ⟨ck_p_isShut.1, ck_p_isShut.2.1, ck_p_isShut.2.2, by decide, by decide⟩⟩
theorem ln_f_push_65 : VL Mf_push Mp_opposite 65 2 4 := ⟨k659, k447, k448, ⟨_, _, rfl⟩, ⟨ck_p_opposite.1, ck_p_opposite.2.1, ck_p_opposite.2.2, by decide, by decide⟩⟩
theorem k705 : Cond.methodLink RX3 33 yX0_lyingNow ∈ gtbl := gm 705 (by decide +kernel)
theorem ln_l_seek_33 : VL Ml_seek Mb_lyingNow 33 0 0 := ⟨k705, k487, k488, ⟨_, _, rfl⟩, ⟨ck_b_lyingNow.1, ck_b_lyingNow.2.1, ck_b_lyingNow.2.2, by decide, by decide⟩⟩
theorem k706 : Cond.methodLink RX3 39 yX0_joinedTo ∈ gtbl := gm 706 (by decide +kernel)
theorem ln_l_seek_39 : VL Ml_seek Mb_joinedTo 39 2 0 := ⟨k706, k690, k691, ⟨_, _, rfl⟩, ⟨ck_b_joinedTo.1, ck_b_joinedTo.2.1, ck_b_joinedTo.2.2, by decide, by decide⟩⟩
theorem k707 : Cond.methodLink RX3 43 yX3_holdsAll ∈ gtbl := gm 707 (by decide +kernel)
theorem ln_l_seek_43 : SL Ml_seek Ml_holdsAll 43 2 := ⟨k707, k708, ⟨ck_l_holdsAll.1, ck_l_holdsAll.2.1, ck_l_holdsAll.2.2, by decide, by decide⟩⟩
theorem k710 : Cond.methodLink RX3 47 yX0_loadNow ∈ gtbl := gm 710 (by decide +kernel)
theorem ln_l_seek_47 : VL Ml_seek Mb_loadNow 47 0 0 := ⟨k710, k611, k612, ⟨_, _, rfl⟩, ⟨ck_b_loadNow.1, ck_b_loadNow.2.1, ck_b_loadNow.2.2, by decide, by decide⟩⟩
theorem k711 : Cond.methodLink RX3 50 yX3_lastLetIn ∈ gtbl := gm 711 (by decide +kernel)
theorem ln_l_seek_50 : VL Ml_seek Ml_lastLetIn 50 2 3 := ⟨k711, k713, k20, ⟨_, _, rfl⟩, ⟨ck_l_lastLetIn.1, ck_l_lastLetIn.2.1, ck_l_lastLetIn.2.2, by decide, by decide⟩⟩
theorem k729 : Cond.methodLink RX3 53 yX3_seekTwo ∈ gtbl := gm 729 (by decide +kernel)
theorem ln_l_seek_53 : VL Ml_seek Ml_seekTwo 53 1 3 := ⟨k729, k731, k23, ⟨_, _, rfl⟩, ⟨ck_l_seekTwo.1, ck_l_seekTwo.2.1, ck_l_seekTwo.2.2, by decide, by decide⟩⟩
theorem k733 : Cond.methodLink RX3 57 yX7_find ∈ gtbl := gm 733 (by decide +kernel)
theorem ln_l_seekTwo_57 : VL Ml_seekTwo Mw_find 57 2 7 := ⟨k733, k422, k423, ⟨_, _, rfl⟩, ⟨ck_w_find.1, ck_w_find.2.1, ck_w_find.2.2, by decide, by decide⟩⟩
theorem k734 : Cond.methodLink RX3 62 yX7_drawAlongRow ∈ gtbl := gm 734 (by decide +kernel)
theorem ln_l_seekTwo_62 : VL Ml_seekTwo Mw_drawAlongRow 62 1 7 := ⟨k734, k636, k637, ⟨_, _, rfl⟩, ⟨ck_w_drawAlongRow.1, ck_w_drawAlongRow.2.1, ck_w_drawAlongRow.2.2, by decide, by decide⟩⟩
theorem ln_l_seekTwo_50 : VL Ml_seekTwo Ml_lastLetIn 50 2 3 := ⟨k711, k713, k20, ⟨_, _, rfl⟩, ⟨ck_l_lastLetIn.1, ck_l_lastLetIn.2.1, ck_l_lastLetIn.2.2, by decide, by decide⟩⟩
theorem k715 : Cond.methodLink RX3 65 yX3_burningWith ∈ gtbl := gm 715 (by decide +kernel)
theorem ln_l_lastLetIn_65 : VL Ml_lastLetIn Ml_burningWith 65 2 3 := ⟨k715, k717, k21, ⟨_, _, rfl⟩, ⟨ck_l_burningWith.1, ck_l_burningWith.2.1, ck_l_burningWith.2.2, by decide, by decide⟩⟩
theorem ln_l_lastLetIn_43 : SL Ml_lastLetIn Ml_holdsAll 43 2 := ⟨k707, k708, ⟨ck_l_holdsAll.1, ck_l_holdsAll.2.1, ck_l_holdsAll.2.2, by decide, by decide⟩⟩
theorem k725 : Cond.methodLink RX3 68 yX7_reachedFrom ∈ gtbl := gm 725 (by decide +kernel)
theorem ln_l_lastLetIn_68 : VL Ml_lastLetIn Mw_reachedFrom 68 1 7 := ⟨k725, k726, k727, ⟨_, _, rfl⟩, ⟨ck_w_reachedFrom.1, ck_w_reachedFrom.2.1, ck_w_reachedFrom.2.2, by decide, by decide⟩⟩
theorem kn724 : Cond.methodLinkNest RX3 72 yX8_hasBit "FerretCables" ∈ lw_tbl := List.mem_of_getElem? (i := 724) (by decide +kernel)
theorem ln_l_lastLetIn_72 : SN Ml_lastLetIn Mx_hasBit 72 2 := ⟨⟨_, kn724⟩, k403, ⟨ck_x_hasBit.1, ck_x_hasBit.2.1, ck_x_hasBit.2.2, by decide, by decide⟩⟩
theorem k719 : Cond.methodLink RX3 75 yX3_spread ∈ gtbl := gm 719 (by decide +kernel)
theorem ln_l_burningWith_75 : VL Ml_burningWith Ml_spread 75 2 3 := ⟨k719, k721, k22, ⟨_, _, rfl⟩, ⟨ck_l_spread.1, ck_l_spread.2.1, ck_l_spread.2.2, by decide, by decide⟩⟩
theorem kn723 : Cond.methodLinkNest RX3 78 yX8_within "FerretCables" ∈ lw_tbl := List.mem_of_getElem? (i := 723) (by decide +kernel)
theorem ln_l_spread_78 : SN Ml_spread Mx_within 78 3 := ⟨⟨_, kn723⟩, k375, ⟨ck_x_within.1, ck_x_within.2.1, ck_x_within.2.2, by decide, by decide⟩⟩
theorem ln_l_spread_72 : SN Ml_spread Mx_hasBit 72 2 := ⟨⟨_, kn724⟩, k403, ⟨ck_x_hasBit.1, ck_x_hasBit.2.1, ck_x_hasBit.2.2, by decide, by decide⟩⟩
theorem k381 : Cond.methodLink RX4 40 yX4_fits ∈ gtbl := gm 381 (by decide +kernel)
theorem ln_p_append_40 : VL Mp_append Mp_fits 40 1 4 := ⟨k381, k383, k0, ⟨_, _, rfl⟩, ⟨ck_p_fits.1, ck_p_fits.2.1, ck_p_fits.2.2, by decide, by decide⟩⟩
theorem k386 : Cond.methodLink RX4 44 yX4_takeUp ∈ gtbl := gm 386 (by decide +kernel)
theorem ln_p_append_44 : VL Mp_append Mp_takeUp 44 1 4 := ⟨k386, k388, k1, ⟨_, _, rfl⟩, ⟨ck_p_takeUp.1, ck_p_takeUp.2.1, ck_p_takeUp.2.2, by decide, by decide⟩⟩
theorem k390 : Cond.methodLink RX4 48 yX4_settle ∈ gtbl := gm 390 (by decide +kernel)
theorem ln_p_append_48 : VL Mp_append Mp_settle 48 0 4 := ⟨k390, k392, k2, ⟨_, _, rfl⟩, ⟨ck_p_settle.1, ck_p_settle.2.1, ck_p_settle.2.2, by decide, by decide⟩⟩
theorem ln_p_clear_48 : VL Mp_clear Mp_settle 48 0 4 := ⟨k390, k392, k2, ⟨_, _, rfl⟩, ⟨ck_p_settle.1, ck_p_settle.2.1, ck_p_settle.2.2, by decide, by decide⟩⟩
theorem k471 : Cond.methodLink RX4 51 yJ9_max_7cf53 ∈ gtbl := gm 471 (by decide +kernel)
theorem ln_p_dropPipe_51 : SL Mp_dropPipe Mk_max 51 2 := ⟨k471, k472, ⟨ck_k_max.1, ck_k_max.2.1, ck_k_max.2.2, by decide, by decide⟩⟩
theorem ln_p_dropPipe_48 : VL Mp_dropPipe Mp_settle 48 0 4 := ⟨k390, k392, k2, ⟨_, _, rfl⟩, ⟨ck_p_settle.1, ck_p_settle.2.1, ck_p_settle.2.2, by decide, by decide⟩⟩
theorem kn385 : Cond.methodLinkNest RX4 57 yX8_within "FerretCables" ∈ lw_tbl := List.mem_of_getElem? (i := 385) (by decide +kernel)
theorem ln_p_fits_57 : SN Mp_fits Mx_within 57 3 := ⟨⟨_, kn385⟩, k375, ⟨ck_x_within.1, ck_x_within.2.1, ck_x_within.2.2, by decide, by decide⟩⟩
theorem ln_p_takeUp_57 : SN Mp_takeUp Mx_within 57 3 := ⟨⟨_, kn385⟩, k375, ⟨ck_x_within.1, ck_x_within.2.1, ck_x_within.2.2, by decide, by decide⟩⟩
theorem ln_p_hasPipe_57 : SN Mp_hasPipe Mx_within 57 3 := ⟨⟨_, kn385⟩, k375, ⟨ck_x_within.1, ck_x_within.2.1, ck_x_within.2.2, by decide, by decide⟩⟩
theorem kn676 : Cond.methodLinkNest RX4 67 yX8_hasBit "FerretCables" ∈ lw_tbl := List.mem_of_getElem? (i := 676) (by decide +kernel)
theorem ln_p_dampIn_67 : SN Mp_dampIn Mx_hasBit 67 2 := ⟨⟨_, kn676⟩, k403, ⟨ck_x_hasBit.1, ck_x_hasBit.2.1, ck_x_hasBit.2.2, by decide, by decide⟩⟩
theorem k743 : Cond.methodLink RX5 25 yJ7_fill_53178 ∈ gtbl := gm 743 (by decide +kernel)
theorem ln_r_follow_25 : SL Mr_follow Mk_fill 25 2 := ⟨k743, k324, ⟨ck_k_fill.1, ck_k_fill.2.1, ck_k_fill.2.2, by decide, by decide⟩⟩
theorem k744 : Cond.methodLink RX5 31 yX5_ring ∈ gtbl := gm 744 (by decide +kernel)
theorem ln_r_follow_31 : VL Mr_follow Mr_ring 31 0 5 := ⟨k744, k746, k24, ⟨_, _, rfl⟩, ⟨ck_r_ring.1, ck_r_ring.2.1, ck_r_ring.2.2, by decide, by decide⟩⟩
theorem k748 : Cond.methodLink RX5 40 yX4_isShut ∈ gtbl := gm 748 (by decide +kernel)
theorem ln_r_ring_40 : VL Mr_ring Mp_isShut 40 1 4 := ⟨k748, k656, k657, ⟨_, _, rfl⟩, ⟨ck_p_isShut.1, ck_p_isShut.2.1, ck_p_isShut.2.2, by decide, by decide⟩⟩
theorem ln_r_ring_25 : SL Mr_ring Mk_fill 25 2 := ⟨k743, k324, ⟨ck_k_fill.1, ck_k_fill.2.1, ck_k_fill.2.2, by decide, by decide⟩⟩
theorem kn753 : Cond.methodLinkNest RX5 50 yX8_bit "FerretCables" ∈ lw_tbl := List.mem_of_getElem? (i := 753) (by decide +kernel)
theorem ln_r_possibleEnds_50 : SN Mr_possibleEnds Mx_bit 50 1 := ⟨⟨_, kn753⟩, k406, ⟨ck_x_bit.1, ck_x_bit.2.1, ck_x_bit.2.2, by decide, by decide⟩⟩
theorem k769 : Cond.methodLink RX5 54 yX5_choicesAt ∈ gtbl := gm 769 (by decide +kernel)
theorem ln_r_stroll_54 : VL Mr_stroll Mr_choicesAt 54 1 5 := ⟨k769, k771, k25, ⟨_, _, rfl⟩, ⟨ck_r_choicesAt.1, ck_r_choicesAt.2.1, ck_r_choicesAt.2.2, by decide, by decide⟩⟩
theorem k779 : Cond.methodLink RX5 58 yX5_behindChoice ∈ gtbl := gm 779 (by decide +kernel)
theorem ln_r_stroll_58 : VL Mr_stroll Mr_behindChoice 58 2 5 := ⟨k779, k781, k27, ⟨_, _, rfl⟩, ⟨ck_r_behindChoice.1, ck_r_behindChoice.2.1, ck_r_behindChoice.2.2, by decide, by decide⟩⟩
theorem k773 : Cond.methodLink RX5 62 yX5_isChoice ∈ gtbl := gm 773 (by decide +kernel)
theorem ln_r_choicesAt_62 : VL Mr_choicesAt Mr_isChoice 62 2 5 := ⟨k773, k775, k26, ⟨_, _, rfl⟩, ⟨ck_r_isChoice.1, ck_r_isChoice.2.1, ck_r_isChoice.2.2, by decide, by decide⟩⟩
theorem ln_r_behindChoice_62 : VL Mr_behindChoice Mr_isChoice 62 2 5 := ⟨k773, k775, k26, ⟨_, _, rfl⟩, ⟨ck_r_isChoice.1, ck_r_isChoice.2.1, ck_r_isChoice.2.2, by decide, by decide⟩⟩
theorem k783 : Cond.methodLink RX5 66 yX4_opposite ∈ gtbl := gm 783 (by decide +kernel)
theorem ln_r_behindChoice_66 : VL Mr_behindChoice Mp_opposite 66 2 4 := ⟨k783, k447, k448, ⟨_, _, rfl⟩, ⟨ck_p_opposite.1, ck_p_opposite.2.1, ck_p_opposite.2.2, by decide, by decide⟩⟩
theorem ln_r_isChoice_40 : VL Mr_isChoice Mp_isShut 40 1 4 := ⟨k748, k656, k657, ⟨_, _, rfl⟩, ⟨ck_p_isShut.1, ck_p_isShut.2.1, ck_p_isShut.2.2, by decide, by decide⟩⟩
theorem k777 : Cond.methodLink RX5 69 yX4_touches ∈ gtbl := gm 777 (by decide +kernel)
theorem ln_r_isChoice_69 : VL Mr_isChoice Mp_touches 69 2 4 := ⟨k777, k443, k444, ⟨_, _, rfl⟩, ⟨ck_p_touches.1, ck_p_touches.2.1, ck_p_touches.2.2, by decide, by decide⟩⟩
theorem kn549 : Cond.methodLinkNest RX6 31 yX8_within "FerretCables" ∈ lw_tbl := List.mem_of_getElem? (i := 549) (by decide +kernel)
theorem ln_s_hasSheet_31 : SN Ms_hasSheet Mx_within 31 3 := ⟨⟨_, kn549⟩, k375, ⟨ck_x_within.1, ck_x_within.2.1, ck_x_within.2.2, by decide, by decide⟩⟩
theorem ln_s_isForm_31 : SN Ms_isForm Mx_within 31 3 := ⟨⟨_, kn549⟩, k375, ⟨ck_x_within.1, ck_x_within.2.1, ck_x_within.2.2, by decide, by decide⟩⟩
theorem k858 : Cond.methodLink RX6 35 yX6_isLost ∈ gtbl := gm 858 (by decide +kernel)
theorem ln_s_findingAt_35 : VL Ms_findingAt Ms_isLost 35 1 6 := ⟨k858, k551, k552, ⟨_, _, rfl⟩, ⟨ck_s_isLost.1, ck_s_isLost.2.1, ck_s_isLost.2.2, by decide, by decide⟩⟩
theorem ln_s_findingAt_31 : SN Ms_findingAt Mx_within 31 3 := ⟨⟨_, kn549⟩, k375, ⟨ck_x_within.1, ck_x_within.2.1, ck_x_within.2.2, by decide, by decide⟩⟩
theorem k863 : Cond.methodLink RX6 39 yX6_narrowed ∈ gtbl := gm 863 (by decide +kernel)
theorem ln_s_store_39 : SL Ms_store Ms_narrowed 39 2 := ⟨k863, k864, ⟨ck_s_narrowed.1, ck_s_narrowed.2.1, ck_s_narrowed.2.2, by decide, by decide⟩⟩
theorem k425 : Cond.methodLink RX7 34 yX7_measure ∈ gtbl := gm 425 (by decide +kernel)
theorem ln_w_find_34 : VL Mw_find Mw_measure 34 1 7 := ⟨k425, k427, k6, ⟨_, _, rfl⟩, ⟨ck_w_measure.1, ck_w_measure.2.1, ck_w_measure.2.2, by decide, by decide⟩⟩
theorem k438 : Cond.methodLink RX7 41 yX7_leastOnward ∈ gtbl := gm 438 (by decide +kernel)
theorem ln_w_find_41 : VL Mw_find Mw_leastOnward 41 1 7 := ⟨k438, k440, k8, ⟨_, _, rfl⟩, ⟨ck_w_leastOnward.1, ck_w_leastOnward.2.1, ck_w_leastOnward.2.2, by decide, by decide⟩⟩
theorem k446 : Cond.methodLink RX7 45 yX4_opposite ∈ gtbl := gm 446 (by decide +kernel)
theorem ln_w_find_45 : VL Mw_find Mp_opposite 45 2 4 := ⟨k446, k447, k448, ⟨_, _, rfl⟩, ⟨ck_p_opposite.1, ck_p_opposite.2.1, ck_p_opposite.2.2, by decide, by decide⟩⟩
theorem k429 : Cond.methodLink RX7 49 yJ7_fill_53178 ∈ gtbl := gm 429 (by decide +kernel)
theorem ln_w_measure_49 : SL Mw_measure Mk_fill 49 2 := ⟨k429, k324, ⟨ck_k_fill.1, ck_k_fill.2.1, ck_k_fill.2.2, by decide, by decide⟩⟩
theorem k430 : Cond.methodLink RX7 58 yX7_isOpen ∈ gtbl := gm 430 (by decide +kernel)
theorem ln_w_measure_58 : VL Mw_measure Mw_isOpen 58 1 7 := ⟨k430, k431, k432, ⟨_, _, rfl⟩, ⟨ck_w_isOpen.1, ck_w_isOpen.2.1, ck_w_isOpen.2.2, by decide, by decide⟩⟩
theorem k434 : Cond.methodLink RX7 62 yX7_shorten ∈ gtbl := gm 434 (by decide +kernel)
theorem ln_w_measure_62 : VL Mw_measure Mw_shorten 62 1 7 := ⟨k434, k436, k7, ⟨_, _, rfl⟩, ⟨ck_w_shorten.1, ck_w_shorten.2.1, ck_w_shorten.2.2, by decide, by decide⟩⟩
theorem ln_w_leastOnward_58 : VL Mw_leastOnward Mw_isOpen 58 1 7 := ⟨k430, k431, k432, ⟨_, _, rfl⟩, ⟨ck_w_isOpen.1, ck_w_isOpen.2.1, ck_w_isOpen.2.2, by decide, by decide⟩⟩
theorem k442 : Cond.methodLink RX7 74 yX4_touches ∈ gtbl := gm 442 (by decide +kernel)
theorem ln_w_leastOnward_74 : VL Mw_leastOnward Mp_touches 74 2 4 := ⟨k442, k443, k444, ⟨_, _, rfl⟩, ⟨ck_p_touches.1, ck_p_touches.2.1, ck_p_touches.2.2, by decide, by decide⟩⟩
theorem ln_w_leastOnward_45 : VL Mw_leastOnward Mp_opposite 45 2 4 := ⟨k446, k447, k448, ⟨_, _, rfl⟩, ⟨ck_p_opposite.1, ck_p_opposite.2.1, ck_p_opposite.2.2, by decide, by decide⟩⟩
theorem kn454 : Cond.methodLinkNest RX7 78 yX8_bit "FerretCables" ∈ lw_tbl := List.mem_of_getElem? (i := 454) (by decide +kernel)
theorem ln_w_rowBits_78 : SN Mw_rowBits Mx_bit 78 1 := ⟨⟨_, kn454⟩, k406, ⟨ck_x_bit.1, ck_x_bit.2.1, ck_x_bit.2.2, by decide, by decide⟩⟩
theorem k627 : Cond.methodLink RX7 81 yX7_find ∈ gtbl := gm 627 (by decide +kernel)
theorem ln_w_drawAll_81 : VL Mw_drawAll Mw_find 81 2 7 := ⟨k627, k422, k423, ⟨_, _, rfl⟩, ⟨ck_w_find.1, ck_w_find.2.1, ck_w_find.2.2, by decide, by decide⟩⟩
theorem k628 : Cond.methodLink RX7 84 yX7_roomInRow ∈ gtbl := gm 628 (by decide +kernel)
theorem ln_w_drawAll_84 : VL Mw_drawAll Mw_roomInRow 84 0 7 := ⟨k628, k630, k15, ⟨_, _, rfl⟩, ⟨ck_w_roomInRow.1, ck_w_roomInRow.2.1, ck_w_roomInRow.2.2, by decide, by decide⟩⟩
theorem k635 : Cond.methodLink RX7 88 yX7_drawAlongRow ∈ gtbl := gm 635 (by decide +kernel)
theorem ln_w_drawAll_88 : VL Mw_drawAll Mw_drawAlongRow 88 1 7 := ⟨k635, k636, k637, ⟨_, _, rfl⟩, ⟨ck_w_drawAlongRow.1, ck_w_drawAlongRow.2.1, ck_w_drawAlongRow.2.2, by decide, by decide⟩⟩
theorem k632 : Cond.methodLink RX7 91 yJ9_min_7cf53 ∈ gtbl := gm 632 (by decide +kernel)
theorem ln_w_roomInRow_91 : SL Mw_roomInRow Mk_min 91 2 := ⟨k632, k633, ⟨ck_k_min.1, ck_k_min.2.1, ck_k_min.2.2, by decide, by decide⟩⟩
theorem ln_w_reachedFrom_78 : SN Mw_reachedFrom Mx_bit 78 1 := ⟨⟨_, kn454⟩, k406, ⟨ck_x_bit.1, ck_x_bit.2.1, ck_x_bit.2.2, by decide, by decide⟩⟩
theorem ln_w_reachedFrom_58 : VL Mw_reachedFrom Mw_isOpen 58 1 7 := ⟨k430, k431, k432, ⟨_, _, rfl⟩, ⟨ck_w_isOpen.1, ck_w_isOpen.2.1, ck_w_isOpen.2.2, by decide, by decide⟩⟩
theorem k374 : Cond.methodLink RX8 75 yX8_within ∈ gtbl := gm 374 (by decide +kernel)
theorem ln_x_type_75 : SL Mx_type Mx_within 75 3 := ⟨k374, k375, ⟨ck_x_within.1, ck_x_within.2.1, ck_x_within.2.2, by decide, by decide⟩⟩
theorem k377 : Cond.methodLink RX8 82 yX4_append ∈ gtbl := gm 377 (by decide +kernel)
theorem ln_x_type_82 : VL Mx_type Mp_append 82 1 4 := ⟨k377, k378, k379, ⟨_, _, rfl⟩, ⟨ck_p_append.1, ck_p_append.2.1, ck_p_append.2.2, by decide, by decide⟩⟩
theorem k394 : Cond.methodLink RX8 86 yX0_playFrom ∈ gtbl := gm 394 (by decide +kernel)
theorem ln_x_type_86 : VL Mx_type Mb_playFrom 86 1 0 := ⟨k394, k395, k396, ⟨_, _, rfl⟩, ⟨ck_b_playFrom.1, ck_b_playFrom.2.1, ck_b_playFrom.2.2, by decide, by decide⟩⟩
theorem k459 : Cond.methodLink RX8 89 yX4_clear ∈ gtbl := gm 459 (by decide +kernel)
theorem ln_x_wipe_89 : VL Mx_wipe Mp_clear 89 0 4 := ⟨k459, k460, k461, ⟨_, _, rfl⟩, ⟨ck_p_clear.1, ck_p_clear.2.1, ck_p_clear.2.2, by decide, by decide⟩⟩
theorem ln_x_wipe_86 : VL Mx_wipe Mb_playFrom 86 1 0 := ⟨k394, k395, k396, ⟨_, _, rfl⟩, ⟨ck_b_playFrom.1, ck_b_playFrom.2.1, ck_b_playFrom.2.2, by decide, by decide⟩⟩
theorem k467 : Cond.methodLink RX8 95 yX4_dropPipe ∈ gtbl := gm 467 (by decide +kernel)
theorem ln_x_undo_95 : VL Mx_undo Mp_dropPipe 95 0 4 := ⟨k467, k468, k469, ⟨_, _, rfl⟩, ⟨ck_p_dropPipe.1, ck_p_dropPipe.2.1, ck_p_dropPipe.2.2, by decide, by decide⟩⟩
theorem ln_x_undo_86 : VL Mx_undo Mb_playFrom 86 1 0 := ⟨k394, k395, k396, ⟨_, _, rfl⟩, ⟨ck_b_playFrom.1, ck_b_playFrom.2.1, ck_b_playFrom.2.2, by decide, by decide⟩⟩
theorem k482 : Cond.methodLink RX8 101 yX4_hasPipe ∈ gtbl := gm 482 (by decide +kernel)
theorem ln_x_pipe_101 : VL Mx_pipe Mp_hasPipe 101 1 4 := ⟨k482, k483, k484, ⟨_, _, rfl⟩, ⟨ck_p_hasPipe.1, ck_p_hasPipe.2.1, ck_p_hasPipe.2.2, by decide, by decide⟩⟩
theorem k486 : Cond.methodLink RX8 118 yX0_lyingNow ∈ gtbl := gm 486 (by decide +kernel)
theorem ln_x_pipe_118 : VL Mx_pipe Mb_lyingNow 118 0 0 := ⟨k486, k487, k488, ⟨_, _, rfl⟩, ⟨ck_b_lyingNow.1, ck_b_lyingNow.2.1, ck_b_lyingNow.2.2, by decide, by decide⟩⟩
theorem k490 : Cond.methodLink RX8 122 yX0_wiresIn ∈ gtbl := gm 490 (by decide +kernel)
theorem ln_x_pipe_122 : VL Mx_pipe Mb_wiresIn 122 2 0 := ⟨k490, k491, k492, ⟨_, _, rfl⟩, ⟨ck_b_wiresIn.1, ck_b_wiresIn.2.1, ck_b_wiresIn.2.2, by decide, by decide⟩⟩
theorem ln_x_set_75 : SL Mx_set Mx_within 75 3 := ⟨k374, k375, ⟨ck_x_within.1, ck_x_within.2.1, ck_x_within.2.2, by decide, by decide⟩⟩
theorem k499 : Cond.methodLink RX8 127 yX8_setShut ∈ gtbl := gm 499 (by decide +kernel)
theorem ln_x_set_127 : VL Mx_set Mx_setShut 127 1 8 := ⟨k499, k501, k9, ⟨_, _, rfl⟩, ⟨ck_x_setShut.1, ck_x_setShut.2.1, ck_x_setShut.2.2, by decide, by decide⟩⟩
theorem k503 : Cond.methodLink RX8 131 yX8_setTakes ∈ gtbl := gm 503 (by decide +kernel)
theorem ln_x_set_131 : VL Mx_set Mx_setTakes 131 1 8 := ⟨k503, k505, k10, ⟨_, _, rfl⟩, ⟨ck_x_setTakes.1, ck_x_setTakes.2.1, ck_x_setTakes.2.2, by decide, by decide⟩⟩
theorem k507 : Cond.methodLink RX8 134 yX8_setHard ∈ gtbl := gm 507 (by decide +kernel)
theorem ln_x_set_134 : VL Mx_set Mx_setHard 134 1 8 := ⟨k507, k509, k11, ⟨_, _, rfl⟩, ⟨ck_x_setHard.1, ck_x_setHard.2.1, ck_x_setHard.2.2, by decide, by decide⟩⟩
theorem ln_x_setShut_86 : VL Mx_setShut Mb_playFrom 86 1 0 := ⟨k394, k395, k396, ⟨_, _, rfl⟩, ⟨ck_b_playFrom.1, ck_b_playFrom.2.1, ck_b_playFrom.2.2, by decide, by decide⟩⟩
theorem ln_x_setTakes_86 : VL Mx_setTakes Mb_playFrom 86 1 0 := ⟨k394, k395, k396, ⟨_, _, rfl⟩, ⟨ck_b_playFrom.1, ck_b_playFrom.2.1, ck_b_playFrom.2.2, by decide, by decide⟩⟩
theorem k515 : Cond.methodLink RX8 143 yX8_areTwoEnds ∈ gtbl := gm 515 (by decide +kernel)
theorem ln_x_letIn_143 : SL Mx_letIn Mx_areTwoEnds 143 2 := ⟨k515, k516, ⟨ck_x_areTwoEnds.1, ck_x_areTwoEnds.2.1, ck_x_areTwoEnds.2.2, by decide, by decide⟩⟩
theorem k521 : Cond.methodLink RX8 147 yX0_add ∈ gtbl := gm 521 (by decide +kernel)
theorem ln_x_letIn_147 : VL Mx_letIn Mb_add 147 2 0 := ⟨k521, k522, k523, ⟨_, _, rfl⟩, ⟨ck_b_add.1, ck_b_add.2.1, ck_b_add.2.2, by decide, by decide⟩⟩
theorem k530 : Cond.methodLink RX8 150 yX8_isWire ∈ gtbl := gm 530 (by decide +kernel)
theorem ln_x_pull_150 : SL Mx_pull Mx_isWire 150 1 := ⟨k530, k531, ⟨ck_x_isWire.1, ck_x_isWire.2.1, ck_x_isWire.2.2, by decide, by decide⟩⟩
theorem ln_x_pull_147 : VL Mx_pull Mb_add 147 2 0 := ⟨k521, k522, k523, ⟨_, _, rfl⟩, ⟨ck_b_add.1, ck_b_add.2.1, ck_b_add.2.2, by decide, by decide⟩⟩
theorem k537 : Cond.methodLink RX8 154 yX0_dropStep ∈ gtbl := gm 537 (by decide +kernel)
theorem ln_x_back_154 : VL Mx_back Mb_dropStep 154 0 0 := ⟨k537, k538, k539, ⟨_, _, rfl⟩, ⟨ck_b_dropStep.1, ck_b_dropStep.2.1, ck_b_dropStep.2.2, by decide, by decide⟩⟩
theorem k545 : Cond.methodLink RX8 157 yX6_hasSheet ∈ gtbl := gm 545 (by decide +kernel)
theorem ln_x_read_157 : VL Mx_read Ms_hasSheet 157 1 6 := ⟨k545, k546, k547, ⟨_, _, rfl⟩, ⟨ck_s_hasSheet.1, ck_s_hasSheet.2.1, ck_s_hasSheet.2.2, by decide, by decide⟩⟩
theorem k550 : Cond.methodLink RX8 160 yX6_isLost ∈ gtbl := gm 550 (by decide +kernel)
theorem ln_x_read_160 : VL Mx_read Ms_isLost 160 1 6 := ⟨k550, k551, k552, ⟨_, _, rfl⟩, ⟨ck_s_isLost.1, ck_s_isLost.2.1, ck_s_isLost.2.2, by decide, by decide⟩⟩
theorem k554 : Cond.methodLink RX8 163 yX6_found ∈ gtbl := gm 554 (by decide +kernel)
theorem ln_x_read_163 : VL Mx_read Ms_found 163 1 6 := ⟨k554, k555, k556, ⟨_, _, rfl⟩, ⟨ck_s_found.1, ck_s_found.2.1, ck_s_found.2.2, by decide, by decide⟩⟩
theorem k558 : Cond.methodLink RX8 169 yX6_item ∈ gtbl := gm 558 (by decide +kernel)
theorem ln_x_read_169 : VL Mx_read Ms_item 169 2 6 := ⟨k558, k559, k560, ⟨_, _, rfl⟩, ⟨ck_s_item.1, ck_s_item.2.1, ck_s_item.2.2, by decide, by decide⟩⟩
theorem ln_x_read_143 : SL Mx_read Mx_areTwoEnds 143 2 := ⟨k515, k516, ⟨ck_x_areTwoEnds.1, ck_x_areTwoEnds.2.1, ck_x_areTwoEnds.2.2, by decide, by decide⟩⟩
theorem ln_x_read_147 : VL Mx_read Mb_add 147 2 0 := ⟨k521, k522, k523, ⟨_, _, rfl⟩, ⟨ck_b_add.1, ck_b_add.2.1, ck_b_add.2.2, by decide, by decide⟩⟩
theorem k566 : Cond.methodLink RX8 172 yX0_firstNotDone ∈ gtbl := gm 566 (by decide +kernel)
theorem ln_x_judged_172 : VL Mx_judged Mb_firstNotDone 172 0 0 := ⟨k566, k567, k568, ⟨_, _, rfl⟩, ⟨ck_b_firstNotDone.1, ck_b_firstNotDone.2.1, ck_b_firstNotDone.2.2, by decide, by decide⟩⟩
theorem k578 : Cond.methodLink RX8 175 yX8_isBehind ∈ gtbl := gm 578 (by decide +kernel)
theorem ln_x_state_175 : VL Mx_state Mx_isBehind 175 1 8 := ⟨k578, k580, k13, ⟨_, _, rfl⟩, ⟨ck_x_isBehind.1, ck_x_isBehind.2.1, ck_x_isBehind.2.2, by decide, by decide⟩⟩
theorem k582 : Cond.methodLink RX8 181 yX0_fullPipes ∈ gtbl := gm 582 (by decide +kernel)
theorem ln_x_state_181 : VL Mx_state Mb_fullPipes 181 1 0 := ⟨k582, k583, k584, ⟨_, _, rfl⟩, ⟨ck_b_fullPipes.1, ck_b_fullPipes.2.1, ck_b_fullPipes.2.2, by decide, by decide⟩⟩
theorem ln_x_wire_175 : VL Mx_wire Mx_isBehind 175 1 8 := ⟨k578, k580, k13, ⟨_, _, rfl⟩, ⟨ck_x_isBehind.1, ck_x_isBehind.2.1, ck_x_isBehind.2.2, by decide, by decide⟩⟩
theorem ln_x_wire_150 : SL Mx_wire Mx_isWire 150 1 := ⟨k530, k531, ⟨ck_x_isWire.1, ck_x_isWire.2.1, ck_x_isWire.2.2, by decide, by decide⟩⟩
theorem k591 : Cond.methodLink RX8 184 yX0_pipesOf ∈ gtbl := gm 591 (by decide +kernel)
theorem ln_x_wire_184 : VL Mx_wire Mb_pipesOf 184 2 0 := ⟨k591, k418, k419, ⟨_, _, rfl⟩, ⟨ck_b_pipesOf.1, ck_b_pipesOf.2.1, ck_b_pipesOf.2.2, by decide, by decide⟩⟩
theorem ln_x_out_150 : SL Mx_out Mx_isWire 150 1 := ⟨k530, k531, ⟨ck_x_isWire.1, ck_x_isWire.2.1, ck_x_isWire.2.2, by decide, by decide⟩⟩
theorem ln_x_out_118 : VL Mx_out Mb_lyingNow 118 0 0 := ⟨k486, k487, k488, ⟨_, _, rfl⟩, ⟨ck_b_lyingNow.1, ck_b_lyingNow.2.1, ck_b_lyingNow.2.2, by decide, by decide⟩⟩
theorem k596 : Cond.methodLink RX8 187 yX8_hasBit ∈ gtbl := gm 596 (by decide +kernel)
theorem ln_x_out_187 : SL Mx_out Mx_hasBit 187 2 := ⟨k596, k403, ⟨ck_x_hasBit.1, ck_x_hasBit.2.1, ck_x_hasBit.2.2, by decide, by decide⟩⟩
theorem k597 : Cond.methodLink RX8 190 yX0_drawnOutWith ∈ gtbl := gm 597 (by decide +kernel)
theorem ln_x_out_190 : VL Mx_out Mb_drawnOutWith 190 1 0 := ⟨k597, k598, k599, ⟨_, _, rfl⟩, ⟨ck_b_drawnOutWith.1, ck_b_drawnOutWith.2.1, ck_b_drawnOutWith.2.2, by decide, by decide⟩⟩
theorem ln_x_shortest_143 : SL Mx_shortest Mx_areTwoEnds 143 2 := ⟨k515, k516, ⟨ck_x_areTwoEnds.1, ck_x_areTwoEnds.2.1, ck_x_areTwoEnds.2.2, by decide, by decide⟩⟩
theorem k606 : Cond.methodLink RX8 193 yX8_findWay ∈ gtbl := gm 606 (by decide +kernel)
theorem ln_x_shortest_193 : VL Mx_shortest Mx_findWay 193 2 8 := ⟨k606, k608, k14, ⟨_, _, rfl⟩, ⟨ck_x_findWay.1, ck_x_findWay.2.1, ck_x_findWay.2.2, by decide, by decide⟩⟩
theorem k615 : Cond.methodLink RX8 196 yX7_rowLength ∈ gtbl := gm 615 (by decide +kernel)
theorem ln_x_shortest_196 : VL Mx_shortest Mw_rowLength 196 0 7 := ⟨k615, k616, k617, ⟨_, _, rfl⟩, ⟨ck_w_rowLength.1, ck_w_rowLength.2.1, ck_w_rowLength.2.2, by decide, by decide⟩⟩
theorem ln_x_most_143 : SL Mx_most Mx_areTwoEnds 143 2 := ⟨k515, k516, ⟨ck_x_areTwoEnds.1, ck_x_areTwoEnds.2.1, ck_x_areTwoEnds.2.2, by decide, by decide⟩⟩
theorem ln_x_most_75 : SL Mx_most Mx_within 75 3 := ⟨k374, k375, ⟨ck_x_within.1, ck_x_within.2.1, ck_x_within.2.2, by decide, by decide⟩⟩
theorem k610 : Cond.methodLink RX8 205 yX0_loadNow ∈ gtbl := gm 610 (by decide +kernel)
theorem ln_x_most_205 : VL Mx_most Mb_loadNow 205 0 0 := ⟨k610, k611, k612, ⟨_, _, rfl⟩, ⟨ck_b_loadNow.1, ck_b_loadNow.2.1, ck_b_loadNow.2.2, by decide, by decide⟩⟩
theorem k623 : Cond.methodLink RX8 208 yX7_drawAll ∈ gtbl := gm 623 (by decide +kernel)
theorem ln_x_most_208 : VL Mx_most Mw_drawAll 208 2 7 := ⟨k623, k624, k625, ⟨_, _, rfl⟩, ⟨ck_w_drawAll.1, ck_w_drawAll.2.1, ck_w_drawAll.2.2, by decide, by decide⟩⟩
theorem k639 : Cond.methodLink RX8 211 yX1_greatest ∈ gtbl := gm 639 (by decide +kernel)
theorem ln_x_most_211 : VL Mx_most Mf_greatest 211 2 1 := ⟨k639, k640, k641, ⟨_, _, rfl⟩, ⟨ck_f_greatest.1, ck_f_greatest.2.1, ck_f_greatest.2.2, by decide, by decide⟩⟩
theorem ln_x_fails_150 : SL Mx_fails Mx_isWire 150 1 := ⟨k530, k531, ⟨ck_x_isWire.1, ck_x_isWire.2.1, ck_x_isWire.2.2, by decide, by decide⟩⟩
theorem ln_x_fails_118 : VL Mx_fails Mb_lyingNow 118 0 0 := ⟨k486, k487, k488, ⟨_, _, rfl⟩, ⟨ck_b_lyingNow.1, ck_b_lyingNow.2.1, ck_b_lyingNow.2.2, by decide, by decide⟩⟩
theorem k668 : Cond.methodLink RX8 214 yX8_failingDay ∈ gtbl := gm 668 (by decide +kernel)
theorem ln_x_fails_214 : VL Mx_fails Mx_failingDay 214 2 8 := ⟨k668, k670, k19, ⟨_, _, rfl⟩, ⟨ck_x_failingDay.1, ck_x_failingDay.2.1, ck_x_failingDay.2.2, by decide, by decide⟩⟩
theorem ln_x_soonest_118 : VL Mx_soonest Mb_lyingNow 118 0 0 := ⟨k486, k487, k488, ⟨_, _, rfl⟩, ⟨ck_b_lyingNow.1, ck_b_lyingNow.2.1, ck_b_lyingNow.2.2, by decide, by decide⟩⟩
theorem ln_x_soonest_214 : VL Mx_soonest Mx_failingDay 214 2 8 := ⟨k668, k670, k19, ⟨_, _, rfl⟩, ⟨ck_x_failingDay.1, ck_x_failingDay.2.1, ck_x_failingDay.2.2, by decide, by decide⟩⟩
theorem ln_x_left_75 : SL Mx_left Mx_within 75 3 := ⟨k374, k375, ⟨ck_x_within.1, ck_x_within.2.1, ck_x_within.2.2, by decide, by decide⟩⟩
theorem ln_x_left_118 : VL Mx_left Mb_lyingNow 118 0 0 := ⟨k486, k487, k488, ⟨_, _, rfl⟩, ⟨ck_b_lyingNow.1, ck_b_lyingNow.2.1, ck_b_lyingNow.2.2, by decide, by decide⟩⟩
theorem ln_x_left_214 : VL Mx_left Mx_failingDay 214 2 8 := ⟨k668, k670, k19, ⟨_, _, rfl⟩, ⟨ck_x_failingDay.1, ck_x_failingDay.2.1, ck_x_failingDay.2.2, by decide, by decide⟩⟩
theorem ln_x_burns_75 : SL Mx_burns Mx_within 75 3 := ⟨k374, k375, ⟨ck_x_within.1, ck_x_within.2.1, ck_x_within.2.2, by decide, by decide⟩⟩
theorem ln_x_burns_118 : VL Mx_burns Mb_lyingNow 118 0 0 := ⟨k486, k487, k488, ⟨_, _, rfl⟩, ⟨ck_b_lyingNow.1, ck_b_lyingNow.2.1, ck_b_lyingNow.2.2, by decide, by decide⟩⟩
theorem k689 : Cond.methodLink RX8 217 yX0_joinedTo ∈ gtbl := gm 689 (by decide +kernel)
theorem ln_x_burns_217 : VL Mx_burns Mb_joinedTo 217 2 0 := ⟨k689, k690, k691, ⟨_, _, rfl⟩, ⟨ck_b_joinedTo.1, ck_b_joinedTo.2.1, ck_b_joinedTo.2.2, by decide, by decide⟩⟩
theorem ln_x_lit_75 : SL Mx_lit Mx_within 75 3 := ⟨k374, k375, ⟨ck_x_within.1, ck_x_within.2.1, ck_x_within.2.2, by decide, by decide⟩⟩
theorem k701 : Cond.methodLink RX8 220 yX3_seek ∈ gtbl := gm 701 (by decide +kernel)
theorem ln_x_lit_220 : VL Mx_lit Ml_seek 220 1 3 := ⟨k701, k702, k703, ⟨_, _, rfl⟩, ⟨ck_l_seek.1, ck_l_seek.2.1, ck_l_seek.2.2, by decide, by decide⟩⟩
theorem k518 : Cond.methodLink RX8 232 yX8_isEnd ∈ gtbl := gm 518 (by decide +kernel)
theorem ln_x_heard_232 : SL Mx_heard Mx_isEnd 232 1 := ⟨k518, k519, ⟨ck_x_isEnd.1, ck_x_isEnd.2.1, ck_x_isEnd.2.2, by decide, by decide⟩⟩
theorem ln_x_heard_75 : SL Mx_heard Mx_within 75 3 := ⟨k374, k375, ⟨ck_x_within.1, ck_x_within.2.1, ck_x_within.2.2, by decide, by decide⟩⟩
theorem k739 : Cond.methodLink RX8 235 yX5_follow ∈ gtbl := gm 739 (by decide +kernel)
theorem ln_x_heard_235 : VL Mx_heard Mr_follow 235 2 5 := ⟨k739, k740, k741, ⟨_, _, rfl⟩, ⟨ck_r_follow.1, ck_r_follow.2.1, ck_r_follow.2.2, by decide, by decide⟩⟩
theorem k749 : Cond.methodLink RX8 239 yX5_possibleEnds ∈ gtbl := gm 749 (by decide +kernel)
theorem ln_x_heard_239 : VL Mx_heard Mr_possibleEnds 239 0 5 := ⟨k749, k750, k751, ⟨_, _, rfl⟩, ⟨ck_r_possibleEnds.1, ck_r_possibleEnds.2.1, ck_r_possibleEnds.2.2, by decide, by decide⟩⟩
theorem ln_x_meet_101 : VL Mx_meet Mp_hasPipe 101 1 4 := ⟨k482, k483, k484, ⟨_, _, rfl⟩, ⟨ck_p_hasPipe.1, ck_p_hasPipe.2.1, ck_p_hasPipe.2.2, by decide, by decide⟩⟩
theorem ln_x_meet_75 : SL Mx_meet Mx_within 75 3 := ⟨k374, k375, ⟨ck_x_within.1, ck_x_within.2.1, ck_x_within.2.2, by decide, by decide⟩⟩
theorem k758 : Cond.methodLink RX8 245 yJ9_abs_0f7a4 ∈ gtbl := gm 758 (by decide +kernel)
theorem ln_x_meet_245 : SL Mx_meet Mk_abs 245 1 := ⟨k758, k759, ⟨ck_k_abs.1, ck_k_abs.2.1, ck_k_abs.2.2, by decide, by decide⟩⟩
theorem ln_x_drowsy_232 : SL Mx_drowsy Mx_isEnd 232 1 := ⟨k518, k519, ⟨ck_x_isEnd.1, ck_x_isEnd.2.1, ck_x_isEnd.2.2, by decide, by decide⟩⟩
theorem ln_x_drowsy_75 : SL Mx_drowsy Mx_within 75 3 := ⟨k374, k375, ⟨ck_x_within.1, ck_x_within.2.1, ck_x_within.2.2, by decide, by decide⟩⟩
theorem k765 : Cond.methodLink RX8 250 yX5_stroll ∈ gtbl := gm 765 (by decide +kernel)
theorem ln_x_drowsy_250 : VL Mx_drowsy Mr_stroll 250 3 5 := ⟨k765, k766, k767, ⟨_, _, rfl⟩, ⟨ck_r_stroll.1, ck_r_stroll.2.1, ck_r_stroll.2.2, by decide, by decide⟩⟩
theorem ln_x_chalk_150 : SL Mx_chalk Mx_isWire 150 1 := ⟨k530, k531, ⟨ck_x_isWire.1, ck_x_isWire.2.1, ck_x_isWire.2.2, by decide, by decide⟩⟩
theorem ln_x_chalk_143 : SL Mx_chalk Mx_areTwoEnds 143 2 := ⟨k515, k516, ⟨ck_x_areTwoEnds.1, ck_x_areTwoEnds.2.1, ck_x_areTwoEnds.2.2, by decide, by decide⟩⟩
theorem k788 : Cond.methodLink RX8 254 yX8_bit ∈ gtbl := gm 788 (by decide +kernel)
theorem ln_x_chalk_254 : SL Mx_chalk Mx_bit 254 1 := ⟨k788, k406, ⟨ck_x_bit.1, ck_x_bit.2.1, ck_x_bit.2.2, by decide, by decide⟩⟩
theorem k789 : Cond.methodLink RX8 257 yX2_addMark ∈ gtbl := gm 789 (by decide +kernel)
theorem ln_x_chalk_257 : VL Mx_chalk Mj_addMark 257 2 2 := ⟨k789, k790, k791, ⟨_, _, rfl⟩, ⟨ck_j_addMark.1, ck_j_addMark.2.1, ck_j_addMark.2.2, by decide, by decide⟩⟩
theorem ln_x_lies_118 : VL Mx_lies Mb_lyingNow 118 0 0 := ⟨k486, k487, k488, ⟨_, _, rfl⟩, ⟨ck_b_lyingNow.1, ck_b_lyingNow.2.1, ck_b_lyingNow.2.2, by decide, by decide⟩⟩
theorem ln_x_lies_187 : SL Mx_lies Mx_hasBit 187 2 := ⟨k596, k403, ⟨ck_x_hasBit.1, ck_x_hasBit.2.1, ck_x_hasBit.2.2, by decide, by decide⟩⟩
theorem k797 : Cond.methodLink RX8 266 yX0_endsOf ∈ gtbl := gm 797 (by decide +kernel)
theorem ln_x_lies_266 : VL Mx_lies Mb_endsOf 266 1 0 := ⟨k797, k694, k695, ⟨_, _, rfl⟩, ⟨ck_b_endsOf.1, ck_b_endsOf.2.1, ck_b_endsOf.2.2, by decide, by decide⟩⟩
theorem ln_x_lies_254 : SL Mx_lies Mx_bit 254 1 := ⟨k788, k406, ⟨ck_x_bit.1, ck_x_bit.2.1, ck_x_bit.2.2, by decide, by decide⟩⟩
theorem ln_x_scene_75 : SL Mx_scene Mx_within 75 3 := ⟨k374, k375, ⟨ck_x_within.1, ck_x_within.2.1, ck_x_within.2.2, by decide, by decide⟩⟩
theorem k802 : Cond.methodLink RX8 272 yX2_addScene ∈ gtbl := gm 802 (by decide +kernel)
theorem ln_x_scene_272 : VL Mx_scene Mj_addScene 272 1 2 := ⟨k802, k803, k804, ⟨_, _, rfl⟩, ⟨ck_j_addScene.1, ck_j_addScene.2.1, ck_j_addScene.2.2, by decide, by decide⟩⟩
theorem ln_x_scenes_175 : VL Mx_scenes Mx_isBehind 175 1 8 := ⟨k578, k580, k13, ⟨_, _, rfl⟩, ⟨ck_x_isBehind.1, ck_x_isBehind.2.1, ck_x_isBehind.2.2, by decide, by decide⟩⟩
theorem k810 : Cond.methodLink RX8 275 yX8_burningBehind ∈ gtbl := gm 810 (by decide +kernel)
theorem ln_x_scenes_275 : VL Mx_scenes Mx_burningBehind 275 1 8 := ⟨k810, k812, k28, ⟨_, _, rfl⟩, ⟨ck_x_burningBehind.1, ck_x_burningBehind.2.1, ck_x_burningBehind.2.2, by decide, by decide⟩⟩
theorem ln_x_scenes_254 : SL Mx_scenes Mx_bit 254 1 := ⟨k788, k406, ⟨ck_x_bit.1, ck_x_bit.2.1, ck_x_bit.2.2, by decide, by decide⟩⟩
theorem ln_x_cue_75 : SL Mx_cue Mx_within 75 3 := ⟨k374, k375, ⟨ck_x_within.1, ck_x_within.2.1, ck_x_within.2.2, by decide, by decide⟩⟩
theorem ln_x_cue_275 : VL Mx_cue Mx_burningBehind 275 1 8 := ⟨k810, k812, k28, ⟨_, _, rfl⟩, ⟨ck_x_burningBehind.1, ck_x_burningBehind.2.1, ck_x_burningBehind.2.2, by decide, by decide⟩⟩
theorem k822 : Cond.methodLink RX8 284 yX2_dropMarks ∈ gtbl := gm 822 (by decide +kernel)
theorem ln_x_forget_284 : VL Mx_forget Mj_dropMarks 284 0 2 := ⟨k822, k823, k824, ⟨_, _, rfl⟩, ⟨ck_j_dropMarks.1, ck_j_dropMarks.2.1, ck_j_dropMarks.2.2, by decide, by decide⟩⟩
theorem k826 : Cond.methodLink RX8 287 yX2_dropScenes ∈ gtbl := gm 826 (by decide +kernel)
theorem ln_x_forget_287 : VL Mx_forget Mj_dropScenes 287 0 2 := ⟨k826, k827, k828, ⟨_, _, rfl⟩, ⟨ck_j_dropScenes.1, ck_j_dropScenes.2.1, ck_j_dropScenes.2.2, by decide, by decide⟩⟩
theorem ln_x_sheet_157 : VL Mx_sheet Ms_hasSheet 157 1 6 := ⟨k545, k546, k547, ⟨_, _, rfl⟩, ⟨ck_s_hasSheet.1, ck_s_hasSheet.2.1, ck_s_hasSheet.2.2, by decide, by decide⟩⟩
theorem k834 : Cond.methodLink RX8 290 yX6_isForm ∈ gtbl := gm 834 (by decide +kernel)
theorem ln_x_sheet_290 : VL Mx_sheet Ms_isForm 290 1 6 := ⟨k834, k835, k836, ⟨_, _, rfl⟩, ⟨ck_s_isForm.1, ck_s_isForm.2.1, ck_s_isForm.2.2, by decide, by decide⟩⟩
theorem ln_x_sheet_163 : VL Mx_sheet Ms_found 163 1 6 := ⟨k554, k555, k556, ⟨_, _, rfl⟩, ⟨ck_s_found.1, ck_s_found.2.1, ck_s_found.2.2, by decide, by decide⟩⟩
theorem k838 : Cond.methodLink RX8 293 yX6_renew ∈ gtbl := gm 838 (by decide +kernel)
theorem ln_x_sheet_293 : VL Mx_sheet Ms_renew 293 3 6 := ⟨k838, k839, k840, ⟨_, _, rfl⟩, ⟨ck_s_renew.1, ck_s_renew.2.1, ck_s_renew.2.2, by decide, by decide⟩⟩
theorem ln_x_lose_157 : VL Mx_lose Ms_hasSheet 157 1 6 := ⟨k545, k546, k547, ⟨_, _, rfl⟩, ⟨ck_s_hasSheet.1, ck_s_hasSheet.2.1, ck_s_hasSheet.2.2, by decide, by decide⟩⟩
theorem ln_x_lose_160 : VL Mx_lose Ms_isLost 160 1 6 := ⟨k550, k551, k552, ⟨_, _, rfl⟩, ⟨ck_s_isLost.1, ck_s_isLost.2.1, ck_s_isLost.2.2, by decide, by decide⟩⟩
theorem ln_x_lose_163 : VL Mx_lose Ms_found 163 1 6 := ⟨k554, k555, k556, ⟨_, _, rfl⟩, ⟨ck_s_found.1, ck_s_found.2.1, ck_s_found.2.2, by decide, by decide⟩⟩
theorem k846 : Cond.methodLink RX8 297 yX6_drop ∈ gtbl := gm 846 (by decide +kernel)
theorem ln_x_lose_297 : VL Mx_lose Ms_drop 297 1 6 := ⟨k846, k847, k848, ⟨_, _, rfl⟩, ⟨ck_s_drop.1, ck_s_drop.2.1, ck_s_drop.2.2, by decide, by decide⟩⟩
theorem ln_x_lay_157 : VL Mx_lay Ms_hasSheet 157 1 6 := ⟨k545, k546, k547, ⟨_, _, rfl⟩, ⟨ck_s_hasSheet.1, ck_s_hasSheet.2.1, ck_s_hasSheet.2.2, by decide, by decide⟩⟩
theorem ln_x_lay_290 : VL Mx_lay Ms_isForm 290 1 6 := ⟨k834, k835, k836, ⟨_, _, rfl⟩, ⟨ck_s_isForm.1, ck_s_isForm.2.1, ck_s_isForm.2.2, by decide, by decide⟩⟩
theorem k854 : Cond.methodLink RX8 300 yX6_findingAt ∈ gtbl := gm 854 (by decide +kernel)
theorem ln_x_lay_300 : VL Mx_lay Ms_findingAt 300 3 6 := ⟨k854, k855, k856, ⟨_, _, rfl⟩, ⟨ck_s_findingAt.1, ck_s_findingAt.2.1, ck_s_findingAt.2.2, by decide, by decide⟩⟩
theorem ln_x_lay_163 : VL Mx_lay Ms_found 163 1 6 := ⟨k554, k555, k556, ⟨_, _, rfl⟩, ⟨ck_s_found.1, ck_s_found.2.1, ck_s_found.2.2, by decide, by decide⟩⟩
theorem k859 : Cond.methodLink RX8 303 yX6_store ∈ gtbl := gm 859 (by decide +kernel)
theorem ln_x_lay_303 : VL Mx_lay Ms_store 303 3 6 := ⟨k859, k860, k861, ⟨_, _, rfl⟩, ⟨ck_s_store.1, ck_s_store.2.1, ck_s_store.2.2, by decide, by decide⟩⟩
theorem ln_x_get_157 : VL Mx_get Ms_hasSheet 157 1 6 := ⟨k545, k546, k547, ⟨_, _, rfl⟩, ⟨ck_s_hasSheet.1, ck_s_hasSheet.2.1, ck_s_hasSheet.2.2, by decide, by decide⟩⟩
theorem ln_x_get_290 : VL Mx_get Ms_isForm 290 1 6 := ⟨k834, k835, k836, ⟨_, _, rfl⟩, ⟨ck_s_isForm.1, ck_s_isForm.2.1, ck_s_isForm.2.2, by decide, by decide⟩⟩
theorem ln_x_get_300 : VL Mx_get Ms_findingAt 300 3 6 := ⟨k854, k855, k856, ⟨_, _, rfl⟩, ⟨ck_s_findingAt.1, ck_s_findingAt.2.1, ck_s_findingAt.2.2, by decide, by decide⟩⟩
theorem ln_x_get_163 : VL Mx_get Ms_found 163 1 6 := ⟨k554, k555, k556, ⟨_, _, rfl⟩, ⟨ck_s_found.1, ck_s_found.2.1, ck_s_found.2.2, by decide, by decide⟩⟩
theorem ln_x_get_169 : VL Mx_get Ms_item 169 2 6 := ⟨k558, k559, k560, ⟨_, _, rfl⟩, ⟨ck_s_item.1, ck_s_item.2.1, ck_s_item.2.2, by decide, by decide⟩⟩
theorem ln_x_copy_157 : VL Mx_copy Ms_hasSheet 157 1 6 := ⟨k545, k546, k547, ⟨_, _, rfl⟩, ⟨ck_s_hasSheet.1, ck_s_hasSheet.2.1, ck_s_hasSheet.2.2, by decide, by decide⟩⟩
theorem ln_x_copy_160 : VL Mx_copy Ms_isLost 160 1 6 := ⟨k550, k551, k552, ⟨_, _, rfl⟩, ⟨ck_s_isLost.1, ck_s_isLost.2.1, ck_s_isLost.2.2, by decide, by decide⟩⟩
theorem ln_x_copy_163 : VL Mx_copy Ms_found 163 1 6 := ⟨k554, k555, k556, ⟨_, _, rfl⟩, ⟨ck_s_found.1, ck_s_found.2.1, ck_s_found.2.2, by decide, by decide⟩⟩
theorem k875 : Cond.methodLink RX8 310 yX6_hasSpan ∈ gtbl := gm 875 (by decide +kernel)
theorem ln_x_copy_310 : VL Mx_copy Ms_hasSpan 310 3 6 := ⟨k875, k876, k877, ⟨_, _, rfl⟩, ⟨ck_s_hasSpan.1, ck_s_hasSpan.2.1, ck_s_hasSpan.2.2, by decide, by decide⟩⟩
theorem k879 : Cond.methodLink RX8 313 yX6_move ∈ gtbl := gm 879 (by decide +kernel)
theorem ln_x_copy_313 : VL Mx_copy Ms_move 313 5 6 := ⟨k879, k880, k881, ⟨_, _, rfl⟩, ⟨ck_s_move.1, ck_s_move.2.1, ck_s_move.2.2, by decide, by decide⟩⟩
theorem ln_x_write_143 : SL Mx_write Mx_areTwoEnds 143 2 := ⟨k515, k516, ⟨ck_x_areTwoEnds.1, ck_x_areTwoEnds.2.1, ck_x_areTwoEnds.2.2, by decide, by decide⟩⟩
theorem ln_x_write_157 : VL Mx_write Ms_hasSheet 157 1 6 := ⟨k545, k546, k547, ⟨_, _, rfl⟩, ⟨ck_s_hasSheet.1, ck_s_hasSheet.2.1, ck_s_hasSheet.2.2, by decide, by decide⟩⟩
theorem ln_x_write_160 : VL Mx_write Ms_isLost 160 1 6 := ⟨k550, k551, k552, ⟨_, _, rfl⟩, ⟨ck_s_isLost.1, ck_s_isLost.2.1, ck_s_isLost.2.2, by decide, by decide⟩⟩
theorem ln_x_write_163 : VL Mx_write Ms_found 163 1 6 := ⟨k554, k555, k556, ⟨_, _, rfl⟩, ⟨ck_s_found.1, ck_s_found.2.1, ck_s_found.2.2, by decide, by decide⟩⟩
theorem ln_x_write_193 : VL Mx_write Mx_findWay 193 2 8 := ⟨k606, k608, k14, ⟨_, _, rfl⟩, ⟨ck_x_findWay.1, ck_x_findWay.2.1, ck_x_findWay.2.2, by decide, by decide⟩⟩
theorem k890 : Cond.methodLink RX8 317 yJ9_min_7cf53 ∈ gtbl := gm 890 (by decide +kernel)
theorem ln_x_write_317 : SL Mx_write Mk_min 317 2 := ⟨k890, k633, ⟨ck_k_min.1, ck_k_min.2.1, ck_k_min.2.2, by decide, by decide⟩⟩
theorem ln_x_write_303 : VL Mx_write Ms_store 303 3 6 := ⟨k859, k860, k861, ⟨_, _, rfl⟩, ⟨ck_s_store.1, ck_s_store.2.1, ck_s_store.2.2, by decide, by decide⟩⟩
theorem k895 : Cond.methodLink RX8 320 yX0_howManyDone ∈ gtbl := gm 895 (by decide +kernel)
theorem ln_x_count_320 : VL Mx_count Mb_howManyDone 320 0 0 := ⟨k895, k896, k897, ⟨_, _, rfl⟩, ⟨ck_b_howManyDone.1, ck_b_howManyDone.2.1, ck_b_howManyDone.2.2, by decide, by decide⟩⟩
theorem ln_x_count_118 : VL Mx_count Mb_lyingNow 118 0 0 := ⟨k486, k487, k488, ⟨_, _, rfl⟩, ⟨ck_b_lyingNow.1, ck_b_lyingNow.2.1, ck_b_lyingNow.2.2, by decide, by decide⟩⟩
theorem k899 : Cond.methodLink RX8 323 yJ6_bitCount_0f7a4 ∈ gtbl := gm 899 (by decide +kernel)
theorem ln_x_count_323 : SL Mx_count Mk_bitCount 323 1 := ⟨k899, k900, ⟨ck_k_bitCount.1, ck_k_bitCount.2.1, ck_k_bitCount.2.2, by decide, by decide⟩⟩
theorem k905 : Cond.methodLink RX8 328 yX4_wholeLength ∈ gtbl := gm 905 (by decide +kernel)
theorem ln_x_count_328 : VL Mx_count Mp_wholeLength 328 0 4 := ⟨k905, k906, k907, ⟨_, _, rfl⟩, ⟨ck_p_wholeLength.1, ck_p_wholeLength.2.1, ck_p_wholeLength.2.2, by decide, by decide⟩⟩
theorem k914 : Cond.methodLink RX8 336 yX8_count ∈ gtbl := gm 914 (by decide +kernel)
theorem ln_x_digest_336 : VL Mx_digest Mx_count 336 1 8 := ⟨k914, k892, k893, ⟨_, _, rfl⟩, ⟨ck_x_count.1, ck_x_count.2.1, ck_x_count.2.2, by decide, by decide⟩⟩
theorem k915 : Cond.methodLink RX8 339 yX8_mix ∈ gtbl := gm 915 (by decide +kernel)
theorem ln_x_digest_339 : SL Mx_digest Mx_mix 339 2 := ⟨k915, k916, ⟨ck_x_mix.1, ck_x_mix.2.1, ck_x_mix.2.2, by decide, by decide⟩⟩
theorem k919 : Cond.methodLink RX8 343 yX8_fault ∈ gtbl := gm 919 (by decide +kernel)
theorem ln_x_digest_343 : VL Mx_digest Mx_fault 343 0 8 := ⟨k919, k475, k476, ⟨_, _, rfl⟩, ⟨ck_x_fault.1, ck_x_fault.2.1, ck_x_fault.2.2, by decide, by decide⟩⟩
theorem k920 : Cond.methodLink RX8 346 yX8_judged ∈ gtbl := gm 920 (by decide +kernel)
theorem ln_x_digest_346 : VL Mx_digest Mx_judged 346 0 8 := ⟨k920, k563, k564, ⟨_, _, rfl⟩, ⟨ck_x_judged.1, ck_x_judged.2.1, ck_x_judged.2.2, by decide, by decide⟩⟩
theorem k921 : Cond.methodLink RX8 349 yX8_mixPipes ∈ gtbl := gm 921 (by decide +kernel)
theorem ln_x_digest_349 : VL Mx_digest Mx_mixPipes 349 1 8 := ⟨k921, k923, k29, ⟨_, _, rfl⟩, ⟨ck_x_mixPipes.1, ck_x_mixPipes.2.1, ck_x_mixPipes.2.2, by decide, by decide⟩⟩
theorem k926 : Cond.methodLink RX8 353 yX8_mixWires ∈ gtbl := gm 926 (by decide +kernel)
theorem ln_x_digest_353 : VL Mx_digest Mx_mixWires 353 1 8 := ⟨k926, k928, k30, ⟨_, _, rfl⟩, ⟨ck_x_mixWires.1, ck_x_mixWires.2.1, ck_x_mixWires.2.2, by decide, by decide⟩⟩
theorem k933 : Cond.methodLink RX8 356 yX8_state ∈ gtbl := gm 933 (by decide +kernel)
theorem ln_x_digest_356 : VL Mx_digest Mx_state 356 2 8 := ⟨k933, k575, k576, ⟨_, _, rfl⟩, ⟨ck_x_state.1, ck_x_state.2.1, ck_x_state.2.2, by decide, by decide⟩⟩
theorem k934 : Cond.methodLink RX8 359 yX8_soonest ∈ gtbl := gm 934 (by decide +kernel)
theorem ln_x_digest_359 : VL Mx_digest Mx_soonest 359 0 8 := ⟨k934, k678, k679, ⟨_, _, rfl⟩, ⟨ck_x_soonest.1, ck_x_soonest.2.1, ck_x_soonest.2.2, by decide, by decide⟩⟩
theorem k935 : Cond.methodLink RX8 362 yX8_left ∈ gtbl := gm 935 (by decide +kernel)
theorem ln_x_digest_362 : VL Mx_digest Mx_left 362 1 8 := ⟨k935, k682, k683, ⟨_, _, rfl⟩, ⟨ck_x_left.1, ck_x_left.2.1, ck_x_left.2.2, by decide, by decide⟩⟩
theorem k936 : Cond.methodLink RX8 365 yX8_burns ∈ gtbl := gm 936 (by decide +kernel)
theorem ln_x_digest_365 : VL Mx_digest Mx_burns 365 1 8 := ⟨k936, k686, k687, ⟨_, _, rfl⟩, ⟨ck_x_burns.1, ck_x_burns.2.1, ck_x_burns.2.2, by decide, by decide⟩⟩
theorem k937 : Cond.methodLink RX8 368 yX8_mixEnds ∈ gtbl := gm 937 (by decide +kernel)
theorem ln_x_digest_368 : VL Mx_digest Mx_mixEnds 368 1 8 := ⟨k937, k939, k31, ⟨_, _, rfl⟩, ⟨ck_x_mixEnds.1, ck_x_mixEnds.2.1, ck_x_mixEnds.2.2, by decide, by decide⟩⟩
theorem ln_x_digest_220 : VL Mx_digest Ml_seek 220 1 3 := ⟨k701, k702, k703, ⟨_, _, rfl⟩, ⟨ck_l_seek.1, ck_l_seek.2.1, ck_l_seek.2.2, by decide, by decide⟩⟩
theorem k943 : Cond.methodLink RX8 371 yX8_heard ∈ gtbl := gm 943 (by decide +kernel)
theorem ln_x_digest_371 : VL Mx_digest Mx_heard 371 3 8 := ⟨k943, k736, k737, ⟨_, _, rfl⟩, ⟨ck_x_heard.1, ck_x_heard.2.1, ck_x_heard.2.2, by decide, by decide⟩⟩
theorem k944 : Cond.methodLink RX8 374 yX8_drowsy ∈ gtbl := gm 944 (by decide +kernel)
theorem ln_x_digest_374 : VL Mx_digest Mx_drowsy 374 3 8 := ⟨k944, k762, k763, ⟨_, _, rfl⟩, ⟨ck_x_drowsy.1, ck_x_drowsy.2.1, ck_x_drowsy.2.2, by decide, by decide⟩⟩
theorem k945 : Cond.methodLink RX8 377 yX8_lies ∈ gtbl := gm 945 (by decide +kernel)
theorem ln_x_digest_377 : VL Mx_digest Mx_lies 377 0 8 := ⟨k945, k794, k795, ⟨_, _, rfl⟩, ⟨ck_x_lies.1, ck_x_lies.2.1, ck_x_lies.2.2, by decide, by decide⟩⟩
theorem k946 : Cond.methodLink RX8 380 yX8_scenes ∈ gtbl := gm 946 (by decide +kernel)
theorem ln_x_digest_380 : VL Mx_digest Mx_scenes 380 1 8 := ⟨k946, k807, k808, ⟨_, _, rfl⟩, ⟨ck_x_scenes.1, ck_x_scenes.2.1, ck_x_scenes.2.2, by decide, by decide⟩⟩
theorem k947 : Cond.methodLink RX8 383 yX8_cue ∈ gtbl := gm 947 (by decide +kernel)
theorem ln_x_digest_383 : VL Mx_digest Mx_cue 383 1 8 := ⟨k947, k815, k816, ⟨_, _, rfl⟩, ⟨ck_x_cue.1, ck_x_cue.2.1, ck_x_cue.2.2, by decide, by decide⟩⟩
theorem k925 : Cond.methodLink RX8 386 yX8_pipe ∈ gtbl := gm 925 (by decide +kernel)
theorem ln_x_mixPipes_386 : VL Mx_mixPipes Mx_pipe 386 2 8 := ⟨k925, k479, k480, ⟨_, _, rfl⟩, ⟨ck_x_pipe.1, ck_x_pipe.2.1, ck_x_pipe.2.2, by decide, by decide⟩⟩
theorem ln_x_mixPipes_339 : SL Mx_mixPipes Mx_mix 339 2 := ⟨k915, k916, ⟨ck_x_mix.1, ck_x_mix.2.1, ck_x_mix.2.2, by decide, by decide⟩⟩
theorem k930 : Cond.methodLink RX8 389 yX8_wire ∈ gtbl := gm 930 (by decide +kernel)
theorem ln_x_mixWires_389 : VL Mx_mixWires Mx_wire 389 2 8 := ⟨k930, k588, k589, ⟨_, _, rfl⟩, ⟨ck_x_wire.1, ck_x_wire.2.1, ck_x_wire.2.2, by decide, by decide⟩⟩
theorem ln_x_mixWires_339 : SL Mx_mixWires Mx_mix 339 2 := ⟨k915, k916, ⟨ck_x_mix.1, ck_x_mix.2.1, ck_x_mix.2.2, by decide, by decide⟩⟩
theorem k931 : Cond.methodLink RX8 392 yX8_out ∈ gtbl := gm 931 (by decide +kernel)
theorem ln_x_mixWires_392 : VL Mx_mixWires Mx_out 392 1 8 := ⟨k931, k593, k594, ⟨_, _, rfl⟩, ⟨ck_x_out.1, ck_x_out.2.1, ck_x_out.2.2, by decide, by decide⟩⟩
theorem k932 : Cond.methodLink RX8 395 yX8_fails ∈ gtbl := gm 932 (by decide +kernel)
theorem ln_x_mixWires_395 : VL Mx_mixWires Mx_fails 395 1 8 := ⟨k932, k665, k666, ⟨_, _, rfl⟩, ⟨ck_x_fails.1, ck_x_fails.2.1, ck_x_fails.2.2, by decide, by decide⟩⟩
theorem k941 : Cond.methodLink RX8 398 yX8_shortest ∈ gtbl := gm 941 (by decide +kernel)
theorem ln_x_mixEnds_398 : VL Mx_mixEnds Mx_shortest 398 3 8 := ⟨k941, k603, k604, ⟨_, _, rfl⟩, ⟨ck_x_shortest.1, ck_x_shortest.2.1, ck_x_shortest.2.2, by decide, by decide⟩⟩
theorem ln_x_mixEnds_339 : SL Mx_mixEnds Mx_mix 339 2 := ⟨k915, k916, ⟨ck_x_mix.1, ck_x_mix.2.1, ck_x_mix.2.2, by decide, by decide⟩⟩
theorem k942 : Cond.methodLink RX8 401 yX8_most ∈ gtbl := gm 942 (by decide +kernel)
theorem ln_x_mixEnds_401 : VL Mx_mixEnds Mx_most 401 3 8 := ⟨k942, k620, k621, ⟨_, _, rfl⟩, ⟨ck_x_most.1, ck_x_most.2.1, ck_x_most.2.2, by decide, by decide⟩⟩
theorem ln_x_mixEnds_371 : VL Mx_mixEnds Mx_heard 371 3 8 := ⟨k943, k736, k737, ⟨_, _, rfl⟩, ⟨ck_x_heard.1, ck_x_heard.2.1, ck_x_heard.2.2, by decide, by decide⟩⟩
theorem ln_x_isEnd_75 : SL Mx_isEnd Mx_within 75 3 := ⟨k374, k375, ⟨ck_x_within.1, ck_x_within.2.1, ck_x_within.2.2, by decide, by decide⟩⟩
theorem ln_x_areTwoEnds_232 : SL Mx_areTwoEnds Mx_isEnd 232 1 := ⟨k518, k519, ⟨ck_x_isEnd.1, ck_x_isEnd.2.1, ck_x_isEnd.2.2, by decide, by decide⟩⟩
theorem ln_x_isWire_75 : SL Mx_isWire Mx_within 75 3 := ⟨k374, k375, ⟨ck_x_within.1, ck_x_within.2.1, ck_x_within.2.2, by decide, by decide⟩⟩
theorem ln_x_isBehind_75 : SL Mx_isBehind Mx_within 75 3 := ⟨k374, k375, ⟨ck_x_within.1, ck_x_within.2.1, ck_x_within.2.2, by decide, by decide⟩⟩
theorem ln_x_findWay_205 : VL Mx_findWay Mb_loadNow 205 0 0 := ⟨k610, k611, k612, ⟨_, _, rfl⟩, ⟨ck_b_loadNow.1, ck_b_loadNow.2.1, ck_b_loadNow.2.2, by decide, by decide⟩⟩
theorem k614 : Cond.methodLink RX8 406 yX7_find ∈ gtbl := gm 614 (by decide +kernel)
theorem ln_x_findWay_406 : VL Mx_findWay Mw_find 406 2 7 := ⟨k614, k422, k423, ⟨_, _, rfl⟩, ⟨ck_w_find.1, ck_w_find.2.1, ck_w_find.2.2, by decide, by decide⟩⟩
theorem ln_x_burningBehind_217 : VL Mx_burningBehind Mb_joinedTo 217 2 0 := ⟨k689, k690, k691, ⟨_, _, rfl⟩, ⟨ck_b_joinedTo.1, ck_b_joinedTo.2.1, ck_b_joinedTo.2.2, by decide, by decide⟩⟩
theorem ln_x_failingDay_184 : VL Mx_failingDay Mb_pipesOf 184 2 0 := ⟨k591, k418, k419, ⟨_, _, rfl⟩, ⟨ck_b_pipesOf.1, ck_b_pipesOf.2.1, ck_b_pipesOf.2.2, by decide, by decide⟩⟩
theorem k672 : Cond.methodLink RX8 409 yX4_dampIn ∈ gtbl := gm 672 (by decide +kernel)
theorem ln_x_failingDay_409 : VL Mx_failingDay Mp_dampIn 409 1 4 := ⟨k672, k673, k674, ⟨_, _, rfl⟩, ⟨ck_p_dampIn.1, ck_p_dampIn.2.1, ck_p_dampIn.2.2, by decide, by decide⟩⟩
theorem k1053 : Cond.methodLink RX9 70 yX9_in ∈ gtbl := gm 1053 (by decide +kernel)
theorem ln_m_isTwo_70 : SL Mm_isTwo Mm_in 70 3 := ⟨k1053, k1054, ⟨ck_m_in.1, ck_m_in.2.1, ck_m_in.2.2, by decide, by decide⟩⟩
theorem ln_m_isSheet_70 : SL Mm_isSheet Mm_in 70 3 := ⟨k1053, k1054, ⟨ck_m_in.1, ck_m_in.2.1, ck_m_in.2.2, by decide, by decide⟩⟩
theorem k1049 : Cond.methodLink RX9 80 yX9_isSheet ∈ gtbl := gm 1049 (by decide +kernel)
theorem ln_m_sheet_80 : SL Mm_sheet Mm_isSheet 80 1 := ⟨k1049, k1050, ⟨ck_m_isSheet.1, ck_m_isSheet.2.1, ck_m_isSheet.2.2, by decide, by decide⟩⟩
theorem ln_m_sheet_70 : SL Mm_sheet Mm_in 70 3 := ⟨k1053, k1054, ⟨ck_m_in.1, ck_m_in.2.1, ck_m_in.2.2, by decide, by decide⟩⟩
theorem k1057 : Cond.methodLink RX9 86 yX9_finds ∈ gtbl := gm 1057 (by decide +kernel)
theorem ln_m_sheet_86 : VL Mm_sheet Mm_finds 86 1 9 := ⟨k1057, k1059, k32, ⟨_, _, rfl⟩, ⟨ck_m_finds.1, ck_m_finds.2.1, ck_m_finds.2.2, by decide, by decide⟩⟩
theorem ln_m_lose_80 : SL Mm_lose Mm_isSheet 80 1 := ⟨k1049, k1050, ⟨ck_m_isSheet.1, ck_m_isSheet.2.1, ck_m_isSheet.2.2, by decide, by decide⟩⟩
theorem ln_m_lose_86 : VL Mm_lose Mm_finds 86 1 9 := ⟨k1057, k1059, k32, ⟨_, _, rfl⟩, ⟨ck_m_finds.1, ck_m_finds.2.1, ck_m_finds.2.2, by decide, by decide⟩⟩
theorem ln_m_lacks_86 : VL Mm_lacks Mm_finds 86 1 9 := ⟨k1057, k1059, k32, ⟨_, _, rfl⟩, ⟨ck_m_finds.1, ck_m_finds.2.1, ck_m_finds.2.2, by decide, by decide⟩⟩
theorem ln_m_lacks_70 : SL Mm_lacks Mm_in 70 3 := ⟨k1053, k1054, ⟨ck_m_in.1, ck_m_in.2.1, ck_m_in.2.2, by decide, by decide⟩⟩
theorem ln_m_lay_80 : SL Mm_lay Mm_isSheet 80 1 := ⟨k1049, k1050, ⟨ck_m_isSheet.1, ck_m_isSheet.2.1, ck_m_isSheet.2.2, by decide, by decide⟩⟩
theorem ln_m_lay_70 : SL Mm_lay Mm_in 70 3 := ⟨k1053, k1054, ⟨ck_m_in.1, ck_m_in.2.1, ck_m_in.2.2, by decide, by decide⟩⟩
theorem k1069 : Cond.methodLink RX9 90 yX9_lacks ∈ gtbl := gm 1069 (by decide +kernel)
theorem ln_m_lay_90 : VL Mm_lay Mm_lacks 90 3 9 := ⟨k1069, k1071, k33, ⟨_, _, rfl⟩, ⟨ck_m_lacks.1, ck_m_lacks.2.1, ck_m_lacks.2.2, by decide, by decide⟩⟩
theorem k1073 : Cond.methodLink RX9 94 yX9_cut ∈ gtbl := gm 1073 (by decide +kernel)
theorem ln_m_lay_94 : SL Mm_lay Mm_cut 94 2 := ⟨k1073, k1074, ⟨ck_m_cut.1, ck_m_cut.2.1, ck_m_cut.2.2, by decide, by decide⟩⟩
theorem ln_m_get_80 : SL Mm_get Mm_isSheet 80 1 := ⟨k1049, k1050, ⟨ck_m_isSheet.1, ck_m_isSheet.2.1, ck_m_isSheet.2.2, by decide, by decide⟩⟩
theorem ln_m_get_70 : SL Mm_get Mm_in 70 3 := ⟨k1053, k1054, ⟨ck_m_in.1, ck_m_in.2.1, ck_m_in.2.2, by decide, by decide⟩⟩
theorem ln_m_get_90 : VL Mm_get Mm_lacks 90 3 9 := ⟨k1069, k1071, k33, ⟨_, _, rfl⟩, ⟨ck_m_lacks.1, ck_m_lacks.2.1, ck_m_lacks.2.2, by decide, by decide⟩⟩
theorem ln_m_copy_80 : SL Mm_copy Mm_isSheet 80 1 := ⟨k1049, k1050, ⟨ck_m_isSheet.1, ck_m_isSheet.2.1, ck_m_isSheet.2.2, by decide, by decide⟩⟩
theorem ln_m_copy_86 : VL Mm_copy Mm_finds 86 1 9 := ⟨k1057, k1059, k32, ⟨_, _, rfl⟩, ⟨ck_m_finds.1, ck_m_finds.2.1, ck_m_finds.2.2, by decide, by decide⟩⟩
theorem ln_m_type_70 : SL Mm_type Mm_in 70 3 := ⟨k1053, k1054, ⟨ck_m_in.1, ck_m_in.2.1, ck_m_in.2.2, by decide, by decide⟩⟩
theorem ln_m_readsPipe_70 : SL Mm_readsPipe Mm_in 70 3 := ⟨k1053, k1054, ⟨ck_m_in.1, ck_m_in.2.1, ck_m_in.2.2, by decide, by decide⟩⟩
theorem k1102 : Cond.methodLink RX9 114 yX9_readsPipe ∈ gtbl := gm 1102 (by decide +kernel)
theorem ln_m_reads_114 : VL Mm_reads Mm_readsPipe 114 0 9 := ⟨k1102, k1104, k35, ⟨_, _, rfl⟩, ⟨ck_m_readsPipe.1, ck_m_readsPipe.2.1, ck_m_readsPipe.2.2, by decide, by decide⟩⟩
theorem k1098 : Cond.methodLink RX9 118 yX9_reads ∈ gtbl := gm 1098 (by decide +kernel)
theorem ln_m_fault_118 : VL Mm_fault Mm_reads 118 0 9 := ⟨k1098, k1100, k34, ⟨_, _, rfl⟩, ⟨ck_m_reads.1, ck_m_reads.2.1, ck_m_reads.2.2, by decide, by decide⟩⟩
theorem ln_m_undo_118 : VL Mm_undo Mm_reads 118 0 9 := ⟨k1098, k1100, k34, ⟨_, _, rfl⟩, ⟨ck_m_reads.1, ck_m_reads.2.1, ck_m_reads.2.2, by decide, by decide⟩⟩
theorem ln_m_set_70 : SL Mm_set Mm_in 70 3 := ⟨k1053, k1054, ⟨ck_m_in.1, ck_m_in.2.1, ck_m_in.2.2, by decide, by decide⟩⟩
theorem ln_m_isEnd_70 : SL Mm_isEnd Mm_in 70 3 := ⟨k1053, k1054, ⟨ck_m_in.1, ck_m_in.2.1, ck_m_in.2.2, by decide, by decide⟩⟩
theorem ln_m_isWire_70 : SL Mm_isWire Mm_in 70 3 := ⟨k1053, k1054, ⟨ck_m_in.1, ck_m_in.2.1, ck_m_in.2.2, by decide, by decide⟩⟩
theorem k1126 : Cond.methodLink RX9 130 yX9_isEnd ∈ gtbl := gm 1126 (by decide +kernel)
theorem ln_m_areEnds_130 : SL Mm_areEnds Mm_isEnd 130 1 := ⟨k1126, k1127, ⟨ck_m_isEnd.1, ck_m_isEnd.2.1, ck_m_isEnd.2.2, by decide, by decide⟩⟩
theorem k1123 : Cond.methodLink RX9 136 yX9_areEnds ∈ gtbl := gm 1123 (by decide +kernel)
theorem ln_m_letIn_136 : SL Mm_letIn Mm_areEnds 136 2 := ⟨k1123, k1124, ⟨ck_m_areEnds.1, ck_m_areEnds.2.1, ck_m_areEnds.2.2, by decide, by decide⟩⟩
theorem k1129 : Cond.methodLink RX9 140 yX9_more ∈ gtbl := gm 1129 (by decide +kernel)
theorem ln_m_letIn_140 : VL Mm_letIn Mm_more 140 2 9 := ⟨k1129, k1131, k36, ⟨_, _, rfl⟩, ⟨ck_m_more.1, ck_m_more.2.1, ck_m_more.2.2, by decide, by decide⟩⟩
theorem k1137 : Cond.methodLink RX9 143 yX9_isWire ∈ gtbl := gm 1137 (by decide +kernel)
theorem ln_m_pull_143 : SL Mm_pull Mm_isWire 143 1 := ⟨k1137, k1138, ⟨ck_m_isWire.1, ck_m_isWire.2.1, ck_m_isWire.2.2, by decide, by decide⟩⟩
theorem ln_m_pull_140 : VL Mm_pull Mm_more 140 2 9 := ⟨k1129, k1131, k36, ⟨_, _, rfl⟩, ⟨ck_m_more.1, ck_m_more.2.1, ck_m_more.2.2, by decide, by decide⟩⟩
theorem ln_m_read_80 : SL Mm_read Mm_isSheet 80 1 := ⟨k1049, k1050, ⟨ck_m_isSheet.1, ck_m_isSheet.2.1, ck_m_isSheet.2.2, by decide, by decide⟩⟩
theorem ln_m_read_86 : VL Mm_read Mm_finds 86 1 9 := ⟨k1057, k1059, k32, ⟨_, _, rfl⟩, ⟨ck_m_finds.1, ck_m_finds.2.1, ck_m_finds.2.2, by decide, by decide⟩⟩
theorem k1149 : Cond.methodLink RX9 146 yX9_letIn ∈ gtbl := gm 1149 (by decide +kernel)
theorem ln_m_read_146 : VL Mm_read Mm_letIn 146 2 9 := ⟨k1149, k1120, k1121, ⟨_, _, rfl⟩, ⟨ck_m_letIn.1, ck_m_letIn.2.1, ck_m_letIn.2.2, by decide, by decide⟩⟩
theorem k1178 : Cond.methodLink RX9 149 yX9_isIn ∈ gtbl := gm 1178 (by decide +kernel)
theorem ln_m_isOpen_149 : SL Mm_isOpen Mm_isIn 149 2 := ⟨k1178, k1179, ⟨ck_m_isIn.1, ck_m_isIn.2.1, ck_m_isIn.2.2, by decide, by decide⟩⟩
theorem k1174 : Cond.methodLink RX9 152 yX9_isOpen ∈ gtbl := gm 1174 (by decide +kernel)
theorem ln_m_findFar_152 : VL Mm_findFar Mm_isOpen 152 1 9 := ⟨k1174, k1176, k42, ⟨_, _, rfl⟩, ⟨ck_m_isOpen.1, ck_m_isOpen.2.1, ck_m_isOpen.2.2, by decide, by decide⟩⟩
theorem k1170 : Cond.methodLink RX9 155 yX9_findFar ∈ gtbl := gm 1170 (by decide +kernel)
theorem ln_m_findWay_155 : VL Mm_findWay Mm_findFar 155 1 9 := ⟨k1170, k1172, k41, ⟨_, _, rfl⟩, ⟨ck_m_findFar.1, ck_m_findFar.2.1, ck_m_findFar.2.2, by decide, by decide⟩⟩
theorem k1181 : Cond.methodLink RX9 159 yX9_other ∈ gtbl := gm 1181 (by decide +kernel)
theorem ln_m_findWay_159 : VL Mm_findWay Mm_other 159 2 9 := ⟨k1181, k1183, k43, ⟨_, _, rfl⟩, ⟨ck_m_other.1, ck_m_other.2.1, ck_m_other.2.2, by decide, by decide⟩⟩
theorem ln_m_findWay_152 : VL Mm_findWay Mm_isOpen 152 1 9 := ⟨k1174, k1176, k42, ⟨_, _, rfl⟩, ⟨ck_m_isOpen.1, ck_m_isOpen.2.1, ck_m_isOpen.2.2, by decide, by decide⟩⟩
theorem k1166 : Cond.methodLink RX9 162 yX9_findWay ∈ gtbl := gm 1166 (by decide +kernel)
theorem ln_m_draws_162 : VL Mm_draws Mm_findWay 162 2 9 := ⟨k1166, k1168, k40, ⟨_, _, rfl⟩, ⟨ck_m_findWay.1, ck_m_findWay.2.1, ck_m_findWay.2.2, by decide, by decide⟩⟩
theorem ln_m_canPull_149 : SL Mm_canPull Mm_isIn 149 2 := ⟨k1178, k1179, ⟨ck_m_isIn.1, ck_m_isIn.2.1, ck_m_isIn.2.2, by decide, by decide⟩⟩
theorem ln_m_pulls_149 : SL Mm_pulls Mm_isIn 149 2 := ⟨k1178, k1179, ⟨ck_m_isIn.1, ck_m_isIn.2.1, ck_m_isIn.2.2, by decide, by decide⟩⟩
theorem ln_m_goes_118 : VL Mm_goes Mm_reads 118 0 9 := ⟨k1098, k1100, k34, ⟨_, _, rfl⟩, ⟨ck_m_reads.1, ck_m_reads.2.1, ck_m_reads.2.2, by decide, by decide⟩⟩
theorem k1162 : Cond.methodLink RX9 174 yX9_draws ∈ gtbl := gm 1162 (by decide +kernel)
theorem ln_m_goes_174 : VL Mm_goes Mm_draws 174 2 9 := ⟨k1162, k1164, k39, ⟨_, _, rfl⟩, ⟨ck_m_draws.1, ck_m_draws.2.1, ck_m_draws.2.2, by decide, by decide⟩⟩
theorem k1185 : Cond.methodLink RX9 177 yX9_canPull ∈ gtbl := gm 1185 (by decide +kernel)
theorem ln_m_goes_177 : VL Mm_goes Mm_canPull 177 1 9 := ⟨k1185, k1187, k44, ⟨_, _, rfl⟩, ⟨ck_m_canPull.1, ck_m_canPull.2.1, ck_m_canPull.2.2, by decide, by decide⟩⟩
theorem k1189 : Cond.methodLink RX9 180 yX9_pulls ∈ gtbl := gm 1189 (by decide +kernel)
theorem ln_m_goes_180 : VL Mm_goes Mm_pulls 180 1 9 := ⟨k1189, k1191, k45, ⟨_, _, rfl⟩, ⟨ck_m_pulls.1, ck_m_pulls.2.1, ck_m_pulls.2.2, by decide, by decide⟩⟩
theorem k1158 : Cond.methodLink RX9 183 yX9_goes ∈ gtbl := gm 1158 (by decide +kernel)
theorem ln_m_goesAll_183 : VL Mm_goesAll Mm_goes 183 1 9 := ⟨k1158, k1160, k38, ⟨_, _, rfl⟩, ⟨ck_m_goes.1, ck_m_goes.2.1, ck_m_goes.2.2, by decide, by decide⟩⟩
theorem k1154 : Cond.methodLink RX9 186 yX9_goesAll ∈ gtbl := gm 1154 (by decide +kernel)
theorem ln_m_pipe_186 : VL Mm_pipe Mm_goesAll 186 0 9 := ⟨k1154, k1156, k37, ⟨_, _, rfl⟩, ⟨ck_m_goesAll.1, ck_m_goesAll.2.1, ck_m_goesAll.2.2, by decide, by decide⟩⟩
theorem ln_m_pipe_70 : SL Mm_pipe Mm_in 70 3 := ⟨k1053, k1054, ⟨ck_m_in.1, ck_m_in.2.1, ck_m_in.2.2, by decide, by decide⟩⟩
theorem ln_m_judged_186 : VL Mm_judged Mm_goesAll 186 0 9 := ⟨k1154, k1156, k37, ⟨_, _, rfl⟩, ⟨ck_m_goesAll.1, ck_m_goesAll.2.1, ck_m_goesAll.2.2, by decide, by decide⟩⟩
theorem ln_m_stateOf_183 : VL Mm_stateOf Mm_goes 183 1 9 := ⟨k1158, k1160, k38, ⟨_, _, rfl⟩, ⟨ck_m_goes.1, ck_m_goes.2.1, ck_m_goes.2.2, by decide, by decide⟩⟩
theorem k1208 : Cond.methodLink RX9 189 yX9_fullNow ∈ gtbl := gm 1208 (by decide +kernel)
theorem ln_m_stateOf_189 : VL Mm_stateOf Mm_fullNow 189 0 9 := ⟨k1208, k1210, k47, ⟨_, _, rfl⟩, ⟨ck_m_fullNow.1, ck_m_fullNow.2.1, ck_m_fullNow.2.2, by decide, by decide⟩⟩
theorem ln_m_state_70 : SL Mm_state Mm_in 70 3 := ⟨k1053, k1054, ⟨ck_m_in.1, ck_m_in.2.1, ck_m_in.2.2, by decide, by decide⟩⟩
theorem k1201 : Cond.methodLink RX9 192 yX9_isTwo ∈ gtbl := gm 1201 (by decide +kernel)
theorem ln_m_state_192 : SL Mm_state Mm_isTwo 192 1 := ⟨k1201, k1202, ⟨ck_m_isTwo.1, ck_m_isTwo.2.1, ck_m_isTwo.2.2, by decide, by decide⟩⟩
theorem k1204 : Cond.methodLink RX9 195 yX9_stateOf ∈ gtbl := gm 1204 (by decide +kernel)
theorem ln_m_state_195 : VL Mm_state Mm_stateOf 195 2 9 := ⟨k1204, k1206, k46, ⟨_, _, rfl⟩, ⟨ck_m_stateOf.1, ck_m_stateOf.2.1, ck_m_stateOf.2.2, by decide, by decide⟩⟩
theorem ln_m_pipesOf_149 : SL Mm_pipesOf Mm_isIn 149 2 := ⟨k1178, k1179, ⟨ck_m_isIn.1, ck_m_isIn.2.1, ck_m_isIn.2.2, by decide, by decide⟩⟩
theorem ln_m_wire_70 : SL Mm_wire Mm_in 70 3 := ⟨k1053, k1054, ⟨ck_m_in.1, ck_m_in.2.1, ck_m_in.2.2, by decide, by decide⟩⟩
theorem ln_m_wire_143 : SL Mm_wire Mm_isWire 143 1 := ⟨k1137, k1138, ⟨ck_m_isWire.1, ck_m_isWire.2.1, ck_m_isWire.2.2, by decide, by decide⟩⟩
theorem ln_m_wire_183 : VL Mm_wire Mm_goes 183 1 9 := ⟨k1158, k1160, k38, ⟨_, _, rfl⟩, ⟨ck_m_goes.1, ck_m_goes.2.1, ck_m_goes.2.2, by decide, by decide⟩⟩
theorem k1216 : Cond.methodLink RX9 198 yX9_pipesOf ∈ gtbl := gm 1216 (by decide +kernel)
theorem ln_m_wire_198 : VL Mm_wire Mm_pipesOf 198 1 9 := ⟨k1216, k1218, k48, ⟨_, _, rfl⟩, ⟨ck_m_pipesOf.1, ck_m_pipesOf.2.1, ck_m_pipesOf.2.2, by decide, by decide⟩⟩
theorem ln_m_outOf_149 : SL Mm_outOf Mm_isIn 149 2 := ⟨k1178, k1179, ⟨ck_m_isIn.1, ck_m_isIn.2.1, ck_m_isIn.2.2, by decide, by decide⟩⟩
theorem ln_m_outOf_198 : VL Mm_outOf Mm_pipesOf 198 1 9 := ⟨k1216, k1218, k48, ⟨_, _, rfl⟩, ⟨ck_m_pipesOf.1, ck_m_pipesOf.2.1, ck_m_pipesOf.2.2, by decide, by decide⟩⟩
theorem ln_m_out_186 : VL Mm_out Mm_goesAll 186 0 9 := ⟨k1154, k1156, k37, ⟨_, _, rfl⟩, ⟨ck_m_goesAll.1, ck_m_goesAll.2.1, ck_m_goesAll.2.2, by decide, by decide⟩⟩
theorem ln_m_out_143 : SL Mm_out Mm_isWire 143 1 := ⟨k1137, k1138, ⟨ck_m_isWire.1, ck_m_isWire.2.1, ck_m_isWire.2.2, by decide, by decide⟩⟩
theorem k1224 : Cond.methodLink RX9 201 yX9_outOf ∈ gtbl := gm 1224 (by decide +kernel)
theorem ln_m_out_201 : VL Mm_out Mm_outOf 201 1 9 := ⟨k1224, k1226, k49, ⟨_, _, rfl⟩, ⟨ck_m_outOf.1, ck_m_outOf.2.1, ck_m_outOf.2.2, by decide, by decide⟩⟩
theorem ln_m_shortestOf_162 : VL Mm_shortestOf Mm_findWay 162 2 9 := ⟨k1166, k1168, k40, ⟨_, _, rfl⟩, ⟨ck_m_findWay.1, ck_m_findWay.2.1, ck_m_findWay.2.2, by decide, by decide⟩⟩
theorem ln_m_shortest_186 : VL Mm_shortest Mm_goesAll 186 0 9 := ⟨k1154, k1156, k37, ⟨_, _, rfl⟩, ⟨ck_m_goesAll.1, ck_m_goesAll.2.1, ck_m_goesAll.2.2, by decide, by decide⟩⟩
theorem ln_m_shortest_136 : SL Mm_shortest Mm_areEnds 136 2 := ⟨k1123, k1124, ⟨ck_m_areEnds.1, ck_m_areEnds.2.1, ck_m_areEnds.2.2, by decide, by decide⟩⟩
theorem k1232 : Cond.methodLink RX9 204 yX9_shortestOf ∈ gtbl := gm 1232 (by decide +kernel)
theorem ln_m_shortest_204 : VL Mm_shortest Mm_shortestOf 204 3 9 := ⟨k1232, k1234, k50, ⟨_, _, rfl⟩, ⟨ck_m_shortestOf.1, ck_m_shortestOf.2.1, ck_m_shortestOf.2.2, by decide, by decide⟩⟩
theorem k1244 : Cond.methodLink RX9 207 yX9_keeps ∈ gtbl := gm 1244 (by decide +kernel)
theorem ln_m_drawnOf_207 : VL Mm_drawnOf Mm_keeps 207 0 9 := ⟨k1244, k1246, k52, ⟨_, _, rfl⟩, ⟨ck_m_keeps.1, ck_m_keeps.2.1, ck_m_keeps.2.2, by decide, by decide⟩⟩
theorem ln_m_drawnOf_174 : VL Mm_drawnOf Mm_draws 174 2 9 := ⟨k1162, k1164, k39, ⟨_, _, rfl⟩, ⟨ck_m_draws.1, ck_m_draws.2.1, ck_m_draws.2.2, by decide, by decide⟩⟩
theorem k1248 : Cond.methodLink RX9 210 yX9_putsBack ∈ gtbl := gm 1248 (by decide +kernel)
theorem ln_m_drawnOf_210 : VL Mm_drawnOf Mm_putsBack 210 0 9 := ⟨k1248, k1250, k53, ⟨_, _, rfl⟩, ⟨ck_m_putsBack.1, ck_m_putsBack.2.1, ck_m_putsBack.2.2, by decide, by decide⟩⟩
theorem ln_m_flows_149 : SL Mm_flows Mm_isIn 149 2 := ⟨k1178, k1179, ⟨ck_m_isIn.1, ck_m_isIn.2.1, ck_m_isIn.2.2, by decide, by decide⟩⟩
theorem ln_m_flows_159 : VL Mm_flows Mm_other 159 2 9 := ⟨k1181, k1183, k43, ⟨_, _, rfl⟩, ⟨ck_m_other.1, ck_m_other.2.1, ck_m_other.2.2, by decide, by decide⟩⟩
theorem k1256 : Cond.methodLink RX9 213 yX9_flows ∈ gtbl := gm 1256 (by decide +kernel)
theorem ln_m_mostOf_213 : VL Mm_mostOf Mm_flows 213 2 9 := ⟨k1256, k1258, k55, ⟨_, _, rfl⟩, ⟨ck_m_flows.1, ck_m_flows.2.1, ck_m_flows.2.2, by decide, by decide⟩⟩
theorem ln_m_most_186 : VL Mm_most Mm_goesAll 186 0 9 := ⟨k1154, k1156, k37, ⟨_, _, rfl⟩, ⟨ck_m_goesAll.1, ck_m_goesAll.2.1, ck_m_goesAll.2.2, by decide, by decide⟩⟩
theorem ln_m_most_136 : SL Mm_most Mm_areEnds 136 2 := ⟨k1123, k1124, ⟨ck_m_areEnds.1, ck_m_areEnds.2.1, ck_m_areEnds.2.2, by decide, by decide⟩⟩
theorem ln_m_most_192 : SL Mm_most Mm_isTwo 192 1 := ⟨k1201, k1202, ⟨ck_m_isTwo.1, ck_m_isTwo.2.1, ck_m_isTwo.2.2, by decide, by decide⟩⟩
theorem k1240 : Cond.methodLink RX9 216 yX9_drawnOf ∈ gtbl := gm 1240 (by decide +kernel)
theorem ln_m_most_216 : VL Mm_most Mm_drawnOf 216 2 9 := ⟨k1240, k1242, k51, ⟨_, _, rfl⟩, ⟨ck_m_drawnOf.1, ck_m_drawnOf.2.1, ck_m_drawnOf.2.2, by decide, by decide⟩⟩
theorem k1252 : Cond.methodLink RX9 219 yX9_mostOf ∈ gtbl := gm 1252 (by decide +kernel)
theorem ln_m_most_219 : VL Mm_most Mm_mostOf 219 2 9 := ⟨k1252, k1254, k54, ⟨_, _, rfl⟩, ⟨ck_m_mostOf.1, ck_m_mostOf.2.1, ck_m_mostOf.2.2, by decide, by decide⟩⟩
theorem ln_m_failsOf_198 : VL Mm_failsOf Mm_pipesOf 198 1 9 := ⟨k1216, k1218, k48, ⟨_, _, rfl⟩, ⟨ck_m_pipesOf.1, ck_m_pipesOf.2.1, ck_m_pipesOf.2.2, by decide, by decide⟩⟩
theorem ln_m_failsOf_149 : SL Mm_failsOf Mm_isIn 149 2 := ⟨k1178, k1179, ⟨ck_m_isIn.1, ck_m_isIn.2.1, ck_m_isIn.2.2, by decide, by decide⟩⟩
theorem ln_m_fails_186 : VL Mm_fails Mm_goesAll 186 0 9 := ⟨k1154, k1156, k37, ⟨_, _, rfl⟩, ⟨ck_m_goesAll.1, ck_m_goesAll.2.1, ck_m_goesAll.2.2, by decide, by decide⟩⟩
theorem ln_m_fails_143 : SL Mm_fails Mm_isWire 143 1 := ⟨k1137, k1138, ⟨ck_m_isWire.1, ck_m_isWire.2.1, ck_m_isWire.2.2, by decide, by decide⟩⟩
theorem k1264 : Cond.methodLink RX9 222 yX9_failsOf ∈ gtbl := gm 1264 (by decide +kernel)
theorem ln_m_fails_222 : VL Mm_fails Mm_failsOf 222 1 9 := ⟨k1264, k1266, k56, ⟨_, _, rfl⟩, ⟨ck_m_failsOf.1, ck_m_failsOf.2.1, ck_m_failsOf.2.2, by decide, by decide⟩⟩
theorem ln_m_soonestNow_222 : VL Mm_soonestNow Mm_failsOf 222 1 9 := ⟨k1264, k1266, k56, ⟨_, _, rfl⟩, ⟨ck_m_failsOf.1, ck_m_failsOf.2.1, ck_m_failsOf.2.2, by decide, by decide⟩⟩
theorem ln_m_soonest_186 : VL Mm_soonest Mm_goesAll 186 0 9 := ⟨k1154, k1156, k37, ⟨_, _, rfl⟩, ⟨ck_m_goesAll.1, ck_m_goesAll.2.1, ck_m_goesAll.2.2, by decide, by decide⟩⟩
theorem k1272 : Cond.methodLink RX9 225 yX9_soonestNow ∈ gtbl := gm 1272 (by decide +kernel)
theorem ln_m_soonest_225 : VL Mm_soonest Mm_soonestNow 225 0 9 := ⟨k1272, k1274, k57, ⟨_, _, rfl⟩, ⟨ck_m_soonestNow.1, ck_m_soonestNow.2.1, ck_m_soonestNow.2.2, by decide, by decide⟩⟩
theorem ln_m_leftOn_222 : VL Mm_leftOn Mm_failsOf 222 1 9 := ⟨k1264, k1266, k56, ⟨_, _, rfl⟩, ⟨ck_m_failsOf.1, ck_m_failsOf.2.1, ck_m_failsOf.2.2, by decide, by decide⟩⟩
theorem ln_m_leftOn_149 : SL Mm_leftOn Mm_isIn 149 2 := ⟨k1178, k1179, ⟨ck_m_isIn.1, ck_m_isIn.2.1, ck_m_isIn.2.2, by decide, by decide⟩⟩
theorem ln_m_left_186 : VL Mm_left Mm_goesAll 186 0 9 := ⟨k1154, k1156, k37, ⟨_, _, rfl⟩, ⟨ck_m_goesAll.1, ck_m_goesAll.2.1, ck_m_goesAll.2.2, by decide, by decide⟩⟩
theorem ln_m_left_70 : SL Mm_left Mm_in 70 3 := ⟨k1053, k1054, ⟨ck_m_in.1, ck_m_in.2.1, ck_m_in.2.2, by decide, by decide⟩⟩
theorem k1280 : Cond.methodLink RX9 228 yX9_leftOn ∈ gtbl := gm 1280 (by decide +kernel)
theorem ln_m_left_228 : VL Mm_left Mm_leftOn 228 1 9 := ⟨k1280, k1282, k58, ⟨_, _, rfl⟩, ⟨ck_m_leftOn.1, ck_m_leftOn.2.1, ck_m_leftOn.2.2, by decide, by decide⟩⟩
theorem ln_m_burnsBy_149 : SL Mm_burnsBy Mm_isIn 149 2 := ⟨k1178, k1179, ⟨ck_m_isIn.1, ck_m_isIn.2.1, ck_m_isIn.2.2, by decide, by decide⟩⟩
theorem k1296 : Cond.methodLink RX9 231 yX9_joined ∈ gtbl := gm 1296 (by decide +kernel)
theorem ln_m_burnsBy_231 : SL Mm_burnsBy Mm_joined 231 3 := ⟨k1296, k1297, ⟨ck_m_joined.1, ck_m_joined.2.1, ck_m_joined.2.2, by decide, by decide⟩⟩
theorem ln_m_joined_149 : SL Mm_joined Mm_isIn 149 2 := ⟨k1178, k1179, ⟨ck_m_isIn.1, ck_m_isIn.2.1, ck_m_isIn.2.2, by decide, by decide⟩⟩
theorem k1292 : Cond.methodLink RX9 234 yX9_burnsBy ∈ gtbl := gm 1292 (by decide +kernel)
theorem ln_m_burnsNow_234 : VL Mm_burnsNow Mm_burnsBy 234 5 9 := ⟨k1292, k1294, k60, ⟨_, _, rfl⟩, ⟨ck_m_burnsBy.1, ck_m_burnsBy.2.1, ck_m_burnsBy.2.2, by decide, by decide⟩⟩
theorem ln_m_burns_186 : VL Mm_burns Mm_goesAll 186 0 9 := ⟨k1154, k1156, k37, ⟨_, _, rfl⟩, ⟨ck_m_goesAll.1, ck_m_goesAll.2.1, ck_m_goesAll.2.2, by decide, by decide⟩⟩
theorem ln_m_burns_70 : SL Mm_burns Mm_in 70 3 := ⟨k1053, k1054, ⟨ck_m_in.1, ck_m_in.2.1, ck_m_in.2.2, by decide, by decide⟩⟩
theorem k1288 : Cond.methodLink RX9 238 yX9_burnsNow ∈ gtbl := gm 1288 (by decide +kernel)
theorem ln_m_burns_238 : VL Mm_burns Mm_burnsNow 238 1 9 := ⟨k1288, k1290, k59, ⟨_, _, rfl⟩, ⟨ck_m_burnsNow.1, ck_m_burnsNow.2.1, ck_m_burnsNow.2.2, by decide, by decide⟩⟩
theorem ln_m_lights_207 : VL Mm_lights Mm_keeps 207 0 9 := ⟨k1244, k1246, k52, ⟨_, _, rfl⟩, ⟨ck_m_keeps.1, ck_m_keeps.2.1, ck_m_keeps.2.2, by decide, by decide⟩⟩
theorem ln_m_lights_174 : VL Mm_lights Mm_draws 174 2 9 := ⟨k1162, k1164, k39, ⟨_, _, rfl⟩, ⟨ck_m_draws.1, ck_m_draws.2.1, ck_m_draws.2.2, by decide, by decide⟩⟩
theorem ln_m_lights_210 : VL Mm_lights Mm_putsBack 210 0 9 := ⟨k1248, k1250, k53, ⟨_, _, rfl⟩, ⟨ck_m_putsBack.1, ck_m_putsBack.2.1, ck_m_putsBack.2.2, by decide, by decide⟩⟩
theorem ln_m_lights_234 : VL Mm_lights Mm_burnsBy 234 5 9 := ⟨k1292, k1294, k60, ⟨_, _, rfl⟩, ⟨ck_m_burnsBy.1, ck_m_burnsBy.2.1, ck_m_burnsBy.2.2, by decide, by decide⟩⟩
theorem ln_m_findLit_238 : VL Mm_findLit Mm_burnsNow 238 1 9 := ⟨k1288, k1290, k59, ⟨_, _, rfl⟩, ⟨ck_m_burnsNow.1, ck_m_burnsNow.2.1, ck_m_burnsNow.2.2, by decide, by decide⟩⟩
theorem k1307 : Cond.methodLink RX9 241 yX9_lights ∈ gtbl := gm 1307 (by decide +kernel)
theorem ln_m_findLit_241 : VL Mm_findLit Mm_lights 241 3 9 := ⟨k1307, k1309, k62, ⟨_, _, rfl⟩, ⟨ck_m_lights.1, ck_m_lights.2.1, ck_m_lights.2.2, by decide, by decide⟩⟩
theorem ln_m_lit_70 : SL Mm_lit Mm_in 70 3 := ⟨k1053, k1054, ⟨ck_m_in.1, ck_m_in.2.1, ck_m_in.2.2, by decide, by decide⟩⟩
theorem ln_m_lit_186 : VL Mm_lit Mm_goesAll 186 0 9 := ⟨k1154, k1156, k37, ⟨_, _, rfl⟩, ⟨ck_m_goesAll.1, ck_m_goesAll.2.1, ck_m_goesAll.2.2, by decide, by decide⟩⟩
theorem k1303 : Cond.methodLink RX9 245 yX9_findLit ∈ gtbl := gm 1303 (by decide +kernel)
theorem ln_m_lit_245 : VL Mm_lit Mm_findLit 245 1 9 := ⟨k1303, k1305, k61, ⟨_, _, rfl⟩, ⟨ck_m_findLit.1, ck_m_findLit.2.1, ck_m_findLit.2.2, by decide, by decide⟩⟩
theorem ln_m_goesThrough_149 : SL Mm_goesThrough Mm_isIn 149 2 := ⟨k1178, k1179, ⟨ck_m_isIn.1, ck_m_isIn.2.1, ck_m_isIn.2.2, by decide, by decide⟩⟩
theorem k1325 : Cond.methodLink RX9 248 yX9_goesThrough ∈ gtbl := gm 1325 (by decide +kernel)
theorem ln_m_walks_248 : VL Mm_walks Mm_goesThrough 248 1 9 := ⟨k1325, k1327, k65, ⟨_, _, rfl⟩, ⟨ck_m_goesThrough.1, ck_m_goesThrough.2.1, ck_m_goesThrough.2.2, by decide, by decide⟩⟩
theorem k1329 : Cond.methodLink RX9 251 yX9_inAt ∈ gtbl := gm 1329 (by decide +kernel)
theorem ln_m_walks_251 : VL Mm_walks Mm_inAt 251 1 9 := ⟨k1329, k1331, k66, ⟨_, _, rfl⟩, ⟨ck_m_inAt.1, ck_m_inAt.2.1, ck_m_inAt.2.2, by decide, by decide⟩⟩
theorem k1333 : Cond.methodLink RX9 254 yX9_outAt ∈ gtbl := gm 1333 (by decide +kernel)
theorem ln_m_walks_254 : VL Mm_walks Mm_outAt 254 1 9 := ⟨k1333, k1335, k67, ⟨_, _, rfl⟩, ⟨ck_m_outAt.1, ck_m_outAt.2.1, ck_m_outAt.2.2, by decide, by decide⟩⟩
theorem ln_m_waysTo_254 : VL Mm_waysTo Mm_outAt 254 1 9 := ⟨k1333, k1335, k67, ⟨_, _, rfl⟩, ⟨ck_m_outAt.1, ck_m_outAt.2.1, ck_m_outAt.2.2, by decide, by decide⟩⟩
theorem k1321 : Cond.methodLink RX9 257 yX9_walks ∈ gtbl := gm 1321 (by decide +kernel)
theorem ln_m_heardOf_257 : VL Mm_heardOf Mm_walks 257 2 9 := ⟨k1321, k1323, k64, ⟨_, _, rfl⟩, ⟨ck_m_walks.1, ck_m_walks.2.1, ck_m_walks.2.2, by decide, by decide⟩⟩
theorem k1337 : Cond.methodLink RX9 261 yX9_waysTo ∈ gtbl := gm 1337 (by decide +kernel)
theorem ln_m_heardOf_261 : VL Mm_heardOf Mm_waysTo 261 3 9 := ⟨k1337, k1339, k68, ⟨_, _, rfl⟩, ⟨ck_m_waysTo.1, ck_m_waysTo.2.1, ck_m_waysTo.2.2, by decide, by decide⟩⟩
theorem ln_m_heard_118 : VL Mm_heard Mm_reads 118 0 9 := ⟨k1098, k1100, k34, ⟨_, _, rfl⟩, ⟨ck_m_reads.1, ck_m_reads.2.1, ck_m_reads.2.2, by decide, by decide⟩⟩
theorem ln_m_heard_130 : SL Mm_heard Mm_isEnd 130 1 := ⟨k1126, k1127, ⟨ck_m_isEnd.1, ck_m_isEnd.2.1, ck_m_isEnd.2.2, by decide, by decide⟩⟩
theorem ln_m_heard_70 : SL Mm_heard Mm_in 70 3 := ⟨k1053, k1054, ⟨ck_m_in.1, ck_m_in.2.1, ck_m_in.2.2, by decide, by decide⟩⟩
theorem k1317 : Cond.methodLink RX9 268 yX9_heardOf ∈ gtbl := gm 1317 (by decide +kernel)
theorem ln_m_heard_268 : VL Mm_heard Mm_heardOf 268 3 9 := ⟨k1317, k1319, k63, ⟨_, _, rfl⟩, ⟨ck_m_heardOf.1, ck_m_heardOf.2.1, ck_m_heardOf.2.2, by decide, by decide⟩⟩
theorem ln_m_meet_118 : VL Mm_meet Mm_reads 118 0 9 := ⟨k1098, k1100, k34, ⟨_, _, rfl⟩, ⟨ck_m_reads.1, ck_m_reads.2.1, ck_m_reads.2.2, by decide, by decide⟩⟩
theorem ln_m_meet_70 : SL Mm_meet Mm_in 70 3 := ⟨k1053, k1054, ⟨ck_m_in.1, ck_m_in.2.1, ck_m_in.2.2, by decide, by decide⟩⟩
theorem ln_m_meet_192 : SL Mm_meet Mm_isTwo 192 1 := ⟨k1201, k1202, ⟨ck_m_isTwo.1, ck_m_isTwo.2.1, ck_m_isTwo.2.2, by decide, by decide⟩⟩
theorem k1345 : Cond.methodLink RX9 271 yX9_meetOf ∈ gtbl := gm 1345 (by decide +kernel)
theorem ln_m_meet_271 : VL Mm_meet Mm_meetOf 271 4 9 := ⟨k1345, k1347, k69, ⟨_, _, rfl⟩, ⟨ck_m_meetOf.1, ck_m_meetOf.2.1, ck_m_meetOf.2.2, by decide, by decide⟩⟩
theorem ln_m_drowsyOf_149 : SL Mm_drowsyOf Mm_isIn 149 2 := ⟨k1178, k1179, ⟨ck_m_isIn.1, ck_m_isIn.2.1, ck_m_isIn.2.2, by decide, by decide⟩⟩
theorem ln_m_drowsyOf_159 : VL Mm_drowsyOf Mm_other 159 2 9 := ⟨k1181, k1183, k43, ⟨_, _, rfl⟩, ⟨ck_m_other.1, ck_m_other.2.1, ck_m_other.2.2, by decide, by decide⟩⟩
theorem ln_m_drowsy_118 : VL Mm_drowsy Mm_reads 118 0 9 := ⟨k1098, k1100, k34, ⟨_, _, rfl⟩, ⟨ck_m_reads.1, ck_m_reads.2.1, ck_m_reads.2.2, by decide, by decide⟩⟩
theorem ln_m_drowsy_130 : SL Mm_drowsy Mm_isEnd 130 1 := ⟨k1126, k1127, ⟨ck_m_isEnd.1, ck_m_isEnd.2.1, ck_m_isEnd.2.2, by decide, by decide⟩⟩
theorem ln_m_drowsy_70 : SL Mm_drowsy Mm_in 70 3 := ⟨k1053, k1054, ⟨ck_m_in.1, ck_m_in.2.1, ck_m_in.2.2, by decide, by decide⟩⟩
theorem k1354 : Cond.methodLink RX9 278 yX9_drowsyOf ∈ gtbl := gm 1354 (by decide +kernel)
theorem ln_m_drowsy_278 : VL Mm_drowsy Mm_drowsyOf 278 3 9 := ⟨k1354, k1356, k70, ⟨_, _, rfl⟩, ⟨ck_m_drowsyOf.1, ck_m_drowsyOf.2.1, ck_m_drowsyOf.2.2, by decide, by decide⟩⟩
theorem ln_m_chalk_143 : SL Mm_chalk Mm_isWire 143 1 := ⟨k1137, k1138, ⟨ck_m_isWire.1, ck_m_isWire.2.1, ck_m_isWire.2.2, by decide, by decide⟩⟩
theorem ln_m_chalk_136 : SL Mm_chalk Mm_areEnds 136 2 := ⟨k1123, k1124, ⟨ck_m_areEnds.1, ck_m_areEnds.2.1, ck_m_areEnds.2.2, by decide, by decide⟩⟩
theorem ln_m_liesNow_149 : SL Mm_liesNow Mm_isIn 149 2 := ⟨k1178, k1179, ⟨ck_m_isIn.1, ck_m_isIn.2.1, ck_m_isIn.2.2, by decide, by decide⟩⟩
theorem ln_m_lies_186 : VL Mm_lies Mm_goesAll 186 0 9 := ⟨k1154, k1156, k37, ⟨_, _, rfl⟩, ⟨ck_m_goesAll.1, ck_m_goesAll.2.1, ck_m_goesAll.2.2, by decide, by decide⟩⟩
theorem k1367 : Cond.methodLink RX9 284 yX9_liesNow ∈ gtbl := gm 1367 (by decide +kernel)
theorem ln_m_lies_284 : VL Mm_lies Mm_liesNow 284 0 9 := ⟨k1367, k1369, k71, ⟨_, _, rfl⟩, ⟨ck_m_liesNow.1, ck_m_liesNow.2.1, ck_m_liesNow.2.2, by decide, by decide⟩⟩
theorem ln_m_scene_70 : SL Mm_scene Mm_in 70 3 := ⟨k1053, k1054, ⟨ck_m_in.1, ck_m_in.2.1, ck_m_in.2.2, by decide, by decide⟩⟩
theorem ln_m_scenesOf_183 : VL Mm_scenesOf Mm_goes 183 1 9 := ⟨k1158, k1160, k38, ⟨_, _, rfl⟩, ⟨ck_m_goes.1, ck_m_goes.2.1, ck_m_goes.2.2, by decide, by decide⟩⟩
theorem ln_m_scenesOf_238 : VL Mm_scenesOf Mm_burnsNow 238 1 9 := ⟨k1288, k1290, k59, ⟨_, _, rfl⟩, ⟨ck_m_burnsNow.1, ck_m_burnsNow.2.1, ck_m_burnsNow.2.2, by decide, by decide⟩⟩
theorem ln_m_scenes_70 : SL Mm_scenes Mm_in 70 3 := ⟨k1053, k1054, ⟨ck_m_in.1, ck_m_in.2.1, ck_m_in.2.2, by decide, by decide⟩⟩
theorem k1379 : Cond.methodLink RX9 290 yX9_scenesOf ∈ gtbl := gm 1379 (by decide +kernel)
theorem ln_m_scenes_290 : VL Mm_scenes Mm_scenesOf 290 1 9 := ⟨k1379, k1381, k72, ⟨_, _, rfl⟩, ⟨ck_m_scenesOf.1, ck_m_scenesOf.2.1, ck_m_scenesOf.2.2, by decide, by decide⟩⟩
theorem ln_m_cueOf_290 : VL Mm_cueOf Mm_scenesOf 290 1 9 := ⟨k1379, k1381, k72, ⟨_, _, rfl⟩, ⟨ck_m_scenesOf.1, ck_m_scenesOf.2.1, ck_m_scenesOf.2.2, by decide, by decide⟩⟩
theorem ln_m_cueOf_149 : SL Mm_cueOf Mm_isIn 149 2 := ⟨k1178, k1179, ⟨ck_m_isIn.1, ck_m_isIn.2.1, ck_m_isIn.2.2, by decide, by decide⟩⟩
theorem ln_m_cue_70 : SL Mm_cue Mm_in 70 3 := ⟨k1053, k1054, ⟨ck_m_in.1, ck_m_in.2.1, ck_m_in.2.2, by decide, by decide⟩⟩
theorem k1387 : Cond.methodLink RX9 293 yX9_cueOf ∈ gtbl := gm 1387 (by decide +kernel)
theorem ln_m_cue_293 : VL Mm_cue Mm_cueOf 293 1 9 := ⟨k1387, k1389, k73, ⟨_, _, rfl⟩, ⟨ck_m_cueOf.1, ck_m_cueOf.2.1, ck_m_cueOf.2.2, by decide, by decide⟩⟩
theorem ln_m_forget_192 : SL Mm_forget Mm_isTwo 192 1 := ⟨k1201, k1202, ⟨ck_m_isTwo.1, ck_m_isTwo.2.1, ck_m_isTwo.2.2, by decide, by decide⟩⟩
theorem ln_m_write_136 : SL Mm_write Mm_areEnds 136 2 := ⟨k1123, k1124, ⟨ck_m_areEnds.1, ck_m_areEnds.2.1, ck_m_areEnds.2.2, by decide, by decide⟩⟩
theorem ln_m_write_80 : SL Mm_write Mm_isSheet 80 1 := ⟨k1049, k1050, ⟨ck_m_isSheet.1, ck_m_isSheet.2.1, ck_m_isSheet.2.2, by decide, by decide⟩⟩
theorem ln_m_write_86 : VL Mm_write Mm_finds 86 1 9 := ⟨k1057, k1059, k32, ⟨_, _, rfl⟩, ⟨ck_m_finds.1, ck_m_finds.2.1, ck_m_finds.2.2, by decide, by decide⟩⟩
theorem ln_m_write_186 : VL Mm_write Mm_goesAll 186 0 9 := ⟨k1154, k1156, k37, ⟨_, _, rfl⟩, ⟨ck_m_goesAll.1, ck_m_goesAll.2.1, ck_m_goesAll.2.2, by decide, by decide⟩⟩
theorem ln_m_write_162 : VL Mm_write Mm_findWay 162 2 9 := ⟨k1166, k1168, k40, ⟨_, _, rfl⟩, ⟨ck_m_findWay.1, ck_m_findWay.2.1, ck_m_findWay.2.2, by decide, by decide⟩⟩
theorem ln_m_write_94 : SL Mm_write Mm_cut 94 2 := ⟨k1073, k1074, ⟨ck_m_cut.1, ck_m_cut.2.1, ck_m_cut.2.2, by decide, by decide⟩⟩
theorem ln_m_count_186 : VL Mm_count Mm_goesAll 186 0 9 := ⟨k1154, k1156, k37, ⟨_, _, rfl⟩, ⟨ck_m_goesAll.1, ck_m_goesAll.2.1, ck_m_goesAll.2.2, by decide, by decide⟩⟩
theorem k1403 : Cond.methodLink RX9 296 yX9_ones ∈ gtbl := gm 1403 (by decide +kernel)
theorem ln_m_count_296 : SL Mm_count Mm_ones 296 1 := ⟨k1403, k1404, ⟨ck_m_ones.1, ck_m_ones.2.1, ck_m_ones.2.2, by decide, by decide⟩⟩
theorem k1412 : Cond.methodLink RX9 303 yX9_count ∈ gtbl := gm 1412 (by decide +kernel)
theorem ln_m_digest_303 : VL Mm_digest Mm_count 303 1 9 := ⟨k1412, k1400, k1401, ⟨_, _, rfl⟩, ⟨ck_m_count.1, ck_m_count.2.1, ck_m_count.2.2, by decide, by decide⟩⟩
theorem ln_m_digest_118 : VL Mm_digest Mm_reads 118 0 9 := ⟨k1098, k1100, k34, ⟨_, _, rfl⟩, ⟨ck_m_reads.1, ck_m_reads.2.1, ck_m_reads.2.2, by decide, by decide⟩⟩
theorem k1413 : Cond.methodLink RX9 306 yX9_judged ∈ gtbl := gm 1413 (by decide +kernel)
theorem ln_m_digest_306 : VL Mm_digest Mm_judged 306 0 9 := ⟨k1413, k1194, k1195, ⟨_, _, rfl⟩, ⟨ck_m_judged.1, ck_m_judged.2.1, ck_m_judged.2.2, by decide, by decide⟩⟩
theorem ln_m_digest_198 : VL Mm_digest Mm_pipesOf 198 1 9 := ⟨k1216, k1218, k48, ⟨_, _, rfl⟩, ⟨ck_m_pipesOf.1, ck_m_pipesOf.2.1, ck_m_pipesOf.2.2, by decide, by decide⟩⟩
theorem ln_m_digest_201 : VL Mm_digest Mm_outOf 201 1 9 := ⟨k1224, k1226, k49, ⟨_, _, rfl⟩, ⟨ck_m_outOf.1, ck_m_outOf.2.1, ck_m_outOf.2.2, by decide, by decide⟩⟩
theorem ln_m_digest_222 : VL Mm_digest Mm_failsOf 222 1 9 := ⟨k1264, k1266, k56, ⟨_, _, rfl⟩, ⟨ck_m_failsOf.1, ck_m_failsOf.2.1, ck_m_failsOf.2.2, by decide, by decide⟩⟩
theorem ln_m_digest_189 : VL Mm_digest Mm_fullNow 189 0 9 := ⟨k1208, k1210, k47, ⟨_, _, rfl⟩, ⟨ck_m_fullNow.1, ck_m_fullNow.2.1, ck_m_fullNow.2.2, by decide, by decide⟩⟩
theorem ln_m_digest_225 : VL Mm_digest Mm_soonestNow 225 0 9 := ⟨k1272, k1274, k57, ⟨_, _, rfl⟩, ⟨ck_m_soonestNow.1, ck_m_soonestNow.2.1, ck_m_soonestNow.2.2, by decide, by decide⟩⟩
theorem ln_m_digest_228 : VL Mm_digest Mm_leftOn 228 1 9 := ⟨k1280, k1282, k58, ⟨_, _, rfl⟩, ⟨ck_m_leftOn.1, ck_m_leftOn.2.1, ck_m_leftOn.2.2, by decide, by decide⟩⟩
theorem ln_m_digest_238 : VL Mm_digest Mm_burnsNow 238 1 9 := ⟨k1288, k1290, k59, ⟨_, _, rfl⟩, ⟨ck_m_burnsNow.1, ck_m_burnsNow.2.1, ck_m_burnsNow.2.2, by decide, by decide⟩⟩
theorem ln_m_digest_204 : VL Mm_digest Mm_shortestOf 204 3 9 := ⟨k1232, k1234, k50, ⟨_, _, rfl⟩, ⟨ck_m_shortestOf.1, ck_m_shortestOf.2.1, ck_m_shortestOf.2.2, by decide, by decide⟩⟩
theorem ln_m_digest_216 : VL Mm_digest Mm_drawnOf 216 2 9 := ⟨k1240, k1242, k51, ⟨_, _, rfl⟩, ⟨ck_m_drawnOf.1, ck_m_drawnOf.2.1, ck_m_drawnOf.2.2, by decide, by decide⟩⟩
theorem ln_m_digest_219 : VL Mm_digest Mm_mostOf 219 2 9 := ⟨k1252, k1254, k54, ⟨_, _, rfl⟩, ⟨ck_m_mostOf.1, ck_m_mostOf.2.1, ck_m_mostOf.2.2, by decide, by decide⟩⟩
theorem ln_m_digest_268 : VL Mm_digest Mm_heardOf 268 3 9 := ⟨k1317, k1319, k63, ⟨_, _, rfl⟩, ⟨ck_m_heardOf.1, ck_m_heardOf.2.1, ck_m_heardOf.2.2, by decide, by decide⟩⟩
theorem ln_m_digest_245 : VL Mm_digest Mm_findLit 245 1 9 := ⟨k1303, k1305, k61, ⟨_, _, rfl⟩, ⟨ck_m_findLit.1, ck_m_findLit.2.1, ck_m_findLit.2.2, by decide, by decide⟩⟩
theorem ln_m_digest_278 : VL Mm_digest Mm_drowsyOf 278 3 9 := ⟨k1354, k1356, k70, ⟨_, _, rfl⟩, ⟨ck_m_drowsyOf.1, ck_m_drowsyOf.2.1, ck_m_drowsyOf.2.2, by decide, by decide⟩⟩
theorem ln_m_digest_284 : VL Mm_digest Mm_liesNow 284 0 9 := ⟨k1367, k1369, k71, ⟨_, _, rfl⟩, ⟨ck_m_liesNow.1, ck_m_liesNow.2.1, ck_m_liesNow.2.2, by decide, by decide⟩⟩
theorem ln_m_digest_290 : VL Mm_digest Mm_scenesOf 290 1 9 := ⟨k1379, k1381, k72, ⟨_, _, rfl⟩, ⟨ck_m_scenesOf.1, ck_m_scenesOf.2.1, ck_m_scenesOf.2.2, by decide, by decide⟩⟩
theorem k1414 : Cond.methodLink RX9 309 yX9_cue ∈ gtbl := gm 1414 (by decide +kernel)
theorem ln_m_digest_309 : VL Mm_digest Mm_cue 309 1 9 := ⟨k1414, k1384, k1385, ⟨_, _, rfl⟩, ⟨ck_m_cue.1, ck_m_cue.2.1, ck_m_cue.2.2, by decide, by decide⟩⟩
theorem k370 : Cond.methodLink RL 13 yX8_type ∈ gtbl := gm 370 (by decide +kernel)
theorem ln_law_law_13 : VL Mlaw_law Mx_type 13 1 8 := ⟨k370, k371, k372, ⟨_, _, rfl⟩, ⟨ck_x_type.1, ck_x_type.2.1, ck_x_type.2.2, by decide, by decide⟩⟩
theorem k1085 : Cond.methodLink RL 17 yX9_type ∈ gtbl := gm 1085 (by decide +kernel)
theorem ln_law_law_17 : VL Mlaw_law Mm_type 17 1 9 := ⟨k1085, k1086, k1087, ⟨_, _, rfl⟩, ⟨ck_m_type.1, ck_m_type.2.1, ck_m_type.2.2, by decide, by decide⟩⟩
theorem k455 : Cond.methodLink RL 18 yX8_wipe ∈ gtbl := gm 455 (by decide +kernel)
theorem ln_law_law_18 : VL Mlaw_law Mx_wipe 18 0 8 := ⟨k455, k456, k457, ⟨_, _, rfl⟩, ⟨ck_x_wipe.1, ck_x_wipe.2.1, ck_x_wipe.2.2, by decide, by decide⟩⟩
theorem k1090 : Cond.methodLink RL 22 yX9_wipe ∈ gtbl := gm 1090 (by decide +kernel)
theorem ln_law_law_22 : VL Mlaw_law Mm_wipe 22 0 9 := ⟨k1090, k1091, k1092, ⟨_, _, rfl⟩, ⟨ck_m_wipe.1, ck_m_wipe.2.1, ck_m_wipe.2.2, by decide, by decide⟩⟩
theorem k463 : Cond.methodLink RL 23 yX8_undo ∈ gtbl := gm 463 (by decide +kernel)
theorem ln_law_law_23 : VL Mlaw_law Mx_undo 23 0 8 := ⟨k463, k464, k465, ⟨_, _, rfl⟩, ⟨ck_x_undo.1, ck_x_undo.2.1, ck_x_undo.2.2, by decide, by decide⟩⟩
theorem k1108 : Cond.methodLink RL 26 yX9_undo ∈ gtbl := gm 1108 (by decide +kernel)
theorem ln_law_law_26 : VL Mlaw_law Mm_undo 26 0 9 := ⟨k1108, k1109, k1110, ⟨_, _, rfl⟩, ⟨ck_m_undo.1, ck_m_undo.2.1, ck_m_undo.2.2, by decide, by decide⟩⟩
theorem k474 : Cond.methodLink RL 27 yX8_fault ∈ gtbl := gm 474 (by decide +kernel)
theorem ln_law_law_27 : VL Mlaw_law Mx_fault 27 0 8 := ⟨k474, k475, k476, ⟨_, _, rfl⟩, ⟨ck_x_fault.1, ck_x_fault.2.1, ck_x_fault.2.2, by decide, by decide⟩⟩
theorem k1094 : Cond.methodLink RL 30 yX9_fault ∈ gtbl := gm 1094 (by decide +kernel)
theorem ln_law_law_30 : VL Mlaw_law Mm_fault 30 0 9 := ⟨k1094, k1095, k1096, ⟨_, _, rfl⟩, ⟨ck_m_fault.1, ck_m_fault.2.1, ck_m_fault.2.2, by decide, by decide⟩⟩
theorem k478 : Cond.methodLink RL 31 yX8_pipe ∈ gtbl := gm 478 (by decide +kernel)
theorem ln_law_law_31 : VL Mlaw_law Mx_pipe 31 2 8 := ⟨k478, k479, k480, ⟨_, _, rfl⟩, ⟨ck_x_pipe.1, ck_x_pipe.2.1, ck_x_pipe.2.2, by decide, by decide⟩⟩
theorem k1150 : Cond.methodLink RL 35 yX9_pipe ∈ gtbl := gm 1150 (by decide +kernel)
theorem ln_law_law_35 : VL Mlaw_law Mm_pipe 35 2 9 := ⟨k1150, k1151, k1152, ⟨_, _, rfl⟩, ⟨ck_m_pipe.1, ck_m_pipe.2.1, ck_m_pipe.2.2, by decide, by decide⟩⟩
theorem k494 : Cond.methodLink RL 36 yX8_set ∈ gtbl := gm 494 (by decide +kernel)
theorem ln_law_law_36 : VL Mlaw_law Mx_set 36 2 8 := ⟨k494, k495, k496, ⟨_, _, rfl⟩, ⟨ck_x_set.1, ck_x_set.2.1, ck_x_set.2.2, by decide, by decide⟩⟩
theorem k1112 : Cond.methodLink RL 39 yX9_set ∈ gtbl := gm 1112 (by decide +kernel)
theorem ln_law_law_39 : VL Mlaw_law Mm_set 39 2 9 := ⟨k1112, k1113, k1114, ⟨_, _, rfl⟩, ⟨ck_m_set.1, ck_m_set.2.1, ck_m_set.2.2, by decide, by decide⟩⟩
theorem k511 : Cond.methodLink RL 40 yX8_letIn ∈ gtbl := gm 511 (by decide +kernel)
theorem ln_law_law_40 : VL Mlaw_law Mx_letIn 40 2 8 := ⟨k511, k512, k513, ⟨_, _, rfl⟩, ⟨ck_x_letIn.1, ck_x_letIn.2.1, ck_x_letIn.2.2, by decide, by decide⟩⟩
theorem k1119 : Cond.methodLink RL 43 yX9_letIn ∈ gtbl := gm 1119 (by decide +kernel)
theorem ln_law_law_43 : VL Mlaw_law Mm_letIn 43 2 9 := ⟨k1119, k1120, k1121, ⟨_, _, rfl⟩, ⟨ck_m_letIn.1, ck_m_letIn.2.1, ck_m_letIn.2.2, by decide, by decide⟩⟩
theorem k526 : Cond.methodLink RL 44 yX8_pull ∈ gtbl := gm 526 (by decide +kernel)
theorem ln_law_law_44 : VL Mlaw_law Mx_pull 44 1 8 := ⟨k526, k527, k528, ⟨_, _, rfl⟩, ⟨ck_x_pull.1, ck_x_pull.2.1, ck_x_pull.2.2, by decide, by decide⟩⟩
theorem k1133 : Cond.methodLink RL 47 yX9_pull ∈ gtbl := gm 1133 (by decide +kernel)
theorem ln_law_law_47 : VL Mlaw_law Mm_pull 47 1 9 := ⟨k1133, k1134, k1135, ⟨_, _, rfl⟩, ⟨ck_m_pull.1, ck_m_pull.2.1, ck_m_pull.2.2, by decide, by decide⟩⟩
theorem k533 : Cond.methodLink RL 48 yX8_back ∈ gtbl := gm 533 (by decide +kernel)
theorem ln_law_law_48 : VL Mlaw_law Mx_back 48 0 8 := ⟨k533, k534, k535, ⟨_, _, rfl⟩, ⟨ck_x_back.1, ck_x_back.2.1, ck_x_back.2.2, by decide, by decide⟩⟩
theorem k1141 : Cond.methodLink RL 51 yX9_back ∈ gtbl := gm 1141 (by decide +kernel)
theorem ln_law_law_51 : VL Mlaw_law Mm_back 51 0 9 := ⟨k1141, k1142, k1143, ⟨_, _, rfl⟩, ⟨ck_m_back.1, ck_m_back.2.1, ck_m_back.2.2, by decide, by decide⟩⟩
theorem k541 : Cond.methodLink RL 52 yX8_read ∈ gtbl := gm 541 (by decide +kernel)
theorem ln_law_law_52 : VL Mlaw_law Mx_read 52 1 8 := ⟨k541, k542, k543, ⟨_, _, rfl⟩, ⟨ck_x_read.1, ck_x_read.2.1, ck_x_read.2.2, by decide, by decide⟩⟩
theorem k1145 : Cond.methodLink RL 55 yX9_read ∈ gtbl := gm 1145 (by decide +kernel)
theorem ln_law_law_55 : VL Mlaw_law Mm_read 55 1 9 := ⟨k1145, k1146, k1147, ⟨_, _, rfl⟩, ⟨ck_m_read.1, ck_m_read.2.1, ck_m_read.2.2, by decide, by decide⟩⟩
theorem k562 : Cond.methodLink RL 56 yX8_judged ∈ gtbl := gm 562 (by decide +kernel)
theorem ln_law_law_56 : VL Mlaw_law Mx_judged 56 0 8 := ⟨k562, k563, k564, ⟨_, _, rfl⟩, ⟨ck_x_judged.1, ck_x_judged.2.1, ck_x_judged.2.2, by decide, by decide⟩⟩
theorem k1193 : Cond.methodLink RL 59 yX9_judged ∈ gtbl := gm 1193 (by decide +kernel)
theorem ln_law_law_59 : VL Mlaw_law Mm_judged 59 0 9 := ⟨k1193, k1194, k1195, ⟨_, _, rfl⟩, ⟨ck_m_judged.1, ck_m_judged.2.1, ck_m_judged.2.2, by decide, by decide⟩⟩
theorem k574 : Cond.methodLink RL 60 yX8_state ∈ gtbl := gm 574 (by decide +kernel)
theorem ln_law_law_60 : VL Mlaw_law Mx_state 60 2 8 := ⟨k574, k575, k576, ⟨_, _, rfl⟩, ⟨ck_x_state.1, ck_x_state.2.1, ck_x_state.2.2, by decide, by decide⟩⟩
theorem k1197 : Cond.methodLink RL 63 yX9_state ∈ gtbl := gm 1197 (by decide +kernel)
theorem ln_law_law_63 : VL Mlaw_law Mm_state 63 2 9 := ⟨k1197, k1198, k1199, ⟨_, _, rfl⟩, ⟨ck_m_state.1, ck_m_state.2.1, ck_m_state.2.2, by decide, by decide⟩⟩
theorem k587 : Cond.methodLink RL 64 yX8_wire ∈ gtbl := gm 587 (by decide +kernel)
theorem ln_law_law_64 : VL Mlaw_law Mx_wire 64 2 8 := ⟨k587, k588, k589, ⟨_, _, rfl⟩, ⟨ck_x_wire.1, ck_x_wire.2.1, ck_x_wire.2.2, by decide, by decide⟩⟩
theorem k1212 : Cond.methodLink RL 67 yX9_wire ∈ gtbl := gm 1212 (by decide +kernel)
theorem ln_law_law_67 : VL Mlaw_law Mm_wire 67 2 9 := ⟨k1212, k1213, k1214, ⟨_, _, rfl⟩, ⟨ck_m_wire.1, ck_m_wire.2.1, ck_m_wire.2.2, by decide, by decide⟩⟩
theorem k592 : Cond.methodLink RL 68 yX8_out ∈ gtbl := gm 592 (by decide +kernel)
theorem ln_law_law_68 : VL Mlaw_law Mx_out 68 1 8 := ⟨k592, k593, k594, ⟨_, _, rfl⟩, ⟨ck_x_out.1, ck_x_out.2.1, ck_x_out.2.2, by decide, by decide⟩⟩
theorem k1220 : Cond.methodLink RL 71 yX9_out ∈ gtbl := gm 1220 (by decide +kernel)
theorem ln_law_law_71 : VL Mlaw_law Mm_out 71 1 9 := ⟨k1220, k1221, k1222, ⟨_, _, rfl⟩, ⟨ck_m_out.1, ck_m_out.2.1, ck_m_out.2.2, by decide, by decide⟩⟩
theorem k602 : Cond.methodLink RL 72 yX8_shortest ∈ gtbl := gm 602 (by decide +kernel)
theorem ln_law_law_72 : VL Mlaw_law Mx_shortest 72 3 8 := ⟨k602, k603, k604, ⟨_, _, rfl⟩, ⟨ck_x_shortest.1, ck_x_shortest.2.1, ck_x_shortest.2.2, by decide, by decide⟩⟩
theorem k1228 : Cond.methodLink RL 76 yX9_shortest ∈ gtbl := gm 1228 (by decide +kernel)
theorem ln_law_law_76 : VL Mlaw_law Mm_shortest 76 3 9 := ⟨k1228, k1229, k1230, ⟨_, _, rfl⟩, ⟨ck_m_shortest.1, ck_m_shortest.2.1, ck_m_shortest.2.2, by decide, by decide⟩⟩
theorem k619 : Cond.methodLink RL 77 yX8_most ∈ gtbl := gm 619 (by decide +kernel)
theorem ln_law_law_77 : VL Mlaw_law Mx_most 77 3 8 := ⟨k619, k620, k621, ⟨_, _, rfl⟩, ⟨ck_x_most.1, ck_x_most.2.1, ck_x_most.2.2, by decide, by decide⟩⟩
theorem k1236 : Cond.methodLink RL 80 yX9_most ∈ gtbl := gm 1236 (by decide +kernel)
theorem ln_law_law_80 : VL Mlaw_law Mm_most 80 3 9 := ⟨k1236, k1237, k1238, ⟨_, _, rfl⟩, ⟨ck_m_most.1, ck_m_most.2.1, ck_m_most.2.2, by decide, by decide⟩⟩
theorem k664 : Cond.methodLink RL 81 yX8_fails ∈ gtbl := gm 664 (by decide +kernel)
theorem ln_law_law_81 : VL Mlaw_law Mx_fails 81 1 8 := ⟨k664, k665, k666, ⟨_, _, rfl⟩, ⟨ck_x_fails.1, ck_x_fails.2.1, ck_x_fails.2.2, by decide, by decide⟩⟩
theorem k1260 : Cond.methodLink RL 84 yX9_fails ∈ gtbl := gm 1260 (by decide +kernel)
theorem ln_law_law_84 : VL Mlaw_law Mm_fails 84 1 9 := ⟨k1260, k1261, k1262, ⟨_, _, rfl⟩, ⟨ck_m_fails.1, ck_m_fails.2.1, ck_m_fails.2.2, by decide, by decide⟩⟩
theorem k677 : Cond.methodLink RL 85 yX8_soonest ∈ gtbl := gm 677 (by decide +kernel)
theorem ln_law_law_85 : VL Mlaw_law Mx_soonest 85 0 8 := ⟨k677, k678, k679, ⟨_, _, rfl⟩, ⟨ck_x_soonest.1, ck_x_soonest.2.1, ck_x_soonest.2.2, by decide, by decide⟩⟩
theorem k1268 : Cond.methodLink RL 88 yX9_soonest ∈ gtbl := gm 1268 (by decide +kernel)
theorem ln_law_law_88 : VL Mlaw_law Mm_soonest 88 0 9 := ⟨k1268, k1269, k1270, ⟨_, _, rfl⟩, ⟨ck_m_soonest.1, ck_m_soonest.2.1, ck_m_soonest.2.2, by decide, by decide⟩⟩
theorem k681 : Cond.methodLink RL 89 yX8_left ∈ gtbl := gm 681 (by decide +kernel)
theorem ln_law_law_89 : VL Mlaw_law Mx_left 89 1 8 := ⟨k681, k682, k683, ⟨_, _, rfl⟩, ⟨ck_x_left.1, ck_x_left.2.1, ck_x_left.2.2, by decide, by decide⟩⟩
theorem k1276 : Cond.methodLink RL 92 yX9_left ∈ gtbl := gm 1276 (by decide +kernel)
theorem ln_law_law_92 : VL Mlaw_law Mm_left 92 1 9 := ⟨k1276, k1277, k1278, ⟨_, _, rfl⟩, ⟨ck_m_left.1, ck_m_left.2.1, ck_m_left.2.2, by decide, by decide⟩⟩
theorem k685 : Cond.methodLink RL 93 yX8_burns ∈ gtbl := gm 685 (by decide +kernel)
theorem ln_law_law_93 : VL Mlaw_law Mx_burns 93 1 8 := ⟨k685, k686, k687, ⟨_, _, rfl⟩, ⟨ck_x_burns.1, ck_x_burns.2.1, ck_x_burns.2.2, by decide, by decide⟩⟩
theorem k1284 : Cond.methodLink RL 96 yX9_burns ∈ gtbl := gm 1284 (by decide +kernel)
theorem ln_law_law_96 : VL Mlaw_law Mm_burns 96 1 9 := ⟨k1284, k1285, k1286, ⟨_, _, rfl⟩, ⟨ck_m_burns.1, ck_m_burns.2.1, ck_m_burns.2.2, by decide, by decide⟩⟩
theorem k697 : Cond.methodLink RL 97 yX8_lit ∈ gtbl := gm 697 (by decide +kernel)
theorem ln_law_law_97 : VL Mlaw_law Mx_lit 97 2 8 := ⟨k697, k698, k699, ⟨_, _, rfl⟩, ⟨ck_x_lit.1, ck_x_lit.2.1, ck_x_lit.2.2, by decide, by decide⟩⟩
theorem k1299 : Cond.methodLink RL 100 yX9_lit ∈ gtbl := gm 1299 (by decide +kernel)
theorem ln_law_law_100 : VL Mlaw_law Mm_lit 100 2 9 := ⟨k1299, k1300, k1301, ⟨_, _, rfl⟩, ⟨ck_m_lit.1, ck_m_lit.2.1, ck_m_lit.2.2, by decide, by decide⟩⟩
theorem k735 : Cond.methodLink RL 101 yX8_heard ∈ gtbl := gm 735 (by decide +kernel)
theorem ln_law_law_101 : VL Mlaw_law Mx_heard 101 3 8 := ⟨k735, k736, k737, ⟨_, _, rfl⟩, ⟨ck_x_heard.1, ck_x_heard.2.1, ck_x_heard.2.2, by decide, by decide⟩⟩
theorem k1311 : Cond.methodLink RL 104 yX9_heard ∈ gtbl := gm 1311 (by decide +kernel)
theorem ln_law_law_104 : VL Mlaw_law Mm_heard 104 3 9 := ⟨k1311, k1312, k1313, ⟨_, _, rfl⟩, ⟨ck_m_heard.1, ck_m_heard.2.1, ck_m_heard.2.2, by decide, by decide⟩⟩
theorem k754 : Cond.methodLink RL 105 yX8_meet ∈ gtbl := gm 754 (by decide +kernel)
theorem ln_law_law_105 : VL Mlaw_law Mx_meet 105 4 8 := ⟨k754, k755, k756, ⟨_, _, rfl⟩, ⟨ck_x_meet.1, ck_x_meet.2.1, ck_x_meet.2.2, by decide, by decide⟩⟩
theorem k1341 : Cond.methodLink RL 109 yX9_meet ∈ gtbl := gm 1341 (by decide +kernel)
theorem ln_law_law_109 : VL Mlaw_law Mm_meet 109 4 9 := ⟨k1341, k1342, k1343, ⟨_, _, rfl⟩, ⟨ck_m_meet.1, ck_m_meet.2.1, ck_m_meet.2.2, by decide, by decide⟩⟩
theorem k761 : Cond.methodLink RL 110 yX8_drowsy ∈ gtbl := gm 761 (by decide +kernel)
theorem ln_law_law_110 : VL Mlaw_law Mx_drowsy 110 3 8 := ⟨k761, k762, k763, ⟨_, _, rfl⟩, ⟨ck_x_drowsy.1, ck_x_drowsy.2.1, ck_x_drowsy.2.2, by decide, by decide⟩⟩
theorem k1349 : Cond.methodLink RL 113 yX9_drowsy ∈ gtbl := gm 1349 (by decide +kernel)
theorem ln_law_law_113 : VL Mlaw_law Mm_drowsy 113 3 9 := ⟨k1349, k1350, k1351, ⟨_, _, rfl⟩, ⟨ck_m_drowsy.1, ck_m_drowsy.2.1, ck_m_drowsy.2.2, by decide, by decide⟩⟩
theorem k784 : Cond.methodLink RL 114 yX8_chalk ∈ gtbl := gm 784 (by decide +kernel)
theorem ln_law_law_114 : VL Mlaw_law Mx_chalk 114 3 8 := ⟨k784, k785, k786, ⟨_, _, rfl⟩, ⟨ck_x_chalk.1, ck_x_chalk.2.1, ck_x_chalk.2.2, by decide, by decide⟩⟩
theorem k1359 : Cond.methodLink RL 117 yX9_chalk ∈ gtbl := gm 1359 (by decide +kernel)
theorem ln_law_law_117 : VL Mlaw_law Mm_chalk 117 3 9 := ⟨k1359, k1360, k1361, ⟨_, _, rfl⟩, ⟨ck_m_chalk.1, ck_m_chalk.2.1, ck_m_chalk.2.2, by decide, by decide⟩⟩
theorem k793 : Cond.methodLink RL 118 yX8_lies ∈ gtbl := gm 793 (by decide +kernel)
theorem ln_law_law_118 : VL Mlaw_law Mx_lies 118 0 8 := ⟨k793, k794, k795, ⟨_, _, rfl⟩, ⟨ck_x_lies.1, ck_x_lies.2.1, ck_x_lies.2.2, by decide, by decide⟩⟩
theorem k1363 : Cond.methodLink RL 121 yX9_lies ∈ gtbl := gm 1363 (by decide +kernel)
theorem ln_law_law_121 : VL Mlaw_law Mm_lies 121 0 9 := ⟨k1363, k1364, k1365, ⟨_, _, rfl⟩, ⟨ck_m_lies.1, ck_m_lies.2.1, ck_m_lies.2.2, by decide, by decide⟩⟩
theorem k798 : Cond.methodLink RL 122 yX8_scene ∈ gtbl := gm 798 (by decide +kernel)
theorem ln_law_law_122 : VL Mlaw_law Mx_scene 122 1 8 := ⟨k798, k799, k800, ⟨_, _, rfl⟩, ⟨ck_x_scene.1, ck_x_scene.2.1, ck_x_scene.2.2, by decide, by decide⟩⟩
theorem k1371 : Cond.methodLink RL 125 yX9_scene ∈ gtbl := gm 1371 (by decide +kernel)
theorem ln_law_law_125 : VL Mlaw_law Mm_scene 125 1 9 := ⟨k1371, k1372, k1373, ⟨_, _, rfl⟩, ⟨ck_m_scene.1, ck_m_scene.2.1, ck_m_scene.2.2, by decide, by decide⟩⟩
theorem k806 : Cond.methodLink RL 126 yX8_scenes ∈ gtbl := gm 806 (by decide +kernel)
theorem ln_law_law_126 : VL Mlaw_law Mx_scenes 126 1 8 := ⟨k806, k807, k808, ⟨_, _, rfl⟩, ⟨ck_x_scenes.1, ck_x_scenes.2.1, ck_x_scenes.2.2, by decide, by decide⟩⟩
theorem k1375 : Cond.methodLink RL 129 yX9_scenes ∈ gtbl := gm 1375 (by decide +kernel)
theorem ln_law_law_129 : VL Mlaw_law Mm_scenes 129 1 9 := ⟨k1375, k1376, k1377, ⟨_, _, rfl⟩, ⟨ck_m_scenes.1, ck_m_scenes.2.1, ck_m_scenes.2.2, by decide, by decide⟩⟩
theorem k814 : Cond.methodLink RL 130 yX8_cue ∈ gtbl := gm 814 (by decide +kernel)
theorem ln_law_law_130 : VL Mlaw_law Mx_cue 130 1 8 := ⟨k814, k815, k816, ⟨_, _, rfl⟩, ⟨ck_x_cue.1, ck_x_cue.2.1, ck_x_cue.2.2, by decide, by decide⟩⟩
theorem k1383 : Cond.methodLink RL 133 yX9_cue ∈ gtbl := gm 1383 (by decide +kernel)
theorem ln_law_law_133 : VL Mlaw_law Mm_cue 133 1 9 := ⟨k1383, k1384, k1385, ⟨_, _, rfl⟩, ⟨ck_m_cue.1, ck_m_cue.2.1, ck_m_cue.2.2, by decide, by decide⟩⟩
theorem k818 : Cond.methodLink RL 134 yX8_forget ∈ gtbl := gm 818 (by decide +kernel)
theorem ln_law_law_134 : VL Mlaw_law Mx_forget 134 1 8 := ⟨k818, k819, k820, ⟨_, _, rfl⟩, ⟨ck_x_forget.1, ck_x_forget.2.1, ck_x_forget.2.2, by decide, by decide⟩⟩
theorem k1391 : Cond.methodLink RL 137 yX9_forget ∈ gtbl := gm 1391 (by decide +kernel)
theorem ln_law_law_137 : VL Mlaw_law Mm_forget 137 1 9 := ⟨k1391, k1392, k1393, ⟨_, _, rfl⟩, ⟨ck_m_forget.1, ck_m_forget.2.1, ck_m_forget.2.2, by decide, by decide⟩⟩
theorem k830 : Cond.methodLink RL 138 yX8_sheet ∈ gtbl := gm 830 (by decide +kernel)
theorem ln_law_law_138 : VL Mlaw_law Mx_sheet 138 3 8 := ⟨k830, k831, k832, ⟨_, _, rfl⟩, ⟨ck_x_sheet.1, ck_x_sheet.2.1, ck_x_sheet.2.2, by decide, by decide⟩⟩
theorem k1045 : Cond.methodLink RL 141 yX9_sheet ∈ gtbl := gm 1045 (by decide +kernel)
theorem ln_law_law_141 : VL Mlaw_law Mm_sheet 141 3 9 := ⟨k1045, k1046, k1047, ⟨_, _, rfl⟩, ⟨ck_m_sheet.1, ck_m_sheet.2.1, ck_m_sheet.2.2, by decide, by decide⟩⟩
theorem k842 : Cond.methodLink RL 142 yX8_lose ∈ gtbl := gm 842 (by decide +kernel)
theorem ln_law_law_142 : VL Mlaw_law Mx_lose 142 1 8 := ⟨k842, k843, k844, ⟨_, _, rfl⟩, ⟨ck_x_lose.1, ck_x_lose.2.1, ck_x_lose.2.2, by decide, by decide⟩⟩
theorem k1061 : Cond.methodLink RL 145 yX9_lose ∈ gtbl := gm 1061 (by decide +kernel)
theorem ln_law_law_145 : VL Mlaw_law Mm_lose 145 1 9 := ⟨k1061, k1062, k1063, ⟨_, _, rfl⟩, ⟨ck_m_lose.1, ck_m_lose.2.1, ck_m_lose.2.2, by decide, by decide⟩⟩
theorem k850 : Cond.methodLink RL 146 yX8_lay ∈ gtbl := gm 850 (by decide +kernel)
theorem ln_law_law_146 : VL Mlaw_law Mx_lay 146 4 8 := ⟨k850, k851, k852, ⟨_, _, rfl⟩, ⟨ck_x_lay.1, ck_x_lay.2.1, ck_x_lay.2.2, by decide, by decide⟩⟩
theorem k1065 : Cond.methodLink RL 149 yX9_lay ∈ gtbl := gm 1065 (by decide +kernel)
theorem ln_law_law_149 : VL Mlaw_law Mm_lay 149 4 9 := ⟨k1065, k1066, k1067, ⟨_, _, rfl⟩, ⟨ck_m_lay.1, ck_m_lay.2.1, ck_m_lay.2.2, by decide, by decide⟩⟩
theorem k866 : Cond.methodLink RL 150 yX8_get ∈ gtbl := gm 866 (by decide +kernel)
theorem ln_law_law_150 : VL Mlaw_law Mx_get 150 3 8 := ⟨k866, k867, k868, ⟨_, _, rfl⟩, ⟨ck_x_get.1, ck_x_get.2.1, ck_x_get.2.2, by decide, by decide⟩⟩
theorem k1076 : Cond.methodLink RL 153 yX9_get ∈ gtbl := gm 1076 (by decide +kernel)
theorem ln_law_law_153 : VL Mlaw_law Mm_get 153 3 9 := ⟨k1076, k1077, k1078, ⟨_, _, rfl⟩, ⟨ck_m_get.1, ck_m_get.2.1, ck_m_get.2.2, by decide, by decide⟩⟩
theorem k871 : Cond.methodLink RL 154 yX8_copy ∈ gtbl := gm 871 (by decide +kernel)
theorem ln_law_law_154 : VL Mlaw_law Mx_copy 154 5 8 := ⟨k871, k872, k873, ⟨_, _, rfl⟩, ⟨ck_x_copy.1, ck_x_copy.2.1, ck_x_copy.2.2, by decide, by decide⟩⟩
theorem k1081 : Cond.methodLink RL 158 yX9_copy ∈ gtbl := gm 1081 (by decide +kernel)
theorem ln_law_law_158 : VL Mlaw_law Mm_copy 158 5 9 := ⟨k1081, k1082, k1083, ⟨_, _, rfl⟩, ⟨ck_m_copy.1, ck_m_copy.2.1, ck_m_copy.2.2, by decide, by decide⟩⟩
theorem k886 : Cond.methodLink RL 159 yX8_write ∈ gtbl := gm 886 (by decide +kernel)
theorem ln_law_law_159 : VL Mlaw_law Mx_write 159 3 8 := ⟨k886, k887, k888, ⟨_, _, rfl⟩, ⟨ck_x_write.1, ck_x_write.2.1, ck_x_write.2.2, by decide, by decide⟩⟩
theorem k1395 : Cond.methodLink RL 162 yX9_write ∈ gtbl := gm 1395 (by decide +kernel)
theorem ln_law_law_162 : VL Mlaw_law Mm_write 162 3 9 := ⟨k1395, k1396, k1397, ⟨_, _, rfl⟩, ⟨ck_m_write.1, ck_m_write.2.1, ck_m_write.2.2, by decide, by decide⟩⟩
theorem k891 : Cond.methodLink RL 163 yX8_count ∈ gtbl := gm 891 (by decide +kernel)
theorem ln_law_law_163 : VL Mlaw_law Mx_count 163 1 8 := ⟨k891, k892, k893, ⟨_, _, rfl⟩, ⟨ck_x_count.1, ck_x_count.2.1, ck_x_count.2.2, by decide, by decide⟩⟩
theorem k1399 : Cond.methodLink RL 166 yX9_count ∈ gtbl := gm 1399 (by decide +kernel)
theorem ln_law_law_166 : VL Mlaw_law Mm_count 166 1 9 := ⟨k1399, k1400, k1401, ⟨_, _, rfl⟩, ⟨ck_m_count.1, ck_m_count.2.1, ck_m_count.2.2, by decide, by decide⟩⟩
theorem k909 : Cond.methodLink RL 167 yX8_digest ∈ gtbl := gm 909 (by decide +kernel)
theorem ln_law_law_167 : VL Mlaw_law Mx_digest 167 0 8 := ⟨k909, k910, k911, ⟨_, _, rfl⟩, ⟨ck_x_digest.1, ck_x_digest.2.1, ck_x_digest.2.2, by decide, by decide⟩⟩
theorem k1406 : Cond.methodLink RL 171 yX9_digest ∈ gtbl := gm 1406 (by decide +kernel)
theorem ln_law_law_171 : VL Mlaw_law Mm_digest 171 0 9 := ⟨k1406, k1407, k1408, ⟨_, _, rfl⟩, ⟨ck_m_digest.1, ck_m_digest.2.1, ck_m_digest.2.2, by decide, by decide⟩⟩
end
section
def T_b_add : List (Nat × Instr × Nat) := [(0, .aload_n 0, 1), (1, .getfield 35, 3), (4, .bipush 16, 2), (6, .if_icmp .lt 6, 3), (9, .bipush (-4), 2), (11, .ireturn, 1), (12, .aload_n 0, 1), (13, .getfield 9, 3), (16, .aload_n 0, 1), (17, .getfield 35, 3), (20, .iload_n 1, 1), (21, .iastore, 1), (22, .aload_n 0, 1), (23, .getfield 15, 3), (26, .aload_n 0, 1), (27, .getfield 35, 3), (30, .iload_n 2, 1), (31, .iastore, 1), (32, .aload_n 0, 1), (33, .dup, 1), (34, .getfield 35, 3), (37, .iconst 1, 1), (38, .iadd, 1), (39, .putfield 35, 3), (42, .aload_n 0, 1), (43, .aload_n 0, 1), (44, .getfield 35, 3), (47, .iconst 1, 1), (48, .isub, 1), (49, .invokevirtual 39, 3), (52, .aload_n 0, 1), (53, .getfield 35, 3), (56, .ireturn, 1)]
theorem D_b_add : ∀ q ∈ T_b_add, decode cX0_add q.1 = .ok q.2 := by decide +kernel
def T_b_dropStep : List (Nat × Instr × Nat) := [(0, .aload_n 0, 1), (1, .getfield 35, 3), (4, .ifCond .le 13, 3), (7, .aload_n 0, 1), (8, .dup, 1), (9, .getfield 35, 3), (12, .iconst 1, 1), (13, .isub, 1), (14, .putfield 35, 3), (17, .return_, 1)]
theorem D_b_dropStep : ∀ q ∈ T_b_dropStep, decode cX0_dropStep q.1 = .ok q.2 := by decide +kernel
def T_b_playFrom : List (Nat × Instr × Nat) := [(0, .iload_n 1, 1), (1, .istore_n 2, 1), (2, .iload_n 2, 1), (3, .aload_n 0, 1), (4, .getfield 35, 3), (7, .if_icmp .ge 51, 3), (10, .aload_n 0, 1), (11, .getfield 18, 3), (14, .iload_n 2, 1), (15, .iconst 1, 1), (16, .iadd, 1), (17, .aload_n 0, 1), (18, .getfield 9, 3), (21, .iload_n 2, 1), (22, .iaload, 1), (23, .iconst (-1), 1), (24, .if_icmp .ne 22, 3), (27, .aload_n 0, 1), (28, .aload_n 0, 1), (29, .getfield 15, 3), (32, .iload_n 2, 1), (33, .iaload, 1), (34, .aload_n 0, 1), (35, .getfield 18, 3), (38, .iload_n 2, 1), (39, .iaload, 1), (40, .invokevirtual 43, 3), (43, .goto 8, 3), (46, .aload_n 0, 1), (47, .iload_n 2, 1), (48, .invokevirtual 47, 3), (51, .iastore, 1), (52, .iinc 2 1, 3), (55, .goto (-53), 3), (58, .return_, 1)]
theorem D_b_playFrom : ∀ q ∈ T_b_playFrom, decode cX0_playFrom q.1 = .ok q.2 := by decide +kernel
def T_b_lyingNow : List (Nat × Instr × Nat) := [(0, .aload_n 0, 1), (1, .getfield 18, 3), (4, .aload_n 0, 1), (5, .getfield 35, 3), (8, .iaload, 1), (9, .ireturn, 1)]
theorem D_b_lyingNow : ∀ q ∈ T_b_lyingNow, decode cX0_lyingNow q.1 = .ok q.2 := by decide +kernel
def T_b_afterLetIn : List (Nat × Instr × Nat) := [(0, .aload_n 0, 1), (1, .getfield 18, 3), (4, .iload_n 1, 1), (5, .iaload, 1), (6, .istore_n 2, 1), (7, .aload_n 0, 1), (8, .iload_n 2, 1), (9, .invokevirtual 51, 3), (12, .aload_n 0, 1), (13, .getfield 24, 3), (16, .aload_n 0, 1), (17, .getfield 9, 3), (20, .iload_n 1, 1), (21, .iaload, 1), (22, .aload_n 0, 1), (23, .getfield 15, 3), (26, .iload_n 1, 1), (27, .iaload, 1), (28, .invokevirtual 54, 3), (31, .ifCond .ne 5, 3), (34, .iload_n 2, 1), (35, .ireturn, 1), (36, .aload_n 0, 1), (37, .getfield 21, 3), (40, .iload_n 1, 1), (41, .aload_n 0, 1), (42, .getfield 24, 3), (45, .invokevirtual 58, 3), (48, .iastore, 1), (49, .iload_n 2, 1), (50, .iload_n 1, 1), (51, .invokestatic 62, 3), (54, .ior, 1), (55, .ireturn, 1)]
theorem D_b_afterLetIn : ∀ q ∈ T_b_afterLetIn, decode cX0_afterLetIn q.1 = .ok q.2 := by decide +kernel
def T_b_afterPull : List (Nat × Instr × Nat) := [(0, .iload_n 2, 1), (1, .iload_n 1, 1), (2, .invokestatic 65, 3), (5, .ifCond .ne 5, 3), (8, .iload_n 2, 1), (9, .ireturn, 1), (10, .iload_n 1, 1), (11, .iconst 1, 1), (12, .iadd, 1), (13, .istore_n 3, 1), (14, .iload_n 3, 1), (15, .bipush 16, 2), (17, .if_icmp .ge 35, 3), (20, .iload_n 2, 1), (21, .iload_n 3, 1), (22, .invokestatic 65, 3), (25, .ifCond .eq 21, 3), (28, .aload_n 0, 1), (29, .getfield 21, 3), (32, .iload_n 3, 1), (33, .iaload, 1), (34, .aload_n 0, 1), (35, .getfield 21, 3), (38, .iload_n 1, 1), (39, .iaload, 1), (40, .iand, 1), (41, .ifCond .eq 5, 3), (44, .iload_n 2, 1), (45, .ireturn, 1), (46, .iinc 3 1, 3), (49, .goto (-35), 3), (52, .iload_n 2, 1), (53, .iload_n 1, 1), (54, .invokestatic 62, 3), (57, .iconst (-1), 1), (58, .ixor, 1), (59, .iand, 1), (60, .ireturn, 1)]
theorem D_b_afterPull : ∀ q ∈ T_b_afterPull, decode cX0_afterPull q.1 = .ok q.2 := by decide +kernel
def T_b_isDone : List (Nat × Instr × Nat) := [(0, .aload_n 0, 1), (1, .getfield 18, 3), (4, .iload_n 1, 1), (5, .iconst 1, 1), (6, .iadd, 1), (7, .iaload, 1), (8, .aload_n 0, 1), (9, .getfield 18, 3), (12, .iload_n 1, 1), (13, .iaload, 1), (14, .if_icmp .eq 7, 3), (17, .iconst 1, 1), (18, .goto 4, 3), (21, .iconst 0, 1), (22, .ireturn, 1)]
theorem D_b_isDone : ∀ q ∈ T_b_isDone, decode cX0_isDone q.1 = .ok q.2 := by decide +kernel
def T_b_firstNotDone : List (Nat × Instr × Nat) := [(0, .iconst 0, 1), (1, .istore_n 1, 1), (2, .iload_n 1, 1), (3, .aload_n 0, 1), (4, .getfield 35, 3), (7, .if_icmp .ge 19, 3), (10, .aload_n 0, 1), (11, .iload_n 1, 1), (12, .invokevirtual 68, 3), (15, .ifCond .ne 5, 3), (18, .iload_n 1, 1), (19, .ireturn, 1), (20, .iinc 1 1, 3), (23, .goto (-21), 3), (26, .iconst (-1), 1), (27, .ireturn, 1)]
theorem D_b_firstNotDone : ∀ q ∈ T_b_firstNotDone, decode cX0_firstNotDone q.1 = .ok q.2 := by decide +kernel
def T_b_howManyDone : List (Nat × Instr × Nat) := [(0, .iconst 0, 1), (1, .istore_n 1, 1), (2, .iconst 0, 1), (3, .istore_n 2, 1), (4, .iload_n 2, 1), (5, .aload_n 0, 1), (6, .getfield 35, 3), (9, .if_icmp .ge 20, 3), (12, .aload_n 0, 1), (13, .iload_n 2, 1), (14, .invokevirtual 68, 3), (17, .ifCond .eq 6, 3), (20, .iinc 1 1, 3), (23, .iinc 2 1, 3), (26, .goto (-22), 3), (29, .iload_n 1, 1), (30, .ireturn, 1)]
theorem D_b_howManyDone : ∀ q ∈ T_b_howManyDone, decode cX0_howManyDone q.1 = .ok q.2 := by decide +kernel
def T_b_pipesOf : List (Nat × Instr × Nat) := [(0, .iload_n 2, 1), (1, .iconst 1, 1), (2, .iload_n 1, 1), (3, .ishl, 1), (4, .iand, 1), (5, .ifCond .ne 7, 3), (8, .iconst 0, 1), (9, .goto 9, 3), (12, .aload_n 0, 1), (13, .getfield 21, 3), (16, .iload_n 1, 1), (17, .iaload, 1), (18, .ireturn, 1)]
theorem D_b_pipesOf : ∀ q ∈ T_b_pipesOf, decode cX0_pipesOf q.1 = .ok q.2 := by decide +kernel
def T_b_endsOf : List (Nat × Instr × Nat) := [(0, .aload_n 0, 1), (1, .getfield 9, 3), (4, .iload_n 1, 1), (5, .iaload, 1), (6, .invokestatic 62, 3), (9, .aload_n 0, 1), (10, .getfield 15, 3), (13, .iload_n 1, 1), (14, .iaload, 1), (15, .invokestatic 62, 3), (18, .ior, 1), (19, .ireturn, 1)]
theorem D_b_endsOf : ∀ q ∈ T_b_endsOf, decode cX0_endsOf q.1 = .ok q.2 := by decide +kernel
def T_b_wiresIn : List (Nat × Instr × Nat) := [(0, .iconst 0, 1), (1, .istore_n 3, 1), (2, .iconst 0, 1), (3, .istore 4, 2), (5, .iload 4, 2), (7, .bipush 16, 2), (9, .if_icmp .ge 26, 3), (12, .aload_n 0, 1), (13, .iload 4, 2), (15, .iload_n 2, 1), (16, .invokevirtual 72, 3), (19, .iload_n 1, 1), (20, .invokestatic 65, 3), (23, .ifCond .eq 6, 3), (26, .iinc 3 1, 3), (29, .iinc 4 1, 3), (32, .goto (-27), 3), (35, .iload_n 3, 1), (36, .ireturn, 1)]
theorem D_b_wiresIn : ∀ q ∈ T_b_wiresIn, decode cX0_wiresIn q.1 = .ok q.2 := by decide +kernel
def T_b_fullPipes : List (Nat × Instr × Nat) := [(0, .iconst 0, 1), (1, .istore_n 2, 1), (2, .iconst 0, 1), (3, .istore_n 3, 1), (4, .iload_n 3, 1), (5, .aload_n 0, 1), (6, .getfield 34, 3), (9, .getfield 75, 3), (12, .if_icmp .ge 32, 3), (15, .aload_n 0, 1), (16, .iload_n 3, 1), (17, .iload_n 1, 1), (18, .invokevirtual 78, 3), (21, .aload_n 0, 1), (22, .getfield 34, 3), (25, .getfield 81, 3), (28, .if_icmp .lt 10, 3), (31, .iload_n 2, 1), (32, .iload_n 3, 1), (33, .invokestatic 62, 3), (36, .ior, 1), (37, .istore_n 2, 1), (38, .iinc 3 1, 3), (41, .goto (-37), 3), (44, .iload_n 2, 1), (45, .ireturn, 1)]
theorem D_b_fullPipes : ∀ q ∈ T_b_fullPipes, decode cX0_fullPipes q.1 = .ok q.2 := by decide +kernel
def T_b_loadNow : List (Nat × Instr × Nat) := [(0, .aload_n 0, 1), (1, .aload_n 0, 1), (2, .invokevirtual 84, 3), (5, .invokevirtual 51, 3), (8, .return_, 1)]
theorem D_b_loadNow : ∀ q ∈ T_b_loadNow, decode cX0_loadNow q.1 = .ok q.2 := by decide +kernel
def T_b_fillLoad : List (Nat × Instr × Nat) := [(0, .aload_n 0, 1), (1, .getfield 24, 3), (4, .getfield 87, 3), (7, .iconst 0, 1), (8, .invokestatic 90, 3), (11, .iconst 0, 1), (12, .istore_n 2, 1), (13, .iload_n 2, 1), (14, .bipush 16, 2), (16, .if_icmp .ge 55, 3), (19, .aload_n 0, 1), (20, .iload_n 2, 1), (21, .iload_n 1, 1), (22, .invokevirtual 72, 3), (25, .istore_n 3, 1), (26, .iconst 0, 1), (27, .istore 4, 2), (29, .iload_n 3, 1), (30, .ifCond .eq 35, 3), (33, .iload 4, 2), (35, .bipush 16, 2), (37, .if_icmp .ge 28, 3), (40, .aload_n 0, 1), (41, .getfield 24, 3), (44, .getfield 87, 3), (47, .iload 4, 2), (49, .dup2, 1), (50, .iaload, 1), (51, .iload_n 3, 1), (52, .iload 4, 2), (54, .ishr, 1), (55, .iconst 1, 1), (56, .iand, 1), (57, .iadd, 1), (58, .iastore, 1), (59, .iinc 4 1, 3), (62, .goto (-33), 3), (65, .iinc 2 1, 3), (68, .goto (-55), 3), (71, .return_, 1)]
theorem D_b_fillLoad : ∀ q ∈ T_b_fillLoad, decode cX0_fillLoad q.1 = .ok q.2 := by decide +kernel
def T_b_drawnOutWith : List (Nat × Instr × Nat) := [(0, .aload_n 0, 1), (1, .invokevirtual 84, 3), (4, .istore_n 2, 1), (5, .iload_n 1, 1), (6, .invokestatic 62, 3), (9, .istore_n 3, 1), (10, .aload_n 0, 1), (11, .getfield 21, 3), (14, .iload_n 1, 1), (15, .iaload, 1), (16, .istore 4, 2), (18, .iload_n 1, 1), (19, .iconst 1, 1), (20, .iadd, 1), (21, .istore 5, 2), (23, .iload 5, 2), (25, .bipush 16, 2), (27, .if_icmp .ge 41, 3), (30, .aload_n 0, 1), (31, .iload 5, 2), (33, .iload_n 2, 1), (34, .invokevirtual 72, 3), (37, .istore 6, 2), (39, .iload 6, 2), (41, .iload 4, 2), (43, .iand, 1), (44, .ifCond .eq 18, 3), (47, .iload_n 3, 1), (48, .iload 5, 2), (50, .invokestatic 62, 3), (53, .ior, 1), (54, .istore_n 3, 1), (55, .iload 4, 2), (57, .iload 6, 2), (59, .ior, 1), (60, .istore 4, 2), (62, .iinc 5 1, 3), (65, .goto (-42), 3), (68, .iload_n 3, 1), (69, .ireturn, 1)]
theorem D_b_drawnOutWith : ∀ q ∈ T_b_drawnOutWith, decode cX0_drawnOutWith q.1 = .ok q.2 := by decide +kernel
def T_b_joinedTo : List (Nat × Instr × Nat) := [(0, .iload_n 1, 1), (1, .invokestatic 62, 3), (4, .istore_n 3, 1), (5, .iconst 0, 1), (6, .istore 4, 2), (8, .iconst 0, 1), (9, .istore 5, 2), (11, .iload 5, 2), (13, .bipush 8, 2), (15, .if_icmp .ge 63, 3), (18, .iload_n 3, 1), (19, .iload 4, 2), (21, .if_icmp .eq 57, 3), (24, .iload_n 3, 1), (25, .istore 4, 2), (27, .iconst 0, 1), (28, .istore 6, 2), (30, .iload 6, 2), (32, .bipush 16, 2), (34, .if_icmp .ge 38, 3), (37, .iload_n 2, 1), (38, .iload 6, 2), (40, .invokestatic 65, 3), (43, .ifCond .eq 23, 3), (46, .iload_n 3, 1), (47, .aload_n 0, 1), (48, .iload 6, 2), (50, .invokevirtual 96, 3), (53, .iand, 1), (54, .ifCond .eq 12, 3), (57, .iload_n 3, 1), (58, .aload_n 0, 1), (59, .iload 6, 2), (61, .invokevirtual 96, 3), (64, .ior, 1), (65, .istore_n 3, 1), (66, .iinc 6 1, 3), (69, .goto (-39), 3), (72, .iinc 5 1, 3), (75, .goto (-64), 3), (78, .iload_n 3, 1), (79, .ireturn, 1)]
theorem D_b_joinedTo : ∀ q ∈ T_b_joinedTo, decode cX0_joinedTo q.1 = .ok q.2 := by decide +kernel
def T_f_greatest : List (Nat × Instr × Nat) := [(0, .aload_n 0, 1), (1, .getfield 9, 3), (4, .iconst 0, 1), (5, .invokestatic 32, 3), (8, .iconst 0, 1), (9, .istore_n 3, 1), (10, .iload_n 3, 1), (11, .bipush 64, 2), (13, .if_icmp .ge 24, 3), (16, .aload_n 0, 1), (17, .iload_n 1, 1), (18, .iload_n 2, 1), (19, .invokevirtual 38, 3), (22, .ifCond .eq 15, 3), (25, .aload_n 0, 1), (26, .iload_n 1, 1), (27, .iload_n 2, 1), (28, .invokevirtual 42, 3), (31, .iinc 3 1, 3), (34, .goto (-24), 3), (37, .iload_n 3, 1), (38, .ireturn, 1)]
theorem D_f_greatest : ∀ q ∈ T_f_greatest, decode cX1_greatest q.1 = .ok q.2 := by decide +kernel
def T_f_seekRoom : List (Nat × Instr × Nat) := [(0, .aload_n 0, 1), (1, .getfield 15, 3), (4, .iconst (-1), 1), (5, .invokestatic 32, 3), (8, .iload_n 1, 1), (9, .invokestatic 46, 3), (12, .istore_n 3, 1), (13, .iconst 1, 1), (14, .istore 4, 2), (16, .aload_n 0, 1), (17, .getfield 18, 3), (20, .iconst 0, 1), (21, .iload_n 1, 1), (22, .iastore, 1), (23, .iconst 0, 1), (24, .istore 5, 2), (26, .iload 5, 2), (28, .bipush 8, 2), (30, .if_icmp .ge 140, 3), (33, .iload 5, 2), (35, .iload 4, 2), (37, .if_icmp .ge 133, 3), (40, .iload_n 3, 1), (41, .iload_n 2, 1), (42, .invokestatic 50, 3), (45, .ifCond .ne 125, 3), (48, .aload_n 0, 1), (49, .getfield 18, 3), (52, .iload 5, 2), (54, .iaload, 1), (55, .istore 6, 2), (57, .iconst 0, 1), (58, .istore 7, 2), (60, .iload 7, 2), (62, .aload_n 0, 1), (63, .getfield 31, 3), (66, .getfield 53, 3), (69, .if_icmp .ge 95, 3), (72, .aload_n 0, 1), (73, .getfield 31, 3), (76, .iload 7, 2), (78, .iload 6, 2), (80, .invokevirtual 59, 3), (83, .ifCond .eq 75, 3), (86, .aload_n 0, 1), (87, .iload 7, 2), (89, .iload 6, 2), (91, .invokevirtual 62, 3), (94, .ifCond .ne 6, 3), (97, .goto 61, 3), (100, .aload_n 0, 1), (101, .getfield 31, 3), (104, .iload 7, 2), (106, .iload 6, 2), (108, .invokevirtual 65, 3), (111, .istore 8, 2), (113, .iload_n 3, 1), (114, .iload 8, 2), (116, .invokestatic 50, 3), (119, .ifCond .ne 39, 3), (122, .iload 4, 2), (124, .bipush 8, 2), (126, .if_icmp .ge 32, 3), (129, .iload_n 3, 1), (130, .iload 8, 2), (132, .invokestatic 46, 3), (135, .ior, 1), (136, .istore_n 3, 1), (137, .aload_n 0, 1), (138, .getfield 15, 3), (141, .iload 8, 2), (143, .iload 7, 2), (145, .iastore, 1), (146, .aload_n 0, 1), (147, .getfield 18, 3), (150, .iload 4, 2), (152, .iload 8, 2), (154, .iastore, 1), (155, .iinc 4 1, 3), (158, .iinc 7 1, 3), (161, .goto (-101), 3), (164, .iinc 5 1, 3), (167, .goto (-141), 3), (170, .iload_n 3, 1), (171, .iload_n 2, 1), (172, .invokestatic 50, 3), (175, .ireturn, 1)]
theorem D_f_seekRoom : ∀ q ∈ T_f_seekRoom, decode cX1_seekRoom q.1 = .ok q.2 := by decide +kernel
def T_f_hasRoom : List (Nat × Instr × Nat) := [(0, .aload_n 0, 1), (1, .getfield 31, 3), (4, .iload_n 1, 1), (5, .invokevirtual 69, 3), (8, .ifCond .eq 5, 3), (11, .iconst 0, 1), (12, .ireturn, 1), (13, .aload_n 0, 1), (14, .getfield 31, 3), (17, .getfield 73, 3), (20, .iload_n 1, 1), (21, .iaload, 1), (22, .iload_n 2, 1), (23, .if_icmp .ne 12, 3), (26, .aload_n 0, 1), (27, .getfield 9, 3), (30, .iload_n 1, 1), (31, .iaload, 1), (32, .goto 10, 3), (35, .aload_n 0, 1), (36, .getfield 9, 3), (39, .iload_n 1, 1), (40, .iaload, 1), (41, .ineg, 1), (42, .istore_n 3, 1), (43, .iload_n 3, 1), (44, .aload_n 0, 1), (45, .getfield 31, 3), (48, .getfield 76, 3), (51, .aload_n 0, 1), (52, .getfield 21, 3), (55, .getfield 79, 3), (58, .iload_n 1, 1), (59, .iaload, 1), (60, .isub, 1), (61, .if_icmp .ge 7, 3), (64, .iconst 1, 1), (65, .goto 4, 3), (68, .iconst 0, 1), (69, .ireturn, 1)]
theorem D_f_hasRoom : ∀ q ∈ T_f_hasRoom, decode cX1_hasRoom q.1 = .ok q.2 := by decide +kernel
def T_f_push : List (Nat × Instr × Nat) := [(0, .iload_n 2, 1), (1, .istore_n 3, 1), (2, .iconst 0, 1), (3, .istore 4, 2), (5, .iload 4, 2), (7, .bipush 8, 2), (9, .if_icmp .ge 69, 3), (12, .iload_n 3, 1), (13, .iload_n 1, 1), (14, .if_icmp .eq 64, 3), (17, .aload_n 0, 1), (18, .getfield 15, 3), (21, .iload_n 3, 1), (22, .iaload, 1), (23, .istore 5, 2), (25, .iload 5, 2), (27, .iconst (-1), 1), (28, .if_icmp .ne 4, 3), (31, .return_, 1), (32, .aload_n 0, 1), (33, .getfield 9, 3), (36, .iload 5, 2), (38, .dup2, 1), (39, .iaload, 1), (40, .aload_n 0, 1), (41, .getfield 31, 3), (44, .getfield 82, 3), (47, .iload 5, 2), (49, .iaload, 1), (50, .iload_n 3, 1), (51, .if_icmp .ne 7, 3), (54, .iconst 1, 1), (55, .goto 4, 3), (58, .iconst (-1), 1), (59, .iadd, 1), (60, .iastore, 1), (61, .aload_n 0, 1), (62, .getfield 31, 3), (65, .iload 5, 2), (67, .iload_n 3, 1), (68, .invokevirtual 65, 3), (71, .istore_n 3, 1), (72, .iinc 4 1, 3), (75, .goto (-70), 3), (78, .return_, 1)]
theorem D_f_push : ∀ q ∈ T_f_push, decode cX1_push q.1 = .ok q.2 := by decide +kernel
def T_j_addMark : List (Nat × Instr × Nat) := [(0, .aload_n 0, 1), (1, .getfield 21, 3), (4, .bipush 8, 2), (6, .if_icmp .lt 6, 3), (9, .bipush (-4), 2), (11, .ireturn, 1), (12, .aload_n 0, 1), (13, .getfield 9, 3), (16, .aload_n 0, 1), (17, .getfield 21, 3), (20, .iload_n 1, 1), (21, .iastore, 1), (22, .aload_n 0, 1), (23, .getfield 15, 3), (26, .aload_n 0, 1), (27, .getfield 21, 3), (30, .iload_n 2, 1), (31, .iastore, 1), (32, .aload_n 0, 1), (33, .dup, 1), (34, .getfield 21, 3), (37, .iconst 1, 1), (38, .iadd, 1), (39, .putfield 21, 3), (42, .aload_n 0, 1), (43, .getfield 21, 3), (46, .ireturn, 1)]
theorem D_j_addMark : ∀ q ∈ T_j_addMark, decode cX2_addMark q.1 = .ok q.2 := by decide +kernel
def T_j_addScene : List (Nat × Instr × Nat) := [(0, .aload_n 0, 1), (1, .getfield 25, 3), (4, .bipush 6, 2), (6, .if_icmp .lt 6, 3), (9, .bipush (-4), 2), (11, .ireturn, 1), (12, .aload_n 0, 1), (13, .getfield 18, 3), (16, .aload_n 0, 1), (17, .getfield 25, 3), (20, .iload_n 1, 1), (21, .iconst 1, 1), (22, .ior, 1), (23, .iastore, 1), (24, .aload_n 0, 1), (25, .dup, 1), (26, .getfield 25, 3), (29, .iconst 1, 1), (30, .iadd, 1), (31, .putfield 25, 3), (34, .aload_n 0, 1), (35, .getfield 25, 3), (38, .ireturn, 1)]
theorem D_j_addScene : ∀ q ∈ T_j_addScene, decode cX2_addScene q.1 = .ok q.2 := by decide +kernel
def T_j_dropMarks : List (Nat × Instr × Nat) := [(0, .aload_n 0, 1), (1, .getfield 21, 3), (4, .istore_n 1, 1), (5, .aload_n 0, 1), (6, .iconst 0, 1), (7, .putfield 21, 3), (10, .iload_n 1, 1), (11, .ireturn, 1)]
theorem D_j_dropMarks : ∀ q ∈ T_j_dropMarks, decode cX2_dropMarks q.1 = .ok q.2 := by decide +kernel
def T_j_dropScenes : List (Nat × Instr × Nat) := [(0, .aload_n 0, 1), (1, .getfield 25, 3), (4, .istore_n 1, 1), (5, .aload_n 0, 1), (6, .iconst 0, 1), (7, .putfield 25, 3), (10, .iload_n 1, 1), (11, .ireturn, 1)]
theorem D_j_dropScenes : ∀ q ∈ T_j_dropScenes, decode cX2_dropScenes q.1 = .ok q.2 := by decide +kernel
def T_l_seek : List (Nat × Instr × Nat) := [(0, .aload_n 0, 1), (1, .iconst (-1), 1), (2, .putfield 23, 3), (5, .aload_n 0, 1), (6, .iconst (-1), 1), (7, .putfield 27, 3), (10, .aload_n 0, 1), (11, .iconst (-1), 1), (12, .putfield 30, 3), (15, .aload_n 0, 1), (16, .getfield 15, 3), (19, .invokevirtual 33, 3), (22, .istore_n 2, 1), (23, .iconst 0, 1), (24, .istore_n 3, 1), (25, .iload_n 3, 1), (26, .bipush 8, 2), (28, .if_icmp .ge 24, 3), (31, .aload_n 0, 1), (32, .getfield 9, 3), (35, .iload_n 3, 1), (36, .aload_n 0, 1), (37, .getfield 15, 3), (40, .iload_n 3, 1), (41, .iload_n 2, 1), (42, .invokevirtual 39, 3), (45, .iastore, 1), (46, .iinc 3 1, 3), (49, .goto (-24), 3), (52, .aload_n 0, 1), (53, .getfield 9, 3), (56, .iconst 0, 1), (57, .iaload, 1), (58, .iload_n 1, 1), (59, .invokestatic 43, 3), (62, .ifCond .eq 9, 3), (65, .aload_n 0, 1), (66, .iconst 0, 1), (67, .putfield 23, 3), (70, .return_, 1), (71, .aload_n 0, 1), (72, .getfield 15, 3), (75, .invokevirtual 47, 3), (78, .aload_n 0, 1), (79, .iload_n 1, 1), (80, .iconst (-1), 1), (81, .invokevirtual 50, 3), (84, .istore_n 3, 1), (85, .iload_n 3, 1), (86, .iconst (-1), 1), (87, .if_icmp .eq 14, 3), (90, .aload_n 0, 1), (91, .iconst 1, 1), (92, .putfield 23, 3), (95, .aload_n 0, 1), (96, .iload_n 3, 1), (97, .putfield 27, 3), (100, .return_, 1), (101, .aload_n 0, 1), (102, .iload_n 1, 1), (103, .invokevirtual 53, 3), (106, .return_, 1)]
theorem D_l_seek : ∀ q ∈ T_l_seek, decode cX3_seek q.1 = .ok q.2 := by decide +kernel
def T_l_seekTwo : List (Nat × Instr × Nat) := [(0, .iconst 0, 1), (1, .istore_n 2, 1), (2, .iload_n 2, 1), (3, .bipush 64, 2), (5, .if_icmp .ge 89, 3), (8, .iload_n 2, 1), (9, .bipush 8, 2), (11, .idiv, 1), (12, .istore_n 3, 1), (13, .iload_n 2, 1), (14, .bipush 8, 2), (16, .irem, 1), (17, .istore 4, 2), (19, .iload_n 3, 1), (20, .iload 4, 2), (22, .if_icmp .eq 66, 3), (25, .aload_n 0, 1), (26, .getfield 19, 3), (29, .iload_n 3, 1), (30, .iload 4, 2), (32, .invokevirtual 57, 3), (35, .ifCond .ne 6, 3), (38, .goto 50, 3), (41, .aload_n 0, 1), (42, .getfield 19, 3), (45, .iconst 1, 1), (46, .invokevirtual 62, 3), (49, .aload_n 0, 1), (50, .iload_n 1, 1), (51, .iload_n 2, 1), (52, .invokevirtual 50, 3), (55, .istore 5, 2), (57, .aload_n 0, 1), (58, .getfield 19, 3), (61, .iconst (-1), 1), (62, .invokevirtual 62, 3), (65, .iload 5, 2), (67, .iconst (-1), 1), (68, .if_icmp .eq 20, 3), (71, .aload_n 0, 1), (72, .iconst 2, 1), (73, .putfield 23, 3), (76, .aload_n 0, 1), (77, .iload_n 2, 1), (78, .putfield 27, 3), (81, .aload_n 0, 1), (82, .iload 5, 2), (84, .putfield 30, 3), (87, .return_, 1), (88, .iinc 2 1, 3), (91, .goto (-89), 3), (94, .return_, 1)]
theorem D_l_seekTwo : ∀ q ∈ T_l_seekTwo, decode cX3_seekTwo q.1 = .ok q.2 := by decide +kernel
def T_l_lastLetIn : List (Nat × Instr × Nat) := [(0, .iconst 0, 1), (1, .istore_n 3, 1), (2, .iload_n 3, 1), (3, .bipush 64, 2), (5, .if_icmp .ge 60, 3), (8, .iload_n 3, 1), (9, .bipush 8, 2), (11, .idiv, 1), (12, .istore 4, 2), (14, .iload_n 3, 1), (15, .bipush 8, 2), (17, .irem, 1), (18, .istore 5, 2), (20, .iload 4, 2), (22, .iload 5, 2), (24, .if_icmp .eq 35, 3), (27, .aload_n 0, 1), (28, .iload_n 2, 1), (29, .iload_n 3, 1), (30, .invokevirtual 65, 3), (33, .iload_n 1, 1), (34, .invokestatic 43, 3), (37, .ifCond .eq 22, 3), (40, .aload_n 0, 1), (41, .getfield 19, 3), (44, .iload 4, 2), (46, .invokevirtual 68, 3), (49, .iload 5, 2), (51, .invokestatic 72, 3), (54, .ifCond .eq 5, 3), (57, .iload_n 3, 1), (58, .ireturn, 1), (59, .iinc 3 1, 3), (62, .goto (-60), 3), (65, .iconst (-1), 1), (66, .ireturn, 1)]
theorem D_l_lastLetIn : ∀ q ∈ T_l_lastLetIn, decode cX3_lastLetIn q.1 = .ok q.2 := by decide +kernel
def T_l_burningWith : List (Nat × Instr × Nat) := [(0, .aload_n 0, 1), (1, .aload_n 0, 1), (2, .getfield 9, 3), (5, .iconst 0, 1), (6, .iaload, 1), (7, .iload_n 2, 1), (8, .invokevirtual 75, 3), (11, .istore_n 3, 1), (12, .iload_n 1, 1), (13, .iconst (-1), 1), (14, .if_icmp .ne 5, 3), (17, .iload_n 3, 1), (18, .ireturn, 1), (19, .aload_n 0, 1), (20, .aload_n 0, 1), (21, .iload_n 3, 1), (22, .iload_n 1, 1), (23, .invokevirtual 75, 3), (26, .iload_n 2, 1), (27, .invokevirtual 75, 3), (30, .ireturn, 1)]
theorem D_l_burningWith : ∀ q ∈ T_l_burningWith, decode cX3_burningWith q.1 = .ok q.2 := by decide +kernel
def T_l_spread : List (Nat × Instr × Nat) := [(0, .iload_n 2, 1), (1, .bipush 8, 2), (3, .idiv, 1), (4, .istore_n 3, 1), (5, .iload_n 2, 1), (6, .bipush 8, 2), (8, .irem, 1), (9, .istore 4, 2), (11, .iload_n 3, 1), (12, .iconst 0, 1), (13, .bipush 7, 2), (15, .invokestatic 78, 3), (18, .ifCond .eq 14, 3), (21, .iload 4, 2), (23, .iconst 0, 1), (24, .bipush 7, 2), (26, .invokestatic 78, 3), (29, .ifCond .ne 5, 3), (32, .iload_n 1, 1), (33, .ireturn, 1), (34, .iload_n 1, 1), (35, .iload_n 3, 1), (36, .invokestatic 72, 3), (39, .ifCond .ne 12, 3), (42, .iload_n 1, 1), (43, .iload 4, 2), (45, .invokestatic 72, 3), (48, .ifCond .eq 7, 3), (51, .iconst 1, 1), (52, .goto 4, 3), (55, .iconst 0, 1), (56, .istore 5, 2), (58, .iload 5, 2), (60, .ifCond .eq 22, 3), (63, .iload_n 1, 1), (64, .aload_n 0, 1), (65, .getfield 9, 3), (68, .iload_n 3, 1), (69, .iaload, 1), (70, .ior, 1), (71, .aload_n 0, 1), (72, .getfield 9, 3), (75, .iload 4, 2), (77, .iaload, 1), (78, .ior, 1), (79, .goto 4, 3), (82, .iload_n 1, 1), (83, .ireturn, 1)]
theorem D_l_spread : ∀ q ∈ T_l_spread, decode cX3_spread q.1 = .ok q.2 := by decide +kernel
def T_l_holdsAll : List (Nat × Instr × Nat) := [(0, .iload_n 1, 1), (1, .iload_n 0, 1), (2, .iconst (-1), 1), (3, .ixor, 1), (4, .iand, 1), (5, .ifCond .ne 7, 3), (8, .iconst 1, 1), (9, .goto 4, 3), (12, .iconst 0, 1), (13, .ireturn, 1)]
theorem D_l_holdsAll : ∀ q ∈ T_l_holdsAll, decode cX3_holdsAll q.1 = .ok q.2 := by decide +kernel
def T_p_append : List (Nat × Instr × Nat) := [(0, .aload_n 0, 1), (1, .getfield 37, 3), (4, .bipush 79, 2), (6, .if_icmp .lt 4, 3), (9, .return_, 1), (10, .aload_n 0, 1), (11, .getfield 9, 3), (14, .aload_n 0, 1), (15, .getfield 37, 3), (18, .iload_n 1, 1), (19, .iastore, 1), (20, .aload_n 0, 1), (21, .getfield 27, 3), (24, .iconst (-1), 1), (25, .if_icmp .ne 22, 3), (28, .aload_n 0, 1), (29, .aload_n 0, 1), (30, .getfield 37, 3), (33, .invokevirtual 40, 3), (36, .ifCond .ne 11, 3), (39, .aload_n 0, 1), (40, .aload_n 0, 1), (41, .getfield 37, 3), (44, .putfield 27, 3), (47, .aload_n 0, 1), (48, .getfield 27, 3), (51, .iconst (-1), 1), (52, .if_icmp .ne 23, 3), (55, .aload_n 0, 1), (56, .getfield 37, 3), (59, .iconst 5, 1), (60, .irem, 1), (61, .iconst 3, 1), (62, .if_icmp .ne 13, 3), (65, .aload_n 0, 1), (66, .aload_n 0, 1), (67, .getfield 37, 3), (70, .iconst 5, 1), (71, .idiv, 1), (72, .invokevirtual 44, 3), (75, .aload_n 0, 1), (76, .dup, 1), (77, .getfield 37, 3), (80, .iconst 1, 1), (81, .iadd, 1), (82, .putfield 37, 3), (85, .aload_n 0, 1), (86, .invokevirtual 48, 3), (89, .return_, 1)]
theorem D_p_append : ∀ q ∈ T_p_append, decode cX4_append q.1 = .ok q.2 := by decide +kernel
def T_p_clear : List (Nat × Instr × Nat) := [(0, .aload_n 0, 1), (1, .iconst 0, 1), (2, .putfield 37, 3), (5, .aload_n 0, 1), (6, .iconst (-1), 1), (7, .putfield 27, 3), (10, .aload_n 0, 1), (11, .invokevirtual 48, 3), (14, .return_, 1)]
theorem D_p_clear : ∀ q ∈ T_p_clear, decode cX4_clear q.1 = .ok q.2 := by decide +kernel
def T_p_dropPipe : List (Nat × Instr × Nat) := [(0, .aload_n 0, 1), (1, .iconst 0, 1), (2, .aload_n 0, 1), (3, .getfield 37, 3), (6, .iconst 5, 1), (7, .isub, 1), (8, .invokestatic 51, 3), (11, .putfield 37, 3), (14, .aload_n 0, 1), (15, .invokevirtual 48, 3), (18, .return_, 1)]
theorem D_p_dropPipe : ∀ q ∈ T_p_dropPipe, decode cX4_dropPipe q.1 = .ok q.2 := by decide +kernel
def T_p_fits : List (Nat × Instr × Nat) := [(0, .aload_n 0, 1), (1, .getfield 9, 3), (4, .iload_n 1, 1), (5, .iaload, 1), (6, .istore_n 2, 1), (7, .iload_n 1, 1), (8, .iconst 5, 1), (9, .irem, 1), (10, .tableswitch 86 0 3 #[30, 39, 68, 77], 30), (40, .iload_n 2, 1), (41, .bipush 97, 2), (43, .bipush 104, 2), (45, .invokestatic 57, 3), (48, .ireturn, 1), (49, .iload_n 2, 1), (50, .bipush 97, 2), (52, .bipush 104, 2), (54, .invokestatic 57, 3), (57, .ifCond .eq 19, 3), (60, .iload_n 2, 1), (61, .aload_n 0, 1), (62, .getfield 9, 3), (65, .iload_n 1, 1), (66, .iconst 1, 1), (67, .isub, 1), (68, .iaload, 1), (69, .if_icmp .eq 7, 3), (72, .iconst 1, 1), (73, .goto 4, 3), (76, .iconst 0, 1), (77, .ireturn, 1), (78, .iload_n 2, 1), (79, .bipush 49, 2), (81, .bipush 57, 2), (83, .invokestatic 57, 3), (86, .ireturn, 1), (87, .iload_n 2, 1), (88, .bipush 48, 2), (90, .bipush 57, 2), (92, .invokestatic 57, 3), (95, .ireturn, 1), (96, .iload_n 2, 1), (97, .bipush 59, 2), (99, .if_icmp .ne 7, 3), (102, .iconst 1, 1), (103, .goto 4, 3), (106, .iconst 0, 1), (107, .ireturn, 1)]
theorem D_p_fits : ∀ q ∈ T_p_fits, decode cX4_fits q.1 = .ok q.2 := by decide +kernel
def T_p_takeUp : List (Nat × Instr × Nat) := [(0, .iload_n 1, 1), (1, .iconst 5, 1), (2, .imul, 1), (3, .istore_n 2, 1), (4, .iload_n 1, 1), (5, .iconst 0, 1), (6, .bipush 15, 2), (8, .invokestatic 57, 3), (11, .ifCond .eq 11, 3), (14, .iload_n 2, 1), (15, .iconst 3, 1), (16, .iadd, 1), (17, .bipush 79, 2), (19, .if_icmp .lt 4, 3), (22, .return_, 1), (23, .aload_n 0, 1), (24, .getfield 15, 3), (27, .iload_n 1, 1), (28, .aload_n 0, 1), (29, .getfield 9, 3), (32, .iload_n 2, 1), (33, .iaload, 1), (34, .bipush 97, 2), (36, .isub, 1), (37, .iastore, 1), (38, .aload_n 0, 1), (39, .getfield 18, 3), (42, .iload_n 1, 1), (43, .aload_n 0, 1), (44, .getfield 9, 3), (47, .iload_n 2, 1), (48, .iconst 1, 1), (49, .iadd, 1), (50, .iaload, 1), (51, .bipush 97, 2), (53, .isub, 1), (54, .iastore, 1), (55, .aload_n 0, 1), (56, .getfield 21, 3), (59, .iload_n 1, 1), (60, .aload_n 0, 1), (61, .getfield 9, 3), (64, .iload_n 2, 1), (65, .iconst 2, 1), (66, .iadd, 1), (67, .iaload, 1), (68, .bipush 48, 2), (70, .isub, 1), (71, .iastore, 1), (72, .aload_n 0, 1), (73, .getfield 24, 3), (76, .iload_n 1, 1), (77, .aload_n 0, 1), (78, .getfield 9, 3), (81, .iload_n 2, 1), (82, .iconst 3, 1), (83, .iadd, 1), (84, .iaload, 1), (85, .bipush 48, 2), (87, .isub, 1), (88, .iastore, 1), (89, .return_, 1)]
theorem D_p_takeUp : ∀ q ∈ T_p_takeUp, decode cX4_takeUp q.1 = .ok q.2 := by decide +kernel
def T_p_settle : List (Nat × Instr × Nat) := [(0, .aload_n 0, 1), (1, .getfield 37, 3), (4, .ifCond .eq 13, 3), (7, .aload_n 0, 1), (8, .getfield 37, 3), (11, .iconst 5, 1), (12, .irem, 1), (13, .iconst 4, 1), (14, .if_icmp .ne 7, 3), (17, .iconst 1, 1), (18, .goto 4, 3), (21, .iconst 0, 1), (22, .istore_n 1, 1), (23, .aload_n 0, 1), (24, .aload_n 0, 1), (25, .getfield 27, 3), (28, .iconst (-1), 1), (29, .if_icmp .ne 14, 3), (32, .iload_n 1, 1), (33, .ifCond .ne 10, 3), (36, .aload_n 0, 1), (37, .getfield 37, 3), (40, .goto 7, 3), (43, .aload_n 0, 1), (44, .getfield 27, 3), (47, .putfield 31, 3), (50, .aload_n 0, 1), (51, .aload_n 0, 1), (52, .getfield 31, 3), (55, .iconst (-1), 1), (56, .if_icmp .ne 14, 3), (59, .aload_n 0, 1), (60, .getfield 37, 3), (63, .iconst 1, 1), (64, .iadd, 1), (65, .iconst 5, 1), (66, .idiv, 1), (67, .goto 4, 3), (70, .iconst 0, 1), (71, .putfield 61, 3), (74, .return_, 1)]
theorem D_p_settle : ∀ q ∈ T_p_settle, decode cX4_settle q.1 = .ok q.2 := by decide +kernel
def T_p_hasPipe : List (Nat × Instr × Nat) := [(0, .iload_n 1, 1), (1, .iconst 0, 1), (2, .aload_n 0, 1), (3, .getfield 61, 3), (6, .iconst 1, 1), (7, .isub, 1), (8, .invokestatic 57, 3), (11, .ireturn, 1)]
theorem D_p_hasPipe : ∀ q ∈ T_p_hasPipe, decode cX4_hasPipe q.1 = .ok q.2 := by decide +kernel
def T_p_isShut : List (Nat × Instr × Nat) := [(0, .aload_n 0, 1), (1, .getfield 64, 3), (4, .iconst 1, 1), (5, .iload_n 1, 1), (6, .ishl, 1), (7, .iand, 1), (8, .ifCond .eq 7, 3), (11, .iconst 1, 1), (12, .goto 4, 3), (15, .iconst 0, 1), (16, .ireturn, 1)]
theorem D_p_isShut : ∀ q ∈ T_p_isShut, decode cX4_isShut q.1 = .ok q.2 := by decide +kernel
def T_p_touches : List (Nat × Instr × Nat) := [(0, .aload_n 0, 1), (1, .getfield 15, 3), (4, .iload_n 1, 1), (5, .iaload, 1), (6, .iload_n 2, 1), (7, .if_icmp .eq 13, 3), (10, .aload_n 0, 1), (11, .getfield 18, 3), (14, .iload_n 1, 1), (15, .iaload, 1), (16, .iload_n 2, 1), (17, .if_icmp .ne 7, 3), (20, .iconst 1, 1), (21, .goto 4, 3), (24, .iconst 0, 1), (25, .ireturn, 1)]
theorem D_p_touches : ∀ q ∈ T_p_touches, decode cX4_touches q.1 = .ok q.2 := by decide +kernel
def T_p_opposite : List (Nat × Instr × Nat) := [(0, .aload_n 0, 1), (1, .getfield 15, 3), (4, .iload_n 1, 1), (5, .iaload, 1), (6, .iload_n 2, 1), (7, .if_icmp .ne 12, 3), (10, .aload_n 0, 1), (11, .getfield 18, 3), (14, .iload_n 1, 1), (15, .iaload, 1), (16, .goto 9, 3), (19, .aload_n 0, 1), (20, .getfield 15, 3), (23, .iload_n 1, 1), (24, .iaload, 1), (25, .ireturn, 1)]
theorem D_p_opposite : ∀ q ∈ T_p_opposite, decode cX4_opposite q.1 = .ok q.2 := by decide +kernel
def T_p_wholeLength : List (Nat × Instr × Nat) := [(0, .iconst 0, 1), (1, .istore_n 1, 1), (2, .iconst 0, 1), (3, .istore_n 2, 1), (4, .iload_n 2, 1), (5, .aload_n 0, 1), (6, .getfield 61, 3), (9, .if_icmp .ge 18, 3), (12, .iload_n 1, 1), (13, .aload_n 0, 1), (14, .getfield 21, 3), (17, .iload_n 2, 1), (18, .iaload, 1), (19, .iadd, 1), (20, .istore_n 1, 1), (21, .iinc 2 1, 3), (24, .goto (-20), 3), (27, .iload_n 1, 1), (28, .ireturn, 1)]
theorem D_p_wholeLength : ∀ q ∈ T_p_wholeLength, decode cX4_wholeLength q.1 = .ok q.2 := by decide +kernel
def T_p_dampIn : List (Nat × Instr × Nat) := [(0, .iconst 0, 1), (1, .istore_n 2, 1), (2, .iconst 0, 1), (3, .istore_n 3, 1), (4, .iload_n 3, 1), (5, .aload_n 0, 1), (6, .getfield 61, 3), (9, .if_icmp .ge 26, 3), (12, .iload_n 1, 1), (13, .iload_n 3, 1), (14, .invokestatic 67, 3), (17, .ifCond .eq 12, 3), (20, .iload_n 2, 1), (21, .aload_n 0, 1), (22, .getfield 24, 3), (25, .iload_n 3, 1), (26, .iaload, 1), (27, .iadd, 1), (28, .istore_n 2, 1), (29, .iinc 3 1, 3), (32, .goto (-28), 3), (35, .iload_n 2, 1), (36, .ireturn, 1)]
theorem D_p_dampIn : ∀ q ∈ T_p_dampIn, decode cX4_dampIn q.1 = .ok q.2 := by decide +kernel
def T_r_follow : List (Nat × Instr × Nat) := [(0, .aload_n 0, 1), (1, .getfield 9, 3), (4, .iconst 0, 1), (5, .invokestatic 25, 3), (8, .aload_n 0, 1), (9, .getfield 15, 3), (12, .iconst 0, 1), (13, .invokestatic 25, 3), (16, .aload_n 0, 1), (17, .getfield 18, 3), (20, .iconst 0, 1), (21, .invokestatic 25, 3), (24, .aload_n 0, 1), (25, .getfield 9, 3), (28, .iload_n 1, 1), (29, .iconst 1, 1), (30, .iastore, 1), (31, .iconst 0, 1), (32, .istore_n 3, 1), (33, .iload_n 3, 1), (34, .iload_n 2, 1), (35, .if_icmp .ge 13, 3), (38, .aload_n 0, 1), (39, .invokevirtual 31, 3), (42, .iinc 3 1, 3), (45, .goto (-12), 3), (48, .return_, 1)]
theorem D_r_follow : ∀ q ∈ T_r_follow, decode cX5_follow q.1 = .ok q.2 := by decide +kernel
def T_r_ring : List (Nat × Instr × Nat) := [(0, .iconst 0, 1), (1, .istore_n 1, 1), (2, .iload_n 1, 1), (3, .aload_n 0, 1), (4, .getfield 21, 3), (7, .getfield 34, 3), (10, .if_icmp .ge 81, 3), (13, .aload_n 0, 1), (14, .getfield 21, 3), (17, .iload_n 1, 1), (18, .invokevirtual 40, 3), (21, .ifCond .eq 6, 3), (24, .goto 61, 3), (27, .aload_n 0, 1), (28, .getfield 9, 3), (31, .aload_n 0, 1), (32, .getfield 21, 3), (35, .getfield 44, 3), (38, .iload_n 1, 1), (39, .iaload, 1), (40, .iaload, 1), (41, .aload_n 0, 1), (42, .getfield 15, 3), (45, .iload_n 1, 1), (46, .iaload, 1), (47, .isub, 1), (48, .istore_n 2, 1), (49, .aload_n 0, 1), (50, .getfield 9, 3), (53, .aload_n 0, 1), (54, .getfield 21, 3), (57, .getfield 47, 3), (60, .iload_n 1, 1), (61, .iaload, 1), (62, .iaload, 1), (63, .aload_n 0, 1), (64, .getfield 18, 3), (67, .iload_n 1, 1), (68, .iaload, 1), (69, .isub, 1), (70, .istore_n 3, 1), (71, .aload_n 0, 1), (72, .getfield 18, 3), (75, .iload_n 1, 1), (76, .iload_n 2, 1), (77, .iastore, 1), (78, .aload_n 0, 1), (79, .getfield 15, 3), (82, .iload_n 1, 1), (83, .iload_n 3, 1), (84, .iastore, 1), (85, .iinc 1 1, 3), (88, .goto (-86), 3), (91, .aload_n 0, 1), (92, .getfield 9, 3), (95, .iconst 0, 1), (96, .invokestatic 25, 3), (99, .iconst 0, 1), (100, .istore_n 1, 1), (101, .iload_n 1, 1), (102, .aload_n 0, 1), (103, .getfield 21, 3), (106, .getfield 34, 3), (109, .if_icmp .ge 55, 3), (112, .aload_n 0, 1), (113, .getfield 9, 3), (116, .aload_n 0, 1), (117, .getfield 21, 3), (120, .getfield 44, 3), (123, .iload_n 1, 1), (124, .iaload, 1), (125, .dup2, 1), (126, .iaload, 1), (127, .aload_n 0, 1), (128, .getfield 15, 3), (131, .iload_n 1, 1), (132, .iaload, 1), (133, .iadd, 1), (134, .iastore, 1), (135, .aload_n 0, 1), (136, .getfield 9, 3), (139, .aload_n 0, 1), (140, .getfield 21, 3), (143, .getfield 47, 3), (146, .iload_n 1, 1), (147, .iaload, 1), (148, .dup2, 1), (149, .iaload, 1), (150, .aload_n 0, 1), (151, .getfield 18, 3), (154, .iload_n 1, 1), (155, .iaload, 1), (156, .iadd, 1), (157, .iastore, 1), (158, .iinc 1 1, 3), (161, .goto (-60), 3), (164, .return_, 1)]
theorem D_r_ring : ∀ q ∈ T_r_ring, decode cX5_ring q.1 = .ok q.2 := by decide +kernel
def T_r_possibleEnds : List (Nat × Instr × Nat) := [(0, .iconst 0, 1), (1, .istore_n 1, 1), (2, .iconst 0, 1), (3, .istore_n 2, 1), (4, .iload_n 2, 1), (5, .bipush 8, 2), (7, .if_icmp .ge 25, 3), (10, .aload_n 0, 1), (11, .getfield 9, 3), (14, .iload_n 2, 1), (15, .iaload, 1), (16, .ifCond .le 10, 3), (19, .iload_n 1, 1), (20, .iload_n 2, 1), (21, .invokestatic 50, 3), (24, .ior, 1), (25, .istore_n 1, 1), (26, .iinc 2 1, 3), (29, .goto (-25), 3), (32, .iload_n 1, 1), (33, .ireturn, 1)]
theorem D_r_possibleEnds : ∀ q ∈ T_r_possibleEnds, decode cX5_possibleEnds q.1 = .ok q.2 := by decide +kernel
def T_r_stroll : List (Nat × Instr × Nat) := [(0, .iload_n 1, 1), (1, .istore 4, 2), (3, .iload_n 2, 1), (4, .istore 5, 2), (6, .iconst 0, 1), (7, .istore 6, 2), (9, .iload 6, 2), (11, .iload_n 3, 1), (12, .if_icmp .ge 52, 3), (15, .aload_n 0, 1), (16, .iload 5, 2), (18, .invokevirtual 54, 3), (21, .istore 7, 2), (23, .iload 7, 2), (25, .ifCond .gt 6, 3), (28, .iload 5, 2), (30, .ireturn, 1), (31, .ldc 57, 2), (33, .iload 4, 2), (35, .imul, 1), (36, .sipush 12345, 3), (39, .iadd, 1), (40, .istore 4, 2), (42, .aload_n 0, 1), (43, .iload 5, 2), (45, .iload 4, 2), (47, .bipush 16, 2), (49, .iushr, 1), (50, .iload 7, 2), (52, .irem, 1), (53, .invokevirtual 58, 3), (56, .istore 5, 2), (58, .iinc 6 1, 3), (61, .goto (-52), 3), (64, .iload 5, 2), (66, .ireturn, 1)]
theorem D_r_stroll : ∀ q ∈ T_r_stroll, decode cX5_stroll q.1 = .ok q.2 := by decide +kernel
def T_r_choicesAt : List (Nat × Instr × Nat) := [(0, .iconst 0, 1), (1, .istore_n 2, 1), (2, .iconst 0, 1), (3, .istore_n 3, 1), (4, .iload_n 3, 1), (5, .aload_n 0, 1), (6, .getfield 21, 3), (9, .getfield 34, 3), (12, .if_icmp .ge 21, 3), (15, .aload_n 0, 1), (16, .iload_n 3, 1), (17, .iload_n 1, 1), (18, .invokevirtual 62, 3), (21, .ifCond .eq 6, 3), (24, .iinc 2 1, 3), (27, .iinc 3 1, 3), (30, .goto (-26), 3), (33, .iload_n 2, 1), (34, .ireturn, 1)]
theorem D_r_choicesAt : ∀ q ∈ T_r_choicesAt, decode cX5_choicesAt q.1 = .ok q.2 := by decide +kernel
def T_r_behindChoice : List (Nat × Instr × Nat) := [(0, .iload_n 2, 1), (1, .istore_n 3, 1), (2, .iconst 0, 1), (3, .istore 4, 2), (5, .iload 4, 2), (7, .aload_n 0, 1), (8, .getfield 21, 3), (11, .getfield 34, 3), (14, .if_icmp .ge 37, 3), (17, .aload_n 0, 1), (18, .iload 4, 2), (20, .iload_n 1, 1), (21, .invokevirtual 62, 3), (24, .ifCond .eq 21, 3), (27, .iload_n 3, 1), (28, .ifCond .ne 14, 3), (31, .aload_n 0, 1), (32, .getfield 21, 3), (35, .iload 4, 2), (37, .iload_n 1, 1), (38, .invokevirtual 66, 3), (41, .ireturn, 1), (42, .iinc 3 (-1), 3), (45, .iinc 4 1, 3), (48, .goto (-43), 3), (51, .iload_n 1, 1), (52, .ireturn, 1)]
theorem D_r_behindChoice : ∀ q ∈ T_r_behindChoice, decode cX5_behindChoice q.1 = .ok q.2 := by decide +kernel
def T_r_isChoice : List (Nat × Instr × Nat) := [(0, .aload_n 0, 1), (1, .getfield 21, 3), (4, .iload_n 1, 1), (5, .invokevirtual 40, 3), (8, .ifCond .ne 19, 3), (11, .aload_n 0, 1), (12, .getfield 21, 3), (15, .iload_n 1, 1), (16, .iload_n 2, 1), (17, .invokevirtual 69, 3), (20, .ifCond .eq 7, 3), (23, .iconst 1, 1), (24, .goto 4, 3), (27, .iconst 0, 1), (28, .ireturn, 1)]
theorem D_r_isChoice : ∀ q ∈ T_r_isChoice, decode cX5_isChoice q.1 = .ok q.2 := by decide +kernel
def T_s_found : List (Nat × Instr × Nat) := [(0, .aload_n 0, 1), (1, .iload_n 1, 1), (2, .putfield 27, 3), (5, .bipush (-10), 2), (7, .iload_n 1, 1), (8, .isub, 1), (9, .ireturn, 1)]
theorem D_s_found : ∀ q ∈ T_s_found, decode cX6_found q.1 = .ok q.2 := by decide +kernel
def T_s_hasSheet : List (Nat × Instr × Nat) := [(0, .iload_n 1, 1), (1, .iconst 0, 1), (2, .iconst 3, 1), (3, .invokestatic 31, 3), (6, .ireturn, 1)]
theorem D_s_hasSheet : ∀ q ∈ T_s_hasSheet, decode cX6_hasSheet q.1 = .ok q.2 := by decide +kernel
def T_s_isForm : List (Nat × Instr × Nat) := [(0, .iload_n 1, 1), (1, .iconst 0, 1), (2, .iconst 2, 1), (3, .invokestatic 31, 3), (6, .ireturn, 1)]
theorem D_s_isForm : ∀ q ∈ T_s_isForm, decode cX6_isForm q.1 = .ok q.2 := by decide +kernel
def T_s_isLost : List (Nat × Instr × Nat) := [(0, .aload_n 0, 1), (1, .getfield 15, 3), (4, .iload_n 1, 1), (5, .iaload, 1), (6, .iconst (-1), 1), (7, .if_icmp .ne 7, 3), (10, .iconst 1, 1), (11, .goto 4, 3), (14, .iconst 0, 1), (15, .ireturn, 1)]
theorem D_s_isLost : ∀ q ∈ T_s_isLost, decode cX6_isLost q.1 = .ok q.2 := by decide +kernel
def T_s_renew : List (Nat × Instr × Nat) := [(0, .aload_n 0, 1), (1, .getfield 15, 3), (4, .iload_n 1, 1), (5, .iload_n 2, 1), (6, .iastore, 1), (7, .aload_n 0, 1), (8, .getfield 18, 3), (11, .iload_n 1, 1), (12, .iload_n 3, 1), (13, .iastore, 1), (14, .iconst 0, 1), (15, .istore 4, 2), (17, .iload 4, 2), (19, .iload_n 3, 1), (20, .if_icmp .ge 22, 3), (23, .aload_n 0, 1), (24, .getfield 9, 3), (27, .iload_n 1, 1), (28, .bipush 60, 2), (30, .imul, 1), (31, .iload 4, 2), (33, .iadd, 1), (34, .iconst 0, 1), (35, .iastore, 1), (36, .iinc 4 1, 3), (39, .goto (-22), 3), (42, .return_, 1)]
theorem D_s_renew : ∀ q ∈ T_s_renew, decode cX6_renew q.1 = .ok q.2 := by decide +kernel
def T_s_drop : List (Nat × Instr × Nat) := [(0, .aload_n 0, 1), (1, .getfield 15, 3), (4, .iload_n 1, 1), (5, .iconst (-1), 1), (6, .iastore, 1), (7, .aload_n 0, 1), (8, .getfield 18, 3), (11, .iload_n 1, 1), (12, .iconst 0, 1), (13, .iastore, 1), (14, .return_, 1)]
theorem D_s_drop : ∀ q ∈ T_s_drop, decode cX6_drop q.1 = .ok q.2 := by decide +kernel
def T_s_findingAt : List (Nat × Instr × Nat) := [(0, .aload_n 0, 1), (1, .iload_n 1, 1), (2, .invokevirtual 35, 3), (5, .ifCond .eq 5, 3), (8, .iconst 1, 1), (9, .ireturn, 1), (10, .aload_n 0, 1), (11, .getfield 15, 3), (14, .iload_n 1, 1), (15, .iaload, 1), (16, .iload_n 2, 1), (17, .if_icmp .eq 5, 3), (20, .iconst 3, 1), (21, .ireturn, 1), (22, .iload_n 3, 1), (23, .iconst 0, 1), (24, .aload_n 0, 1), (25, .getfield 18, 3), (28, .iload_n 1, 1), (29, .iaload, 1), (30, .iconst 1, 1), (31, .isub, 1), (32, .invokestatic 31, 3), (35, .ifCond .eq 7, 3), (38, .iconst 0, 1), (39, .goto 4, 3), (42, .iconst 2, 1), (43, .ireturn, 1)]
theorem D_s_findingAt : ∀ q ∈ T_s_findingAt, decode cX6_findingAt q.1 = .ok q.2 := by decide +kernel
def T_s_item : List (Nat × Instr × Nat) := [(0, .aload_n 0, 1), (1, .getfield 9, 3), (4, .iload_n 1, 1), (5, .bipush 60, 2), (7, .imul, 1), (8, .iload_n 2, 1), (9, .iadd, 1), (10, .iaload, 1), (11, .ireturn, 1)]
theorem D_s_item : ∀ q ∈ T_s_item, decode cX6_item q.1 = .ok q.2 := by decide +kernel
def T_s_store : List (Nat × Instr × Nat) := [(0, .aload_n 0, 1), (1, .getfield 9, 3), (4, .iload_n 1, 1), (5, .bipush 60, 2), (7, .imul, 1), (8, .iload_n 2, 1), (9, .iadd, 1), (10, .aload_n 0, 1), (11, .getfield 15, 3), (14, .iload_n 1, 1), (15, .iaload, 1), (16, .iload_n 3, 1), (17, .invokestatic 39, 3), (20, .iastore, 1), (21, .return_, 1)]
theorem D_s_store : ∀ q ∈ T_s_store, decode cX6_store q.1 = .ok q.2 := by decide +kernel
def T_s_narrowed : List (Nat × Instr × Nat) := [(0, .iload_n 0, 1), (1, .ifCond .ne 6, 3), (4, .iload_n 1, 1), (5, .i2b, 1), (6, .ireturn, 1), (7, .iload_n 0, 1), (8, .iconst 1, 1), (9, .if_icmp .ne 8, 3), (12, .iload_n 1, 1), (13, .i2s, 1), (14, .goto 4, 3), (17, .iload_n 1, 1), (18, .ireturn, 1)]
theorem D_s_narrowed : ∀ q ∈ T_s_narrowed, decode cX6_narrowed q.1 = .ok q.2 := by decide +kernel
def T_s_hasSpan : List (Nat × Instr × Nat) := [(0, .iload_n 2, 1), (1, .ifCond .lt 23, 3), (4, .iload_n 3, 1), (5, .ifCond .lt 19, 3), (8, .iload_n 2, 1), (9, .aload_n 0, 1), (10, .getfield 18, 3), (13, .iload_n 1, 1), (14, .iaload, 1), (15, .iload_n 3, 1), (16, .isub, 1), (17, .if_icmp .gt 7, 3), (20, .iconst 1, 1), (21, .goto 4, 3), (24, .iconst 0, 1), (25, .ireturn, 1)]
theorem D_s_hasSpan : ∀ q ∈ T_s_hasSpan, decode cX6_hasSpan q.1 = .ok q.2 := by decide +kernel
def T_s_move : List (Nat × Instr × Nat) := [(0, .aload_n 0, 1), (1, .getfield 9, 3), (4, .iload_n 1, 1), (5, .bipush 60, 2), (7, .imul, 1), (8, .iload_n 2, 1), (9, .iadd, 1), (10, .aload_n 0, 1), (11, .getfield 9, 3), (14, .iload_n 3, 1), (15, .bipush 60, 2), (17, .imul, 1), (18, .iload 4, 2), (20, .iadd, 1), (21, .iload 5, 2), (23, .invokestatic 43, 3), (26, .return_, 1)]
theorem D_s_move : ∀ q ∈ T_s_move, decode cX6_move q.1 = .ok q.2 := by decide +kernel
def T_w_isOpen : List (Nat × Instr × Nat) := [(0, .aload_n 0, 1), (1, .getfield 21, 3), (4, .getfield 25, 3), (7, .iconst 1, 1), (8, .iload_n 1, 1), (9, .ishl, 1), (10, .iand, 1), (11, .ifCond .ne 23, 3), (14, .aload_n 0, 1), (15, .getfield 9, 3), (18, .iload_n 1, 1), (19, .iaload, 1), (20, .aload_n 0, 1), (21, .getfield 21, 3), (24, .getfield 31, 3), (27, .if_icmp .ge 7, 3), (30, .iconst 1, 1), (31, .goto 4, 3), (34, .iconst 0, 1), (35, .ireturn, 1)]
theorem D_w_isOpen : ∀ q ∈ T_w_isOpen, decode cX7_isOpen q.1 = .ok q.2 := by decide +kernel
def T_w_find : List (Nat × Instr × Nat) := [(0, .aload_n 0, 1), (1, .iload_n 2, 1), (2, .invokevirtual 34, 3), (5, .aload_n 0, 1), (6, .iconst 0, 1), (7, .putfield 38, 3), (10, .iload_n 1, 1), (11, .istore_n 3, 1), (12, .iconst 0, 1), (13, .istore 4, 2), (15, .iload 4, 2), (17, .bipush 8, 2), (19, .if_icmp .ge 57, 3), (22, .iload_n 3, 1), (23, .iload_n 2, 1), (24, .if_icmp .eq 52, 3), (27, .aload_n 0, 1), (28, .iload_n 3, 1), (29, .invokevirtual 41, 3), (32, .istore 5, 2), (34, .iload 5, 2), (36, .iconst (-1), 1), (37, .if_icmp .ne 5, 3), (40, .iconst 0, 1), (41, .ireturn, 1), (42, .aload_n 0, 1), (43, .getfield 18, 3), (46, .iload 4, 2), (48, .iload 5, 2), (50, .iastore, 1), (51, .aload_n 0, 1), (52, .iload 4, 2), (54, .iconst 1, 1), (55, .iadd, 1), (56, .putfield 38, 3), (59, .aload_n 0, 1), (60, .getfield 21, 3), (63, .iload 5, 2), (65, .iload_n 3, 1), (66, .invokevirtual 45, 3), (69, .istore_n 3, 1), (70, .iinc 4 1, 3), (73, .goto (-58), 3), (76, .iload_n 3, 1), (77, .iload_n 2, 1), (78, .if_icmp .ne 7, 3), (81, .iconst 1, 1), (82, .goto 4, 3), (85, .iconst 0, 1), (86, .ireturn, 1)]
theorem D_w_find : ∀ q ∈ T_w_find, decode cX7_find q.1 = .ok q.2 := by decide +kernel
def T_w_measure : List (Nat × Instr × Nat) := [(0, .aload_n 0, 1), (1, .getfield 15, 3), (4, .sipush 1000, 3), (7, .invokestatic 49, 3), (10, .aload_n 0, 1), (11, .getfield 15, 3), (14, .iload_n 1, 1), (15, .iconst 0, 1), (16, .iastore, 1), (17, .iconst 1, 1), (18, .istore_n 2, 1), (19, .iconst 0, 1), (20, .istore_n 3, 1), (21, .iload_n 3, 1), (22, .bipush 8, 2), (24, .if_icmp .ge 56, 3), (27, .iload_n 2, 1), (28, .ifCond .eq 52, 3), (31, .iconst 0, 1), (32, .istore_n 2, 1), (33, .iconst 0, 1), (34, .istore 4, 2), (36, .iload 4, 2), (38, .aload_n 0, 1), (39, .getfield 21, 3), (42, .getfield 55, 3), (45, .if_icmp .ge 29, 3), (48, .aload_n 0, 1), (49, .iload 4, 2), (51, .invokevirtual 58, 3), (54, .ifCond .eq 14, 3), (57, .aload_n 0, 1), (58, .iload 4, 2), (60, .invokevirtual 62, 3), (63, .ifCond .eq 5, 3), (66, .iconst 1, 1), (67, .istore_n 2, 1), (68, .iinc 4 1, 3), (71, .goto (-35), 3), (74, .iinc 3 1, 3), (77, .goto (-56), 3), (80, .return_, 1)]
theorem D_w_measure : ∀ q ∈ T_w_measure, decode cX7_measure q.1 = .ok q.2 := by decide +kernel
def T_w_shorten : List (Nat × Instr × Nat) := [(0, .aload_n 0, 1), (1, .getfield 21, 3), (4, .getfield 65, 3), (7, .iload_n 1, 1), (8, .iaload, 1), (9, .istore_n 2, 1), (10, .aload_n 0, 1), (11, .getfield 21, 3), (14, .getfield 68, 3), (17, .iload_n 1, 1), (18, .iaload, 1), (19, .istore_n 3, 1), (20, .aload_n 0, 1), (21, .getfield 21, 3), (24, .getfield 71, 3), (27, .iload_n 1, 1), (28, .iaload, 1), (29, .istore 4, 2), (31, .aload_n 0, 1), (32, .getfield 15, 3), (35, .iload_n 2, 1), (36, .iaload, 1), (37, .iload 4, 2), (39, .iadd, 1), (40, .aload_n 0, 1), (41, .getfield 15, 3), (44, .iload_n 3, 1), (45, .iaload, 1), (46, .if_icmp .ge 20, 3), (49, .aload_n 0, 1), (50, .getfield 15, 3), (53, .iload_n 3, 1), (54, .aload_n 0, 1), (55, .getfield 15, 3), (58, .iload_n 2, 1), (59, .iaload, 1), (60, .iload 4, 2), (62, .iadd, 1), (63, .iastore, 1), (64, .iconst 1, 1), (65, .ireturn, 1), (66, .aload_n 0, 1), (67, .getfield 15, 3), (70, .iload_n 3, 1), (71, .iaload, 1), (72, .iload 4, 2), (74, .iadd, 1), (75, .aload_n 0, 1), (76, .getfield 15, 3), (79, .iload_n 2, 1), (80, .iaload, 1), (81, .if_icmp .ge 20, 3), (84, .aload_n 0, 1), (85, .getfield 15, 3), (88, .iload_n 2, 1), (89, .aload_n 0, 1), (90, .getfield 15, 3), (93, .iload_n 3, 1), (94, .iaload, 1), (95, .iload 4, 2), (97, .iadd, 1), (98, .iastore, 1), (99, .iconst 1, 1), (100, .ireturn, 1), (101, .iconst 0, 1), (102, .ireturn, 1)]
theorem D_w_shorten : ∀ q ∈ T_w_shorten, decode cX7_shorten q.1 = .ok q.2 := by decide +kernel
def T_w_leastOnward : List (Nat × Instr × Nat) := [(0, .aload_n 0, 1), (1, .getfield 15, 3), (4, .iload_n 1, 1), (5, .iaload, 1), (6, .sipush 1000, 3), (9, .if_icmp .lt 5, 3), (12, .iconst (-1), 1), (13, .ireturn, 1), (14, .iconst 0, 1), (15, .istore_n 2, 1), (16, .iload_n 2, 1), (17, .aload_n 0, 1), (18, .getfield 21, 3), (21, .getfield 55, 3), (24, .if_icmp .ge 64, 3), (27, .aload_n 0, 1), (28, .iload_n 2, 1), (29, .invokevirtual 58, 3), (32, .ifCond .eq 50, 3), (35, .aload_n 0, 1), (36, .getfield 21, 3), (39, .iload_n 2, 1), (40, .iload_n 1, 1), (41, .invokevirtual 74, 3), (44, .ifCond .eq 38, 3), (47, .aload_n 0, 1), (48, .getfield 15, 3), (51, .aload_n 0, 1), (52, .getfield 21, 3), (55, .iload_n 2, 1), (56, .iload_n 1, 1), (57, .invokevirtual 45, 3), (60, .iaload, 1), (61, .aload_n 0, 1), (62, .getfield 21, 3), (65, .getfield 71, 3), (68, .iload_n 2, 1), (69, .iaload, 1), (70, .iadd, 1), (71, .aload_n 0, 1), (72, .getfield 15, 3), (75, .iload_n 1, 1), (76, .iaload, 1), (77, .if_icmp .ne 5, 3), (80, .iload_n 2, 1), (81, .ireturn, 1), (82, .iinc 2 1, 3), (85, .goto (-69), 3), (88, .iconst (-1), 1), (89, .ireturn, 1)]
theorem D_w_leastOnward : ∀ q ∈ T_w_leastOnward, decode cX7_leastOnward q.1 = .ok q.2 := by decide +kernel
def T_w_rowLength : List (Nat × Instr × Nat) := [(0, .iconst 0, 1), (1, .istore_n 1, 1), (2, .iconst 0, 1), (3, .istore_n 2, 1), (4, .iload_n 2, 1), (5, .aload_n 0, 1), (6, .getfield 38, 3), (9, .if_icmp .ge 26, 3), (12, .iload_n 1, 1), (13, .aload_n 0, 1), (14, .getfield 21, 3), (17, .getfield 71, 3), (20, .aload_n 0, 1), (21, .getfield 18, 3), (24, .iload_n 2, 1), (25, .iaload, 1), (26, .iaload, 1), (27, .iadd, 1), (28, .istore_n 1, 1), (29, .iinc 2 1, 3), (32, .goto (-28), 3), (35, .iload_n 1, 1), (36, .ireturn, 1)]
theorem D_w_rowLength : ∀ q ∈ T_w_rowLength, decode cX7_rowLength q.1 = .ok q.2 := by decide +kernel
def T_w_rowBits : List (Nat × Instr × Nat) := [(0, .iconst 0, 1), (1, .istore_n 1, 1), (2, .iconst 0, 1), (3, .istore_n 2, 1), (4, .iload_n 2, 1), (5, .aload_n 0, 1), (6, .getfield 38, 3), (9, .if_icmp .ge 21, 3), (12, .iload_n 1, 1), (13, .aload_n 0, 1), (14, .getfield 18, 3), (17, .iload_n 2, 1), (18, .iaload, 1), (19, .invokestatic 78, 3), (22, .ior, 1), (23, .istore_n 1, 1), (24, .iinc 2 1, 3), (27, .goto (-23), 3), (30, .iload_n 1, 1), (31, .ireturn, 1)]
theorem D_w_rowBits : ∀ q ∈ T_w_rowBits, decode cX7_rowBits q.1 = .ok q.2 := by decide +kernel
def T_w_drawAlongRow : List (Nat × Instr × Nat) := [(0, .iconst 0, 1), (1, .istore_n 2, 1), (2, .iload_n 2, 1), (3, .aload_n 0, 1), (4, .getfield 38, 3), (7, .if_icmp .ge 24, 3), (10, .aload_n 0, 1), (11, .getfield 9, 3), (14, .aload_n 0, 1), (15, .getfield 18, 3), (18, .iload_n 2, 1), (19, .iaload, 1), (20, .dup2, 1), (21, .iaload, 1), (22, .iload_n 1, 1), (23, .iadd, 1), (24, .iastore, 1), (25, .iinc 2 1, 3), (28, .goto (-26), 3), (31, .return_, 1)]
theorem D_w_drawAlongRow : ∀ q ∈ T_w_drawAlongRow, decode cX7_drawAlongRow q.1 = .ok q.2 := by decide +kernel
def T_w_drawAll : List (Nat × Instr × Nat) := [(0, .iconst 0, 1), (1, .istore_n 3, 1), (2, .iconst 0, 1), (3, .istore 4, 2), (5, .iload 4, 2), (7, .bipush 16, 2), (9, .if_icmp .gt 38, 3), (12, .aload_n 0, 1), (13, .iload_n 1, 1), (14, .iload_n 2, 1), (15, .invokevirtual 81, 3), (18, .ifCond .ne 6, 3), (21, .goto 26, 3), (24, .aload_n 0, 1), (25, .invokevirtual 84, 3), (28, .istore 5, 2), (30, .aload_n 0, 1), (31, .iload 5, 2), (33, .invokevirtual 88, 3), (36, .iload_n 3, 1), (37, .iload 5, 2), (39, .iadd, 1), (40, .istore_n 3, 1), (41, .iinc 4 1, 3), (44, .goto (-39), 3), (47, .iload_n 3, 1), (48, .ireturn, 1)]
theorem D_w_drawAll : ∀ q ∈ T_w_drawAll, decode cX7_drawAll q.1 = .ok q.2 := by decide +kernel
def T_w_roomInRow : List (Nat × Instr × Nat) := [(0, .aload_n 0, 1), (1, .getfield 21, 3), (4, .getfield 31, 3), (7, .istore_n 1, 1), (8, .iconst 0, 1), (9, .istore_n 2, 1), (10, .iload_n 2, 1), (11, .aload_n 0, 1), (12, .getfield 38, 3), (15, .if_icmp .ge 33, 3), (18, .iload_n 1, 1), (19, .aload_n 0, 1), (20, .getfield 21, 3), (23, .getfield 31, 3), (26, .aload_n 0, 1), (27, .getfield 9, 3), (30, .aload_n 0, 1), (31, .getfield 18, 3), (34, .iload_n 2, 1), (35, .iaload, 1), (36, .iaload, 1), (37, .isub, 1), (38, .invokestatic 91, 3), (41, .istore_n 1, 1), (42, .iinc 2 1, 3), (45, .goto (-35), 3), (48, .iload_n 1, 1), (49, .ireturn, 1)]
theorem D_w_roomInRow : ∀ q ∈ T_w_roomInRow, decode cX7_roomInRow q.1 = .ok q.2 := by decide +kernel
def T_w_reachedFrom : List (Nat × Instr × Nat) := [(0, .iload_n 1, 1), (1, .invokestatic 78, 3), (4, .istore_n 2, 1), (5, .iconst 0, 1), (6, .istore_n 3, 1), (7, .iconst 0, 1), (8, .istore 4, 2), (10, .iload 4, 2), (12, .bipush 8, 2), (14, .if_icmp .ge 87, 3), (17, .iload_n 2, 1), (18, .iload_n 3, 1), (19, .if_icmp .eq 82, 3), (22, .iload_n 2, 1), (23, .istore_n 3, 1), (24, .iconst 0, 1), (25, .istore 5, 2), (27, .iload 5, 2), (29, .aload_n 0, 1), (30, .getfield 21, 3), (33, .getfield 55, 3), (36, .if_icmp .ge 59, 3), (39, .aload_n 0, 1), (40, .getfield 21, 3), (43, .getfield 65, 3), (46, .iload 5, 2), (48, .iaload, 1), (49, .invokestatic 78, 3), (52, .aload_n 0, 1), (53, .getfield 21, 3), (56, .getfield 68, 3), (59, .iload 5, 2), (61, .iaload, 1), (62, .invokestatic 78, 3), (65, .ior, 1), (66, .istore 6, 2), (68, .iload_n 2, 1), (69, .iload 6, 2), (71, .iand, 1), (72, .ifCond .eq 17, 3), (75, .aload_n 0, 1), (76, .iload 5, 2), (78, .invokevirtual 58, 3), (81, .ifCond .eq 8, 3), (84, .iload_n 2, 1), (85, .iload 6, 2), (87, .ior, 1), (88, .istore_n 2, 1), (89, .iinc 5 1, 3), (92, .goto (-65), 3), (95, .iinc 4 1, 3), (98, .goto (-88), 3), (101, .iload_n 2, 1), (102, .ireturn, 1)]
theorem D_w_reachedFrom : ∀ q ∈ T_w_reachedFrom, decode cX7_reachedFrom q.1 = .ok q.2 := by decide +kernel
def T_x_type : List (Nat × Instr × Nat) := [(0, .iload_n 1, 1), (1, .iconst 0, 1), (2, .sipush 255, 3), (5, .invokestatic 75, 3), (8, .ifCond .ne 6, 3), (11, .bipush (-2), 2), (13, .ireturn, 1), (14, .aload_n 0, 1), (15, .getfield 10, 3), (18, .getfield 79, 3), (21, .bipush 79, 2), (23, .if_icmp .lt 6, 3), (26, .bipush (-4), 2), (28, .ireturn, 1), (29, .aload_n 0, 1), (30, .getfield 10, 3), (33, .iload_n 1, 1), (34, .invokevirtual 82, 3), (37, .aload_n 0, 1), (38, .getfield 30, 3), (41, .iconst 0, 1), (42, .invokevirtual 86, 3), (45, .aload_n 0, 1), (46, .getfield 10, 3), (49, .getfield 79, 3), (52, .ireturn, 1)]
theorem D_x_type : ∀ q ∈ T_x_type, decode cX8_type q.1 = .ok q.2 := by decide +kernel
def T_x_wipe : List (Nat × Instr × Nat) := [(0, .aload_n 0, 1), (1, .getfield 10, 3), (4, .getfield 79, 3), (7, .istore_n 1, 1), (8, .aload_n 0, 1), (9, .getfield 10, 3), (12, .invokevirtual 89, 3), (15, .aload_n 0, 1), (16, .getfield 30, 3), (19, .iconst 0, 1), (20, .invokevirtual 86, 3), (23, .iload_n 1, 1), (24, .ireturn, 1)]
theorem D_x_wipe : ∀ q ∈ T_x_wipe, decode cX8_wipe q.1 = .ok q.2 := by decide +kernel
def T_x_undo : List (Nat × Instr × Nat) := [(0, .aload_n 0, 1), (1, .getfield 10, 3), (4, .getfield 92, 3), (7, .ifCond .ne 6, 3), (10, .bipush (-3), 2), (12, .ireturn, 1), (13, .aload_n 0, 1), (14, .getfield 10, 3), (17, .invokevirtual 95, 3), (20, .aload_n 0, 1), (21, .getfield 30, 3), (24, .iconst 0, 1), (25, .invokevirtual 86, 3), (28, .aload_n 0, 1), (29, .getfield 10, 3), (32, .getfield 92, 3), (35, .ireturn, 1)]
theorem D_x_undo : ∀ q ∈ T_x_undo, decode cX8_undo q.1 = .ok q.2 := by decide +kernel
def T_x_fault : List (Nat × Instr × Nat) := [(0, .aload_n 0, 1), (1, .getfield 10, 3), (4, .getfield 98, 3), (7, .ireturn, 1)]
theorem D_x_fault : ∀ q ∈ T_x_fault, decode cX8_fault q.1 = .ok q.2 := by decide +kernel
def T_x_pipe : List (Nat × Instr × Nat) := [(0, .aload_n 0, 1), (1, .getfield 10, 3), (4, .iload_n 1, 1), (5, .invokevirtual 101, 3), (8, .ifCond .ne 6, 3), (11, .bipush (-2), 2), (13, .ireturn, 1), (14, .iload_n 2, 1), (15, .tableswitch 89 0 4 #[33, 43, 53, 63, 73], 33), (48, .aload_n 0, 1), (49, .getfield 10, 3), (52, .getfield 105, 3), (55, .iload_n 1, 1), (56, .iaload, 1), (57, .ireturn, 1), (58, .aload_n 0, 1), (59, .getfield 10, 3), (62, .getfield 109, 3), (65, .iload_n 1, 1), (66, .iaload, 1), (67, .ireturn, 1), (68, .aload_n 0, 1), (69, .getfield 10, 3), (72, .getfield 112, 3), (75, .iload_n 1, 1), (76, .iaload, 1), (77, .ireturn, 1), (78, .aload_n 0, 1), (79, .getfield 10, 3), (82, .getfield 115, 3), (85, .iload_n 1, 1), (86, .iaload, 1), (87, .ireturn, 1), (88, .aload_n 0, 1), (89, .getfield 30, 3), (92, .iload_n 1, 1), (93, .aload_n 0, 1), (94, .getfield 30, 3), (97, .invokevirtual 118, 3), (100, .invokevirtual 122, 3), (103, .ireturn, 1), (104, .bipush (-2), 2), (106, .ireturn, 1)]
theorem D_x_pipe : ∀ q ∈ T_x_pipe, decode cX8_pipe q.1 = .ok q.2 := by decide +kernel
def T_x_set : List (Nat × Instr × Nat) := [(0, .iload_n 1, 1), (1, .tableswitch 90 0 2 #[27, 48, 68], 27), (28, .iload_n 2, 1), (29, .iconst 0, 1), (30, .ldc 126, 2), (32, .invokestatic 75, 3), (35, .ifCond .eq 11, 3), (38, .aload_n 0, 1), (39, .iload_n 2, 1), (40, .invokevirtual 127, 3), (43, .goto 5, 3), (46, .bipush (-2), 2), (48, .ireturn, 1), (49, .iload_n 2, 1), (50, .iconst 1, 1), (51, .iconst 4, 1), (52, .invokestatic 75, 3), (55, .ifCond .eq 11, 3), (58, .aload_n 0, 1), (59, .iload_n 2, 1), (60, .invokevirtual 131, 3), (63, .goto 5, 3), (66, .bipush (-2), 2), (68, .ireturn, 1), (69, .iload_n 2, 1), (70, .iconst 1, 1), (71, .sipush 999, 3), (74, .invokestatic 75, 3), (77, .ifCond .eq 11, 3), (80, .aload_n 0, 1), (81, .iload_n 2, 1), (82, .invokevirtual 134, 3), (85, .goto 5, 3), (88, .bipush (-2), 2), (90, .ireturn, 1), (91, .bipush (-2), 2), (93, .ireturn, 1)]
theorem D_x_set : ∀ q ∈ T_x_set, decode cX8_set q.1 = .ok q.2 := by decide +kernel
def T_x_setShut : List (Nat × Instr × Nat) := [(0, .aload_n 0, 1), (1, .getfield 10, 3), (4, .getfield 137, 3), (7, .istore_n 2, 1), (8, .aload_n 0, 1), (9, .getfield 10, 3), (12, .iload_n 1, 1), (13, .putfield 137, 3), (16, .aload_n 0, 1), (17, .getfield 30, 3), (20, .iconst 0, 1), (21, .invokevirtual 86, 3), (24, .iload_n 2, 1), (25, .ireturn, 1)]
theorem D_x_setShut : ∀ q ∈ T_x_setShut, decode cX8_setShut q.1 = .ok q.2 := by decide +kernel
def T_x_setTakes : List (Nat × Instr × Nat) := [(0, .aload_n 0, 1), (1, .getfield 10, 3), (4, .getfield 140, 3), (7, .istore_n 2, 1), (8, .aload_n 0, 1), (9, .getfield 10, 3), (12, .iload_n 1, 1), (13, .putfield 140, 3), (16, .aload_n 0, 1), (17, .getfield 30, 3), (20, .iconst 0, 1), (21, .invokevirtual 86, 3), (24, .iload_n 2, 1), (25, .ireturn, 1)]
theorem D_x_setTakes : ∀ q ∈ T_x_setTakes, decode cX8_setTakes q.1 = .ok q.2 := by decide +kernel
def T_x_setHard : List (Nat × Instr × Nat) := [(0, .aload_n 0, 1), (1, .getfield 71, 3), (4, .istore_n 2, 1), (5, .aload_n 0, 1), (6, .iload_n 1, 1), (7, .putfield 71, 3), (10, .iload_n 2, 1), (11, .ireturn, 1)]
theorem D_x_setHard : ∀ q ∈ T_x_setHard, decode cX8_setHard q.1 = .ok q.2 := by decide +kernel
def T_x_letIn : List (Nat × Instr × Nat) := [(0, .iload_n 1, 1), (1, .iload_n 2, 1), (2, .invokestatic 143, 3), (5, .ifCond .ne 6, 3), (8, .bipush (-2), 2), (10, .ireturn, 1), (11, .aload_n 0, 1), (12, .getfield 30, 3), (15, .iload_n 1, 1), (16, .iload_n 2, 1), (17, .invokevirtual 147, 3), (20, .ireturn, 1)]
theorem D_x_letIn : ∀ q ∈ T_x_letIn, decode cX8_letIn q.1 = .ok q.2 := by decide +kernel
def T_x_pull : List (Nat × Instr × Nat) := [(0, .iload_n 1, 1), (1, .invokestatic 150, 3), (4, .ifCond .ne 6, 3), (7, .bipush (-2), 2), (9, .ireturn, 1), (10, .aload_n 0, 1), (11, .getfield 30, 3), (14, .iconst (-1), 1), (15, .iload_n 1, 1), (16, .invokevirtual 147, 3), (19, .ireturn, 1)]
theorem D_x_pull : ∀ q ∈ T_x_pull, decode cX8_pull q.1 = .ok q.2 := by decide +kernel
def T_x_back : List (Nat × Instr × Nat) := [(0, .aload_n 0, 1), (1, .getfield 30, 3), (4, .getfield 153, 3), (7, .ifCond .ne 6, 3), (10, .bipush (-3), 2), (12, .ireturn, 1), (13, .aload_n 0, 1), (14, .getfield 30, 3), (17, .invokevirtual 154, 3), (20, .aload_n 0, 1), (21, .getfield 30, 3), (24, .getfield 153, 3), (27, .ireturn, 1)]
theorem D_x_back : ∀ q ∈ T_x_back, decode cX8_back q.1 = .ok q.2 := by decide +kernel
def T_x_read : List (Nat × Instr × Nat) := [(0, .aload_n 0, 1), (1, .getfield 67, 3), (4, .iload_n 1, 1), (5, .invokevirtual 157, 3), (8, .ifCond .ne 6, 3), (11, .bipush (-2), 2), (13, .ireturn, 1), (14, .aload_n 0, 1), (15, .getfield 67, 3), (18, .iload_n 1, 1), (19, .invokevirtual 160, 3), (22, .ifCond .eq 12, 3), (25, .aload_n 0, 1), (26, .getfield 67, 3), (29, .iconst 1, 1), (30, .invokevirtual 163, 3), (33, .ireturn, 1), (34, .iconst 0, 1), (35, .istore_n 2, 1), (36, .iconst 0, 1), (37, .istore_n 3, 1), (38, .iload_n 3, 1), (39, .iconst 1, 1), (40, .iadd, 1), (41, .aload_n 0, 1), (42, .getfield 67, 3), (45, .getfield 166, 3), (48, .iload_n 1, 1), (49, .iaload, 1), (50, .if_icmp .ge 65, 3), (53, .aload_n 0, 1), (54, .getfield 67, 3), (57, .iload_n 1, 1), (58, .iload_n 3, 1), (59, .invokevirtual 169, 3), (62, .istore 4, 2), (64, .aload_n 0, 1), (65, .getfield 67, 3), (68, .iload_n 1, 1), (69, .iload_n 3, 1), (70, .iconst 1, 1), (71, .iadd, 1), (72, .invokevirtual 169, 3), (75, .istore 5, 2), (77, .iload 4, 2), (79, .iload 5, 2), (81, .invokestatic 143, 3), (84, .ifCond .eq 31, 3), (87, .aload_n 0, 1), (88, .getfield 30, 3), (91, .iload 4, 2), (93, .iload 5, 2), (95, .invokevirtual 147, 3), (98, .bipush (-4), 2), (100, .if_icmp .ne 6, 3), (103, .goto 12, 3), (106, .iinc 2 1, 3), (109, .iinc 3 2, 3), (112, .goto (-74), 3), (115, .iload_n 2, 1), (116, .ireturn, 1)]
theorem D_x_read : ∀ q ∈ T_x_read, decode cX8_read q.1 = .ok q.2 := by decide +kernel
def T_x_judged : List (Nat × Instr × Nat) := [(0, .aload_n 0, 1), (1, .getfield 30, 3), (4, .invokevirtual 172, 3), (7, .ireturn, 1)]
theorem D_x_judged : ∀ q ∈ T_x_judged, decode cX8_judged q.1 = .ok q.2 := by decide +kernel
def T_x_state : List (Nat × Instr × Nat) := [(0, .aload_n 0, 1), (1, .iload_n 1, 1), (2, .invokevirtual 175, 3), (5, .ifCond .ne 6, 3), (8, .bipush (-2), 2), (10, .ireturn, 1), (11, .iload_n 2, 1), (12, .ifCond .ne 13, 3), (15, .aload_n 0, 1), (16, .getfield 30, 3), (19, .getfield 178, 3), (22, .iload_n 1, 1), (23, .iaload, 1), (24, .ireturn, 1), (25, .iload_n 2, 1), (26, .iconst 1, 1), (27, .if_icmp .ne 20, 3), (30, .aload_n 0, 1), (31, .getfield 30, 3), (34, .aload_n 0, 1), (35, .getfield 30, 3), (38, .getfield 178, 3), (41, .iload_n 1, 1), (42, .iaload, 1), (43, .invokevirtual 181, 3), (46, .ireturn, 1), (47, .bipush (-2), 2), (49, .ireturn, 1)]
theorem D_x_state : ∀ q ∈ T_x_state, decode cX8_state q.1 = .ok q.2 := by decide +kernel
def T_x_wire : List (Nat × Instr × Nat) := [(0, .aload_n 0, 1), (1, .iload_n 1, 1), (2, .invokevirtual 175, 3), (5, .ifCond .eq 10, 3), (8, .iload_n 2, 1), (9, .invokestatic 150, 3), (12, .ifCond .ne 6, 3), (15, .bipush (-2), 2), (17, .ireturn, 1), (18, .aload_n 0, 1), (19, .getfield 30, 3), (22, .iload_n 2, 1), (23, .aload_n 0, 1), (24, .getfield 30, 3), (27, .getfield 178, 3), (30, .iload_n 1, 1), (31, .iaload, 1), (32, .invokevirtual 184, 3), (35, .ireturn, 1)]
theorem D_x_wire : ∀ q ∈ T_x_wire, decode cX8_wire q.1 = .ok q.2 := by decide +kernel
def T_x_out : List (Nat × Instr × Nat) := [(0, .iload_n 1, 1), (1, .invokestatic 150, 3), (4, .ifCond .ne 6, 3), (7, .bipush (-2), 2), (9, .ireturn, 1), (10, .aload_n 0, 1), (11, .getfield 30, 3), (14, .invokevirtual 118, 3), (17, .iload_n 1, 1), (18, .invokestatic 187, 3), (21, .ifCond .ne 6, 3), (24, .bipush (-3), 2), (26, .ireturn, 1), (27, .aload_n 0, 1), (28, .getfield 30, 3), (31, .iload_n 1, 1), (32, .invokevirtual 190, 3), (35, .ireturn, 1)]
theorem D_x_out : ∀ q ∈ T_x_out, decode cX8_out q.1 = .ok q.2 := by decide +kernel
def T_x_shortest : List (Nat × Instr × Nat) := [(0, .iload_n 1, 1), (1, .iload_n 2, 1), (2, .invokestatic 143, 3), (5, .ifCond .eq 8, 3), (8, .iload_n 3, 1), (9, .iconst (-1), 1), (10, .if_icmp .ge 6, 3), (13, .bipush (-2), 2), (15, .ireturn, 1), (16, .aload_n 0, 1), (17, .iload_n 1, 1), (18, .iload_n 2, 1), (19, .invokevirtual 193, 3), (22, .ifCond .ne 5, 3), (25, .iconst (-1), 1), (26, .ireturn, 1), (27, .iload_n 3, 1), (28, .iconst (-1), 1), (29, .if_icmp .ne 11, 3), (32, .aload_n 0, 1), (33, .getfield 21, 3), (36, .invokevirtual 196, 3), (39, .ireturn, 1), (40, .iload_n 3, 1), (41, .aload_n 0, 1), (42, .getfield 21, 3), (45, .getfield 199, 3), (48, .if_icmp .ge 15, 3), (51, .aload_n 0, 1), (52, .getfield 21, 3), (55, .getfield 202, 3), (58, .iload_n 3, 1), (59, .iaload, 1), (60, .goto 4, 3), (63, .iconst (-1), 1), (64, .ireturn, 1)]
theorem D_x_shortest : ∀ q ∈ T_x_shortest, decode cX8_shortest q.1 = .ok q.2 := by decide +kernel
def T_x_most : List (Nat × Instr × Nat) := [(0, .iload_n 1, 1), (1, .iload_n 2, 1), (2, .invokestatic 143, 3), (5, .ifCond .eq 12, 3), (8, .iload_n 3, 1), (9, .iconst 0, 1), (10, .iconst 1, 1), (11, .invokestatic 75, 3), (14, .ifCond .ne 6, 3), (17, .bipush (-2), 2), (19, .ireturn, 1), (20, .aload_n 0, 1), (21, .getfield 30, 3), (24, .invokevirtual 205, 3), (27, .iload_n 3, 1), (28, .ifCond .ne 15, 3), (31, .aload_n 0, 1), (32, .getfield 21, 3), (35, .iload_n 1, 1), (36, .iload_n 2, 1), (37, .invokevirtual 208, 3), (40, .goto 12, 3), (43, .aload_n 0, 1), (44, .getfield 37, 3), (47, .iload_n 1, 1), (48, .iload_n 2, 1), (49, .invokevirtual 211, 3), (52, .ireturn, 1)]
theorem D_x_most : ∀ q ∈ T_x_most, decode cX8_most q.1 = .ok q.2 := by decide +kernel
def T_x_fails : List (Nat × Instr × Nat) := [(0, .iload_n 1, 1), (1, .invokestatic 150, 3), (4, .ifCond .ne 6, 3), (7, .bipush (-2), 2), (9, .ireturn, 1), (10, .aload_n 0, 1), (11, .iload_n 1, 1), (12, .aload_n 0, 1), (13, .getfield 30, 3), (16, .invokevirtual 118, 3), (19, .invokevirtual 214, 3), (22, .ireturn, 1)]
theorem D_x_fails : ∀ q ∈ T_x_fails, decode cX8_fails q.1 = .ok q.2 := by decide +kernel
def T_x_soonest : List (Nat × Instr × Nat) := [(0, .aload_n 0, 1), (1, .getfield 30, 3), (4, .invokevirtual 118, 3), (7, .istore_n 1, 1), (8, .iconst (-1), 1), (9, .istore_n 2, 1), (10, .sipush 1000, 3), (13, .istore_n 3, 1), (14, .iconst 0, 1), (15, .istore 4, 2), (17, .iload 4, 2), (19, .bipush 16, 2), (21, .if_icmp .ge 36, 3), (24, .aload_n 0, 1), (25, .iload 4, 2), (27, .iload_n 1, 1), (28, .invokevirtual 214, 3), (31, .istore 5, 2), (33, .iload 5, 2), (35, .iconst (-1), 1), (36, .if_icmp .eq 15, 3), (39, .iload 5, 2), (41, .iload_n 3, 1), (42, .if_icmp .ge 9, 3), (45, .iload 4, 2), (47, .istore_n 2, 1), (48, .iload 5, 2), (50, .istore_n 3, 1), (51, .iinc 4 1, 3), (54, .goto (-37), 3), (57, .iload_n 2, 1), (58, .ireturn, 1)]
theorem D_x_soonest : ∀ q ∈ T_x_soonest, decode cX8_soonest q.1 = .ok q.2 := by decide +kernel
def T_x_left : List (Nat × Instr × Nat) := [(0, .iload_n 1, 1), (1, .iconst 0, 1), (2, .sipush 999, 3), (5, .invokestatic 75, 3), (8, .ifCond .ne 6, 3), (11, .bipush (-2), 2), (13, .ireturn, 1), (14, .aload_n 0, 1), (15, .getfield 30, 3), (18, .invokevirtual 118, 3), (21, .istore_n 2, 1), (22, .iload_n 2, 1), (23, .istore_n 3, 1), (24, .iconst 0, 1), (25, .istore 4, 2), (27, .iload 4, 2), (29, .bipush 16, 2), (31, .if_icmp .ge 39, 3), (34, .aload_n 0, 1), (35, .iload 4, 2), (37, .iload_n 2, 1), (38, .invokevirtual 214, 3), (41, .istore 5, 2), (43, .iload 5, 2), (45, .iconst (-1), 1), (46, .if_icmp .eq 18, 3), (49, .iload 5, 2), (51, .iload_n 1, 1), (52, .if_icmp .gt 12, 3), (55, .iload_n 3, 1), (56, .iconst 1, 1), (57, .iload 4, 2), (59, .ishl, 1), (60, .iconst (-1), 1), (61, .ixor, 1), (62, .iand, 1), (63, .istore_n 3, 1), (64, .iinc 4 1, 3), (67, .goto (-40), 3), (70, .iload_n 3, 1), (71, .ireturn, 1)]
theorem D_x_left : ∀ q ∈ T_x_left, decode cX8_left q.1 = .ok q.2 := by decide +kernel
def T_x_burns : List (Nat × Instr × Nat) := [(0, .iload_n 1, 1), (1, .iconst 0, 1), (2, .ldc 126, 2), (4, .invokestatic 75, 3), (7, .ifCond .ne 6, 3), (10, .bipush (-2), 2), (12, .ireturn, 1), (13, .aload_n 0, 1), (14, .getfield 30, 3), (17, .iconst 0, 1), (18, .aload_n 0, 1), (19, .getfield 30, 3), (22, .invokevirtual 118, 3), (25, .iload_n 1, 1), (26, .iconst (-1), 1), (27, .ixor, 1), (28, .iand, 1), (29, .invokevirtual 217, 3), (32, .ireturn, 1)]
theorem D_x_burns : ∀ q ∈ T_x_burns, decode cX8_burns q.1 = .ok q.2 := by decide +kernel
def T_x_lit : List (Nat × Instr × Nat) := [(0, .iload_n 1, 1), (1, .iconst 0, 1), (2, .sipush 255, 3), (5, .invokestatic 75, 3), (8, .ifCond .eq 12, 3), (11, .iload_n 2, 1), (12, .iconst 0, 1), (13, .iconst 2, 1), (14, .invokestatic 75, 3), (17, .ifCond .ne 6, 3), (20, .bipush (-2), 2), (22, .ireturn, 1), (23, .aload_n 0, 1), (24, .getfield 46, 3), (27, .iload_n 1, 1), (28, .invokevirtual 220, 3), (31, .iload_n 2, 1), (32, .ifCond .ne 11, 3), (35, .aload_n 0, 1), (36, .getfield 46, 3), (39, .getfield 223, 3), (42, .ireturn, 1), (43, .iload_n 2, 1), (44, .iconst 1, 1), (45, .if_icmp .ne 13, 3), (48, .aload_n 0, 1), (49, .getfield 46, 3), (52, .getfield 226, 3), (55, .goto 10, 3), (58, .aload_n 0, 1), (59, .getfield 46, 3), (62, .getfield 229, 3), (65, .ireturn, 1)]
theorem D_x_lit : ∀ q ∈ T_x_lit, decode cX8_lit q.1 = .ok q.2 := by decide +kernel
def T_x_heard : List (Nat × Instr × Nat) := [(0, .iload_n 1, 1), (1, .invokestatic 232, 3), (4, .ifCond .eq 23, 3), (7, .iload_n 2, 1), (8, .iconst 0, 1), (9, .bipush 6, 2), (11, .invokestatic 75, 3), (14, .ifCond .eq 13, 3), (17, .iload_n 3, 1), (18, .iconst (-1), 1), (19, .bipush 7, 2), (21, .invokestatic 75, 3), (24, .ifCond .ne 6, 3), (27, .bipush (-2), 2), (29, .ireturn, 1), (30, .aload_n 0, 1), (31, .getfield 53, 3), (34, .iload_n 1, 1), (35, .iload_n 2, 1), (36, .invokevirtual 235, 3), (39, .iload_n 3, 1), (40, .iconst (-1), 1), (41, .if_icmp .ne 13, 3), (44, .aload_n 0, 1), (45, .getfield 53, 3), (48, .invokevirtual 239, 3), (51, .goto 12, 3), (54, .aload_n 0, 1), (55, .getfield 53, 3), (58, .getfield 242, 3), (61, .iload_n 3, 1), (62, .iaload, 1), (63, .ireturn, 1)]
theorem D_x_heard : ∀ q ∈ T_x_heard, decode cX8_heard q.1 = .ok q.2 := by decide +kernel
def T_x_meet : List (Nat × Instr × Nat) := [(0, .aload_n 0, 1), (1, .getfield 10, 3), (4, .iload_n 1, 1), (5, .invokevirtual 101, 3), (8, .ifCond .eq 13, 3), (11, .iload 4, 2), (13, .iconst 0, 1), (14, .iconst 1, 1), (15, .invokestatic 75, 3), (18, .ifCond .ne 6, 3), (21, .bipush (-2), 2), (23, .ireturn, 1), (24, .iload_n 2, 1), (25, .iconst 0, 1), (26, .sipush 999, 3), (29, .invokestatic 75, 3), (32, .ifCond .eq 14, 3), (35, .iload_n 3, 1), (36, .iconst 0, 1), (37, .sipush 999, 3), (40, .invokestatic 75, 3), (43, .ifCond .ne 6, 3), (46, .bipush (-2), 2), (48, .ireturn, 1), (49, .aload_n 0, 1), (50, .getfield 10, 3), (53, .getfield 112, 3), (56, .iload_n 1, 1), (57, .iaload, 1), (58, .istore 5, 2), (60, .iload_n 2, 1), (61, .iload_n 3, 1), (62, .isub, 1), (63, .invokestatic 245, 3), (66, .iload 5, 2), (68, .if_icmp .lt 5, 3), (71, .iconst (-1), 1), (72, .ireturn, 1), (73, .iload 4, 2), (75, .ifCond .ne 10, 3), (78, .iload 5, 2), (80, .iload_n 3, 1), (81, .iadd, 1), (82, .iload_n 2, 1), (83, .isub, 1), (84, .ireturn, 1), (85, .iload_n 3, 1), (86, .iload_n 2, 1), (87, .if_icmp .le 7, 3), (90, .iconst 1, 1), (91, .goto 4, 3), (94, .iconst 0, 1), (95, .ireturn, 1)]
theorem D_x_meet : ∀ q ∈ T_x_meet, decode cX8_meet q.1 = .ok q.2 := by decide +kernel
def T_x_drowsy : List (Nat × Instr × Nat) := [(0, .iload_n 2, 1), (1, .invokestatic 232, 3), (4, .ifCond .eq 13, 3), (7, .iload_n 3, 1), (8, .iconst 0, 1), (9, .bipush 20, 2), (11, .invokestatic 75, 3), (14, .ifCond .ne 6, 3), (17, .bipush (-2), 2), (19, .ireturn, 1), (20, .aload_n 0, 1), (21, .getfield 53, 3), (24, .iload_n 1, 1), (25, .iload_n 2, 1), (26, .iload_n 3, 1), (27, .invokevirtual 250, 3), (30, .ireturn, 1)]
theorem D_x_drowsy : ∀ q ∈ T_x_drowsy, decode cX8_drowsy q.1 = .ok q.2 := by decide +kernel
def T_x_chalk : List (Nat × Instr × Nat) := [(0, .iload_n 1, 1), (1, .invokestatic 150, 3), (4, .ifCond .eq 11, 3), (7, .iload_n 2, 1), (8, .iload_n 3, 1), (9, .invokestatic 143, 3), (12, .ifCond .ne 6, 3), (15, .bipush (-2), 2), (17, .ireturn, 1), (18, .aload_n 0, 1), (19, .getfield 60, 3), (22, .iload_n 1, 1), (23, .iload_n 2, 1), (24, .invokestatic 254, 3), (27, .iload_n 3, 1), (28, .invokestatic 254, 3), (31, .ior, 1), (32, .invokevirtual 257, 3), (35, .ireturn, 1)]
theorem D_x_chalk : ∀ q ∈ T_x_chalk, decode cX8_chalk q.1 = .ok q.2 := by decide +kernel
def T_x_lies : List (Nat × Instr × Nat) := [(0, .aload_n 0, 1), (1, .getfield 30, 3), (4, .invokevirtual 118, 3), (7, .istore_n 1, 1), (8, .iconst 0, 1), (9, .istore_n 2, 1), (10, .iconst 0, 1), (11, .istore_n 3, 1), (12, .iload_n 3, 1), (13, .aload_n 0, 1), (14, .getfield 60, 3), (17, .getfield 260, 3), (20, .if_icmp .ge 57, 3), (23, .aload_n 0, 1), (24, .getfield 60, 3), (27, .getfield 263, 3), (30, .iload_n 3, 1), (31, .iaload, 1), (32, .istore 4, 2), (34, .iload_n 1, 1), (35, .iload 4, 2), (37, .invokestatic 187, 3), (40, .ifCond .eq 24, 3), (43, .aload_n 0, 1), (44, .getfield 30, 3), (47, .iload 4, 2), (49, .invokevirtual 266, 3), (52, .aload_n 0, 1), (53, .getfield 60, 3), (56, .getfield 269, 3), (59, .iload_n 3, 1), (60, .iaload, 1), (61, .if_icmp .eq 10, 3), (64, .iload_n 2, 1), (65, .iload_n 3, 1), (66, .invokestatic 254, 3), (69, .ior, 1), (70, .istore_n 2, 1), (71, .iinc 3 1, 3), (74, .goto (-62), 3), (77, .iload_n 2, 1), (78, .ireturn, 1)]
theorem D_x_lies : ∀ q ∈ T_x_lies, decode cX8_lies q.1 = .ok q.2 := by decide +kernel
def T_x_scene : List (Nat × Instr × Nat) := [(0, .iload_n 1, 1), (1, .iconst 0, 1), (2, .sipush 255, 3), (5, .invokestatic 75, 3), (8, .ifCond .ne 6, 3), (11, .bipush (-2), 2), (13, .ireturn, 1), (14, .aload_n 0, 1), (15, .getfield 60, 3), (18, .iload_n 1, 1), (19, .invokevirtual 272, 3), (22, .ireturn, 1)]
theorem D_x_scene : ∀ q ∈ T_x_scene, decode cX8_scene q.1 = .ok q.2 := by decide +kernel
def T_x_scenes : List (Nat × Instr × Nat) := [(0, .aload_n 0, 1), (1, .iload_n 1, 1), (2, .invokevirtual 175, 3), (5, .ifCond .ne 6, 3), (8, .bipush (-2), 2), (10, .ireturn, 1), (11, .aload_n 0, 1), (12, .iload_n 1, 1), (13, .invokevirtual 275, 3), (16, .istore_n 2, 1), (17, .iconst 0, 1), (18, .istore_n 3, 1), (19, .iconst 0, 1), (20, .istore 4, 2), (22, .iload 4, 2), (24, .aload_n 0, 1), (25, .getfield 60, 3), (28, .getfield 278, 3), (31, .if_icmp .ge 31, 3), (34, .aload_n 0, 1), (35, .getfield 60, 3), (38, .getfield 281, 3), (41, .iload 4, 2), (43, .iaload, 1), (44, .iload_n 2, 1), (45, .if_icmp .ne 11, 3), (48, .iload_n 3, 1), (49, .iload 4, 2), (51, .invokestatic 254, 3), (54, .ior, 1), (55, .istore_n 3, 1), (56, .iinc 4 1, 3), (59, .goto (-37), 3), (62, .iload_n 3, 1), (63, .ireturn, 1)]
theorem D_x_scenes : ∀ q ∈ T_x_scenes, decode cX8_scenes q.1 = .ok q.2 := by decide +kernel
def T_x_cue : List (Nat × Instr × Nat) := [(0, .iload_n 1, 1), (1, .iconst 0, 1), (2, .aload_n 0, 1), (3, .getfield 60, 3), (6, .getfield 278, 3), (9, .iconst 1, 1), (10, .isub, 1), (11, .invokestatic 75, 3), (14, .ifCond .ne 6, 3), (17, .bipush (-2), 2), (19, .ireturn, 1), (20, .iconst 0, 1), (21, .istore_n 2, 1), (22, .iload_n 2, 1), (23, .aload_n 0, 1), (24, .getfield 30, 3), (27, .getfield 153, 3), (30, .if_icmp .gt 28, 3), (33, .aload_n 0, 1), (34, .iload_n 2, 1), (35, .invokevirtual 275, 3), (38, .aload_n 0, 1), (39, .getfield 60, 3), (42, .getfield 281, 3), (45, .iload_n 1, 1), (46, .iaload, 1), (47, .if_icmp .ne 5, 3), (50, .iload_n 2, 1), (51, .ireturn, 1), (52, .iinc 2 1, 3), (55, .goto (-33), 3), (58, .iconst (-1), 1), (59, .ireturn, 1)]
theorem D_x_cue : ∀ q ∈ T_x_cue, decode cX8_cue q.1 = .ok q.2 := by decide +kernel
def T_x_forget : List (Nat × Instr × Nat) := [(0, .iload_n 1, 1), (1, .ifCond .ne 11, 3), (4, .aload_n 0, 1), (5, .getfield 60, 3), (8, .invokevirtual 284, 3), (11, .ireturn, 1), (12, .iload_n 1, 1), (13, .iconst 1, 1), (14, .if_icmp .ne 13, 3), (17, .aload_n 0, 1), (18, .getfield 60, 3), (21, .invokevirtual 287, 3), (24, .goto 5, 3), (27, .bipush (-2), 2), (29, .ireturn, 1)]
theorem D_x_forget : ∀ q ∈ T_x_forget, decode cX8_forget q.1 = .ok q.2 := by decide +kernel
def T_x_sheet : List (Nat × Instr × Nat) := [(0, .aload_n 0, 1), (1, .getfield 67, 3), (4, .iload_n 1, 1), (5, .invokevirtual 157, 3), (8, .ifCond .eq 20, 3), (11, .aload_n 0, 1), (12, .getfield 67, 3), (15, .iload_n 2, 1), (16, .invokevirtual 290, 3), (19, .ifCond .eq 9, 3), (22, .iload_n 3, 1), (23, .bipush 60, 2), (25, .if_icmp .le 6, 3), (28, .bipush (-2), 2), (30, .ireturn, 1), (31, .iload_n 3, 1), (32, .ifCond .ge 12, 3), (35, .aload_n 0, 1), (36, .getfield 67, 3), (39, .iconst 5, 1), (40, .invokevirtual 163, 3), (43, .ireturn, 1), (44, .aload_n 0, 1), (45, .getfield 67, 3), (48, .iload_n 1, 1), (49, .iload_n 2, 1), (50, .iload_n 3, 1), (51, .invokevirtual 293, 3), (54, .iload_n 3, 1), (55, .ireturn, 1)]
theorem D_x_sheet : ∀ q ∈ T_x_sheet, decode cX8_sheet q.1 = .ok q.2 := by decide +kernel
def T_x_lose : List (Nat × Instr × Nat) := [(0, .aload_n 0, 1), (1, .getfield 67, 3), (4, .iload_n 1, 1), (5, .invokevirtual 157, 3), (8, .ifCond .ne 6, 3), (11, .bipush (-2), 2), (13, .ireturn, 1), (14, .aload_n 0, 1), (15, .getfield 67, 3), (18, .iload_n 1, 1), (19, .invokevirtual 160, 3), (22, .ifCond .eq 12, 3), (25, .aload_n 0, 1), (26, .getfield 67, 3), (29, .iconst 1, 1), (30, .invokevirtual 163, 3), (33, .ireturn, 1), (34, .aload_n 0, 1), (35, .getfield 67, 3), (38, .getfield 166, 3), (41, .iload_n 1, 1), (42, .iaload, 1), (43, .istore_n 2, 1), (44, .aload_n 0, 1), (45, .getfield 67, 3), (48, .iload_n 1, 1), (49, .invokevirtual 297, 3), (52, .iload_n 2, 1), (53, .ireturn, 1)]
theorem D_x_lose : ∀ q ∈ T_x_lose, decode cX8_lose q.1 = .ok q.2 := by decide +kernel
def T_x_lay : List (Nat × Instr × Nat) := [(0, .aload_n 0, 1), (1, .getfield 67, 3), (4, .iload_n 1, 1), (5, .invokevirtual 157, 3), (8, .ifCond .eq 14, 3), (11, .aload_n 0, 1), (12, .getfield 67, 3), (15, .iload_n 2, 1), (16, .invokevirtual 290, 3), (19, .ifCond .ne 6, 3), (22, .bipush (-2), 2), (24, .ireturn, 1), (25, .aload_n 0, 1), (26, .getfield 67, 3), (29, .iload_n 1, 1), (30, .iload_n 2, 1), (31, .iload_n 3, 1), (32, .invokevirtual 300, 3), (35, .istore 5, 2), (37, .iload 5, 2), (39, .ifCond .eq 13, 3), (42, .aload_n 0, 1), (43, .getfield 67, 3), (46, .iload 5, 2), (48, .invokevirtual 163, 3), (51, .ireturn, 1), (52, .aload_n 0, 1), (53, .getfield 67, 3), (56, .iload_n 1, 1), (57, .iload_n 3, 1), (58, .iload 4, 2), (60, .invokevirtual 303, 3), (63, .iconst 1, 1), (64, .ireturn, 1)]
theorem D_x_lay : ∀ q ∈ T_x_lay, decode cX8_lay q.1 = .ok q.2 := by decide +kernel
def T_x_get : List (Nat × Instr × Nat) := [(0, .aload_n 0, 1), (1, .getfield 67, 3), (4, .iload_n 1, 1), (5, .invokevirtual 157, 3), (8, .ifCond .eq 14, 3), (11, .aload_n 0, 1), (12, .getfield 67, 3), (15, .iload_n 2, 1), (16, .invokevirtual 290, 3), (19, .ifCond .ne 7, 3), (22, .ldc_w 306, 3), (25, .ireturn, 1), (26, .aload_n 0, 1), (27, .getfield 67, 3), (30, .iload_n 1, 1), (31, .iload_n 2, 1), (32, .iload_n 3, 1), (33, .invokevirtual 300, 3), (36, .istore 4, 2), (38, .iload 4, 2), (40, .ifCond .eq 17, 3), (43, .aload_n 0, 1), (44, .getfield 67, 3), (47, .iload 4, 2), (49, .invokevirtual 163, 3), (52, .pop, 1), (53, .ldc_w 306, 3), (56, .ireturn, 1), (57, .aload_n 0, 1), (58, .getfield 67, 3), (61, .iload_n 1, 1), (62, .iload_n 3, 1), (63, .invokevirtual 169, 3), (66, .ireturn, 1)]
theorem D_x_get : ∀ q ∈ T_x_get, decode cX8_get q.1 = .ok q.2 := by decide +kernel
def T_x_copy : List (Nat × Instr × Nat) := [(0, .aload_n 0, 1), (1, .getfield 67, 3), (4, .iload_n 1, 1), (5, .invokevirtual 157, 3), (8, .ifCond .eq 14, 3), (11, .aload_n 0, 1), (12, .getfield 67, 3), (15, .iload_n 3, 1), (16, .invokevirtual 157, 3), (19, .ifCond .ne 6, 3), (22, .bipush (-2), 2), (24, .ireturn, 1), (25, .aload_n 0, 1), (26, .getfield 67, 3), (29, .iload_n 1, 1), (30, .invokevirtual 160, 3), (33, .ifCond .ne 14, 3), (36, .aload_n 0, 1), (37, .getfield 67, 3), (40, .iload_n 3, 1), (41, .invokevirtual 160, 3), (44, .ifCond .eq 12, 3), (47, .aload_n 0, 1), (48, .getfield 67, 3), (51, .iconst 1, 1), (52, .invokevirtual 163, 3), (55, .ireturn, 1), (56, .aload_n 0, 1), (57, .getfield 67, 3), (60, .getfield 307, 3), (63, .iload_n 1, 1), (64, .iaload, 1), (65, .aload_n 0, 1), (66, .getfield 67, 3), (69, .getfield 307, 3), (72, .iload_n 3, 1), (73, .iaload, 1), (74, .if_icmp .eq 12, 3), (77, .aload_n 0, 1), (78, .getfield 67, 3), (81, .iconst 4, 1), (82, .invokevirtual 163, 3), (85, .ireturn, 1), (86, .aload_n 0, 1), (87, .getfield 67, 3), (90, .iload_n 1, 1), (91, .iload_n 2, 1), (92, .iload 5, 2), (94, .invokevirtual 310, 3), (97, .ifCond .eq 18, 3), (100, .aload_n 0, 1), (101, .getfield 67, 3), (104, .iload_n 3, 1), (105, .iload 4, 2), (107, .iload 5, 2), (109, .invokevirtual 310, 3), (112, .ifCond .ne 12, 3), (115, .aload_n 0, 1), (116, .getfield 67, 3), (119, .iconst 2, 1), (120, .invokevirtual 163, 3), (123, .ireturn, 1), (124, .aload_n 0, 1), (125, .getfield 67, 3), (128, .iload_n 1, 1), (129, .iload_n 2, 1), (130, .iload_n 3, 1), (131, .iload 4, 2), (133, .iload 5, 2), (135, .invokevirtual 313, 3), (138, .iconst 1, 1), (139, .ireturn, 1)]
theorem D_x_copy : ∀ q ∈ T_x_copy, decode cX8_copy q.1 = .ok q.2 := by decide +kernel
def T_x_write : List (Nat × Instr × Nat) := [(0, .iload_n 1, 1), (1, .iload_n 2, 1), (2, .invokestatic 143, 3), (5, .ifCond .eq 14, 3), (8, .aload_n 0, 1), (9, .getfield 67, 3), (12, .iload_n 3, 1), (13, .invokevirtual 157, 3), (16, .ifCond .ne 6, 3), (19, .bipush (-2), 2), (21, .ireturn, 1), (22, .aload_n 0, 1), (23, .getfield 67, 3), (26, .iload_n 3, 1), (27, .invokevirtual 160, 3), (30, .ifCond .eq 12, 3), (33, .aload_n 0, 1), (34, .getfield 67, 3), (37, .iconst 1, 1), (38, .invokevirtual 163, 3), (41, .ireturn, 1), (42, .aload_n 0, 1), (43, .iload_n 1, 1), (44, .iload_n 2, 1), (45, .invokevirtual 193, 3), (48, .ifCond .ne 5, 3), (51, .iconst 0, 1), (52, .ireturn, 1), (53, .aload_n 0, 1), (54, .getfield 21, 3), (57, .getfield 199, 3), (60, .aload_n 0, 1), (61, .getfield 67, 3), (64, .getfield 166, 3), (67, .iload_n 3, 1), (68, .iaload, 1), (69, .invokestatic 317, 3), (72, .istore 4, 2), (74, .iconst 0, 1), (75, .istore 5, 2), (77, .iload 5, 2), (79, .iload 4, 2), (81, .if_icmp .ge 29, 3), (84, .aload_n 0, 1), (85, .getfield 67, 3), (88, .iload_n 3, 1), (89, .iload 5, 2), (91, .aload_n 0, 1), (92, .getfield 21, 3), (95, .getfield 202, 3), (98, .iload 5, 2), (100, .iaload, 1), (101, .invokevirtual 303, 3), (104, .iinc 5 1, 3), (107, .goto (-30), 3), (110, .iload 4, 2), (112, .ireturn, 1)]
theorem D_x_write : ∀ q ∈ T_x_write, decode cX8_write q.1 = .ok q.2 := by decide +kernel
def T_x_count : List (Nat × Instr × Nat) := [(0, .iload_n 1, 1), (1, .tableswitch 126 0 8 #[51, 59, 67, 75, 83, 94, 102, 110, 118], 51), (52, .aload_n 0, 1), (53, .getfield 10, 3), (56, .getfield 92, 3), (59, .ireturn, 1), (60, .aload_n 0, 1), (61, .getfield 10, 3), (64, .getfield 79, 3), (67, .ireturn, 1), (68, .aload_n 0, 1), (69, .getfield 30, 3), (72, .getfield 153, 3), (75, .ireturn, 1), (76, .aload_n 0, 1), (77, .getfield 30, 3), (80, .invokevirtual 320, 3), (83, .ireturn, 1), (84, .aload_n 0, 1), (85, .getfield 30, 3), (88, .invokevirtual 118, 3), (91, .invokestatic 323, 3), (94, .ireturn, 1), (95, .aload_n 0, 1), (96, .getfield 60, 3), (99, .getfield 260, 3), (102, .ireturn, 1), (103, .aload_n 0, 1), (104, .getfield 60, 3), (107, .getfield 278, 3), (110, .ireturn, 1), (111, .aload_n 0, 1), (112, .getfield 10, 3), (115, .invokevirtual 328, 3), (118, .ireturn, 1), (119, .aload_n 0, 1), (120, .getfield 67, 3), (123, .getfield 331, 3), (126, .ireturn, 1), (127, .bipush (-2), 2), (129, .ireturn, 1)]
theorem D_x_count : ∀ q ∈ T_x_count, decode cX8_count q.1 = .ok q.2 := by decide +kernel
def T_x_digest : List (Nat × Instr × Nat) := [(0, .ldc2_w 334, 3), (3, .lstore_n 1, 1), (4, .iconst 0, 1), (5, .istore_n 3, 1), (6, .iload_n 3, 1), (7, .bipush 7, 2), (9, .if_icmp .gt 19, 3), (12, .lload_n 1, 1), (13, .aload_n 0, 1), (14, .iload_n 3, 1), (15, .invokevirtual 336, 3), (18, .invokestatic 339, 3), (21, .lstore_n 1, 1), (22, .iinc 3 1, 3), (25, .goto (-19), 3), (28, .lload_n 1, 1), (29, .aload_n 0, 1), (30, .invokevirtual 343, 3), (33, .invokestatic 339, 3), (36, .lstore_n 1, 1), (37, .lload_n 1, 1), (38, .aload_n 0, 1), (39, .invokevirtual 346, 3), (42, .invokestatic 339, 3), (45, .lstore_n 1, 1), (46, .aload_n 0, 1), (47, .lload_n 1, 1), (48, .invokevirtual 349, 3), (51, .lstore_n 1, 1), (52, .aload_n 0, 1), (53, .lload_n 1, 1), (54, .invokevirtual 353, 3), (57, .lstore_n 1, 1), (58, .lload_n 1, 1), (59, .aload_n 0, 1), (60, .aload_n 0, 1), (61, .getfield 30, 3), (64, .getfield 153, 3), (67, .iconst 0, 1), (68, .invokevirtual 356, 3), (71, .invokestatic 339, 3), (74, .lstore_n 1, 1), (75, .lload_n 1, 1), (76, .aload_n 0, 1), (77, .aload_n 0, 1), (78, .getfield 30, 3), (81, .getfield 153, 3), (84, .iconst 1, 1), (85, .invokevirtual 356, 3), (88, .invokestatic 339, 3), (91, .lstore_n 1, 1), (92, .lload_n 1, 1), (93, .aload_n 0, 1), (94, .invokevirtual 359, 3), (97, .invokestatic 339, 3), (100, .lstore_n 1, 1), (101, .lload_n 1, 1), (102, .aload_n 0, 1), (103, .bipush 9, 2), (105, .invokevirtual 362, 3), (108, .invokestatic 339, 3), (111, .lstore_n 1, 1), (112, .lload_n 1, 1), (113, .aload_n 0, 1), (114, .iconst 0, 1), (115, .invokevirtual 365, 3), (118, .invokestatic 339, 3), (121, .lstore_n 1, 1), (122, .lload_n 1, 1), (123, .aload_n 0, 1), (124, .iconst 5, 1), (125, .invokevirtual 365, 3), (128, .invokestatic 339, 3), (131, .lstore_n 1, 1), (132, .aload_n 0, 1), (133, .lload_n 1, 1), (134, .invokevirtual 368, 3), (137, .lstore_n 1, 1), (138, .aload_n 0, 1), (139, .getfield 46, 3), (142, .bipush 14, 2), (144, .invokevirtual 220, 3), (147, .lload_n 1, 1), (148, .aload_n 0, 1), (149, .getfield 46, 3), (152, .getfield 223, 3), (155, .invokestatic 339, 3), (158, .lstore_n 1, 1), (159, .lload_n 1, 1), (160, .aload_n 0, 1), (161, .getfield 46, 3), (164, .getfield 226, 3), (167, .invokestatic 339, 3), (170, .lstore_n 1, 1), (171, .lload_n 1, 1), (172, .aload_n 0, 1), (173, .getfield 46, 3), (176, .getfield 229, 3), (179, .invokestatic 339, 3), (182, .lstore_n 1, 1), (183, .lload_n 1, 1), (184, .aload_n 0, 1), (185, .iconst 0, 1), (186, .iconst 4, 1), (187, .iconst (-1), 1), (188, .invokevirtual 371, 3), (191, .invokestatic 339, 3), (194, .lstore_n 1, 1), (195, .lload_n 1, 1), (196, .aload_n 0, 1), (197, .bipush 7, 2), (199, .iconst 0, 1), (200, .bipush 9, 2), (202, .invokevirtual 374, 3), (205, .invokestatic 339, 3), (208, .lstore_n 1, 1), (209, .lload_n 1, 1), (210, .aload_n 0, 1), (211, .invokevirtual 377, 3), (214, .invokestatic 339, 3), (217, .lstore_n 1, 1), (218, .lload_n 1, 1), (219, .aload_n 0, 1), (220, .aload_n 0, 1), (221, .getfield 30, 3), (224, .getfield 153, 3), (227, .invokevirtual 380, 3), (230, .invokestatic 339, 3), (233, .lstore_n 1, 1), (234, .lload_n 1, 1), (235, .aload_n 0, 1), (236, .iconst 0, 1), (237, .invokevirtual 383, 3), (240, .invokestatic 339, 3), (243, .lreturn, 1)]
theorem D_x_digest : ∀ q ∈ T_x_digest, decode cX8_digest q.1 = .ok q.2 := by decide +kernel
def T_x_mixPipes : List (Nat × Instr × Nat) := [(0, .lload_n 1, 1), (1, .lstore_n 3, 1), (2, .iconst 0, 1), (3, .istore 5, 2), (5, .iload 5, 2), (7, .aload_n 0, 1), (8, .getfield 10, 3), (11, .getfield 92, 3), (14, .if_icmp .ge 37, 3), (17, .iconst 0, 1), (18, .istore 6, 2), (20, .iload 6, 2), (22, .iconst 4, 1), (23, .if_icmp .gt 22, 3), (26, .lload_n 3, 1), (27, .aload_n 0, 1), (28, .iload 5, 2), (30, .iload 6, 2), (32, .invokevirtual 386, 3), (35, .invokestatic 339, 3), (38, .lstore_n 3, 1), (39, .iinc 6 1, 3), (42, .goto (-22), 3), (45, .iinc 5 1, 3), (48, .goto (-43), 3), (51, .lload_n 3, 1), (52, .lreturn, 1)]
theorem D_x_mixPipes : ∀ q ∈ T_x_mixPipes, decode cX8_mixPipes q.1 = .ok q.2 := by decide +kernel
def T_x_mixWires : List (Nat × Instr × Nat) := [(0, .lload_n 1, 1), (1, .lstore_n 3, 1), (2, .iconst 0, 1), (3, .istore 5, 2), (5, .iload 5, 2), (7, .bipush 16, 2), (9, .if_icmp .ge 49, 3), (12, .lload_n 3, 1), (13, .aload_n 0, 1), (14, .aload_n 0, 1), (15, .getfield 30, 3), (18, .getfield 153, 3), (21, .iload 5, 2), (23, .invokevirtual 389, 3), (26, .invokestatic 339, 3), (29, .lstore_n 3, 1), (30, .lload_n 3, 1), (31, .aload_n 0, 1), (32, .iload 5, 2), (34, .invokevirtual 392, 3), (37, .invokestatic 339, 3), (40, .lstore_n 3, 1), (41, .lload_n 3, 1), (42, .aload_n 0, 1), (43, .iload 5, 2), (45, .invokevirtual 395, 3), (48, .invokestatic 339, 3), (51, .lstore_n 3, 1), (52, .iinc 5 1, 3), (55, .goto (-50), 3), (58, .lload_n 3, 1), (59, .lreturn, 1)]
theorem D_x_mixWires : ∀ q ∈ T_x_mixWires, decode cX8_mixWires q.1 = .ok q.2 := by decide +kernel
def T_x_mixEnds : List (Nat × Instr × Nat) := [(0, .lload_n 1, 1), (1, .lstore_n 3, 1), (2, .iconst 1, 1), (3, .istore 5, 2), (5, .iload 5, 2), (7, .bipush 8, 2), (9, .if_icmp .ge 61, 3), (12, .lload_n 3, 1), (13, .aload_n 0, 1), (14, .iconst 0, 1), (15, .iload 5, 2), (17, .iconst (-1), 1), (18, .invokevirtual 398, 3), (21, .invokestatic 339, 3), (24, .lstore_n 3, 1), (25, .lload_n 3, 1), (26, .aload_n 0, 1), (27, .iconst 0, 1), (28, .iload 5, 2), (30, .iconst 0, 1), (31, .invokevirtual 401, 3), (34, .invokestatic 339, 3), (37, .lstore_n 3, 1), (38, .lload_n 3, 1), (39, .aload_n 0, 1), (40, .iconst 0, 1), (41, .iload 5, 2), (43, .iconst 1, 1), (44, .invokevirtual 401, 3), (47, .invokestatic 339, 3), (50, .lstore_n 3, 1), (51, .lload_n 3, 1), (52, .aload_n 0, 1), (53, .iconst 0, 1), (54, .iconst 3, 1), (55, .iload 5, 2), (57, .invokevirtual 371, 3), (60, .invokestatic 339, 3), (63, .lstore_n 3, 1), (64, .iinc 5 1, 3), (67, .goto (-62), 3), (70, .lload_n 3, 1), (71, .lreturn, 1)]
theorem D_x_mixEnds : ∀ q ∈ T_x_mixEnds, decode cX8_mixEnds q.1 = .ok q.2 := by decide +kernel
def T_x_mix : List (Nat × Instr × Nat) := [(0, .ldc2_w 404, 3), (3, .lload_n 0, 1), (4, .lmul, 1), (5, .iload_n 2, 1), (6, .i2l, 1), (7, .ladd, 1), (8, .lreturn, 1)]
theorem D_x_mix : ∀ q ∈ T_x_mix, decode cX8_mix q.1 = .ok q.2 := by decide +kernel
def T_x_within : List (Nat × Instr × Nat) := [(0, .iload_n 0, 1), (1, .iload_n 1, 1), (2, .if_icmp .lt 12, 3), (5, .iload_n 0, 1), (6, .iload_n 2, 1), (7, .if_icmp .gt 7, 3), (10, .iconst 1, 1), (11, .goto 4, 3), (14, .iconst 0, 1), (15, .ireturn, 1)]
theorem D_x_within : ∀ q ∈ T_x_within, decode cX8_within q.1 = .ok q.2 := by decide +kernel
def T_x_isEnd : List (Nat × Instr × Nat) := [(0, .iload_n 0, 1), (1, .iconst 0, 1), (2, .bipush 7, 2), (4, .invokestatic 75, 3), (7, .ireturn, 1)]
theorem D_x_isEnd : ∀ q ∈ T_x_isEnd, decode cX8_isEnd q.1 = .ok q.2 := by decide +kernel
def T_x_areTwoEnds : List (Nat × Instr × Nat) := [(0, .iload_n 0, 1), (1, .invokestatic 232, 3), (4, .ifCond .eq 19, 3), (7, .iload_n 1, 1), (8, .invokestatic 232, 3), (11, .ifCond .eq 12, 3), (14, .iload_n 0, 1), (15, .iload_n 1, 1), (16, .if_icmp .eq 7, 3), (19, .iconst 1, 1), (20, .goto 4, 3), (23, .iconst 0, 1), (24, .ireturn, 1)]
theorem D_x_areTwoEnds : ∀ q ∈ T_x_areTwoEnds, decode cX8_areTwoEnds q.1 = .ok q.2 := by decide +kernel
def T_x_isWire : List (Nat × Instr × Nat) := [(0, .iload_n 0, 1), (1, .iconst 0, 1), (2, .bipush 15, 2), (4, .invokestatic 75, 3), (7, .ireturn, 1)]
theorem D_x_isWire : ∀ q ∈ T_x_isWire, decode cX8_isWire q.1 = .ok q.2 := by decide +kernel
def T_x_isBehind : List (Nat × Instr × Nat) := [(0, .iload_n 1, 1), (1, .iconst 0, 1), (2, .aload_n 0, 1), (3, .getfield 30, 3), (6, .getfield 153, 3), (9, .invokestatic 75, 3), (12, .ireturn, 1)]
theorem D_x_isBehind : ∀ q ∈ T_x_isBehind, decode cX8_isBehind q.1 = .ok q.2 := by decide +kernel
def T_x_bit : List (Nat × Instr × Nat) := [(0, .iconst 1, 1), (1, .iload_n 0, 1), (2, .ishl, 1), (3, .ireturn, 1)]
theorem D_x_bit : ∀ q ∈ T_x_bit, decode cX8_bit q.1 = .ok q.2 := by decide +kernel
def T_x_hasBit : List (Nat × Instr × Nat) := [(0, .iload_n 0, 1), (1, .iconst 1, 1), (2, .iload_n 1, 1), (3, .ishl, 1), (4, .iand, 1), (5, .ifCond .eq 7, 3), (8, .iconst 1, 1), (9, .goto 4, 3), (12, .iconst 0, 1), (13, .ireturn, 1)]
theorem D_x_hasBit : ∀ q ∈ T_x_hasBit, decode cX8_hasBit q.1 = .ok q.2 := by decide +kernel
def T_x_findWay : List (Nat × Instr × Nat) := [(0, .aload_n 0, 1), (1, .getfield 30, 3), (4, .invokevirtual 205, 3), (7, .aload_n 0, 1), (8, .getfield 21, 3), (11, .iload_n 1, 1), (12, .iload_n 2, 1), (13, .invokevirtual 406, 3), (16, .ireturn, 1)]
theorem D_x_findWay : ∀ q ∈ T_x_findWay, decode cX8_findWay q.1 = .ok q.2 := by decide +kernel
def T_x_burningBehind : List (Nat × Instr × Nat) := [(0, .aload_n 0, 1), (1, .getfield 30, 3), (4, .iconst 0, 1), (5, .aload_n 0, 1), (6, .getfield 30, 3), (9, .getfield 178, 3), (12, .iload_n 1, 1), (13, .iaload, 1), (14, .invokevirtual 217, 3), (17, .ireturn, 1)]
theorem D_x_burningBehind : ∀ q ∈ T_x_burningBehind, decode cX8_burningBehind q.1 = .ok q.2 := by decide +kernel
def T_x_failingDay : List (Nat × Instr × Nat) := [(0, .aload_n 0, 1), (1, .getfield 10, 3), (4, .aload_n 0, 1), (5, .getfield 30, 3), (8, .iload_n 1, 1), (9, .iload_n 2, 1), (10, .invokevirtual 184, 3), (13, .invokevirtual 409, 3), (16, .istore_n 3, 1), (17, .iload_n 3, 1), (18, .ifCond .gt 5, 3), (21, .iconst (-1), 1), (22, .ireturn, 1), (23, .aload_n 0, 1), (24, .getfield 71, 3), (27, .iload_n 3, 1), (28, .iadd, 1), (29, .iconst 1, 1), (30, .isub, 1), (31, .iload_n 3, 1), (32, .idiv, 1), (33, .ireturn, 1)]
theorem D_x_failingDay : ∀ q ∈ T_x_failingDay, decode cX8_failingDay q.1 = .ok q.2 := by decide +kernel
def T_m_in : List (Nat × Instr × Nat) := [(0, .lload_n 0, 1), (1, .lload_n 2, 1), (2, .lcmp, 1), (3, .ifCond .lt 14, 3), (6, .lload_n 0, 1), (7, .lload 4, 2), (9, .lcmp, 1), (10, .ifCond .gt 7, 3), (13, .iconst 1, 1), (14, .goto 4, 3), (17, .iconst 0, 1), (18, .ireturn, 1)]
theorem D_m_in : ∀ q ∈ T_m_in, decode cX9_in q.1 = .ok q.2 := by decide +kernel
def T_m_isTwo : List (Nat × Instr × Nat) := [(0, .iload_n 0, 1), (1, .i2l, 1), (2, .lconst 0, 1), (3, .lconst 1, 1), (4, .invokestatic 70, 3), (7, .ireturn, 1)]
theorem D_m_isTwo : ∀ q ∈ T_m_isTwo, decode cX9_isTwo q.1 = .ok q.2 := by decide +kernel
def T_m_isIn : List (Nat × Instr × Nat) := [(0, .iload_n 0, 1), (1, .iload_n 1, 1), (2, .ishr, 1), (3, .iconst 1, 1), (4, .iand, 1), (5, .iconst 1, 1), (6, .if_icmp .ne 7, 3), (9, .iconst 1, 1), (10, .goto 4, 3), (13, .iconst 0, 1), (14, .ireturn, 1)]
theorem D_m_isIn : ∀ q ∈ T_m_isIn, decode cX9_isIn q.1 = .ok q.2 := by decide +kernel
def T_m_ones : List (Nat × Instr × Nat) := [(0, .iconst 0, 1), (1, .istore_n 1, 1), (2, .iload_n 0, 1), (3, .istore_n 2, 1), (4, .iload_n 2, 1), (5, .ifCond .eq 15, 3), (8, .iinc 1 1, 3), (11, .iload_n 2, 1), (12, .iload_n 2, 1), (13, .iconst 1, 1), (14, .isub, 1), (15, .iand, 1), (16, .istore_n 2, 1), (17, .goto (-13), 3), (20, .iload_n 1, 1), (21, .ireturn, 1)]
theorem D_m_ones : ∀ q ∈ T_m_ones, decode cX9_ones q.1 = .ok q.2 := by decide +kernel
def T_m_finds : List (Nat × Instr × Nat) := [(0, .aload_n 0, 1), (1, .iload_n 1, 1), (2, .putfield 74, 3), (5, .bipush (-10), 2), (7, .iload_n 1, 1), (8, .isub, 1), (9, .ireturn, 1)]
theorem D_m_finds : ∀ q ∈ T_m_finds, decode cX9_finds q.1 = .ok q.2 := by decide +kernel
def T_m_isSheet : List (Nat × Instr × Nat) := [(0, .iload_n 0, 1), (1, .i2l, 1), (2, .lconst 0, 1), (3, .ldc2_w 78, 3), (6, .invokestatic 70, 3), (9, .ireturn, 1)]
theorem D_m_isSheet : ∀ q ∈ T_m_isSheet, decode cX9_isSheet q.1 = .ok q.2 := by decide +kernel
def T_m_sheet : List (Nat × Instr × Nat) := [(0, .iload_n 1, 1), (1, .invokestatic 80, 3), (4, .ifCond .eq 21, 3), (7, .iload_n 2, 1), (8, .i2l, 1), (9, .lconst 0, 1), (10, .ldc2_w 84, 3), (13, .invokestatic 70, 3), (16, .ifCond .eq 9, 3), (19, .iload_n 3, 1), (20, .bipush 60, 2), (22, .if_icmp .le 6, 3), (25, .bipush (-2), 2), (27, .ireturn, 1), (28, .iload_n 3, 1), (29, .ifCond .ge 9, 3), (32, .aload_n 0, 1), (33, .iconst 5, 1), (34, .invokevirtual 86, 3), (37, .ireturn, 1), (38, .aload_n 0, 1), (39, .getfield 7, 3), (42, .iload_n 1, 1), (43, .iload_n 2, 1), (44, .iastore, 1), (45, .aload_n 0, 1), (46, .getfield 13, 3), (49, .iload_n 1, 1), (50, .iload_n 3, 1), (51, .iastore, 1), (52, .iconst 0, 1), (53, .istore 4, 2), (55, .iload 4, 2), (57, .iload_n 3, 1), (58, .if_icmp .ge 22, 3), (61, .aload_n 0, 1), (62, .getfield 16, 3), (65, .bipush 60, 2), (67, .iload_n 1, 1), (68, .imul, 1), (69, .iload 4, 2), (71, .iadd, 1), (72, .iconst 0, 1), (73, .iastore, 1), (74, .iinc 4 1, 3), (77, .goto (-22), 3), (80, .iload_n 3, 1), (81, .ireturn, 1)]
theorem D_m_sheet : ∀ q ∈ T_m_sheet, decode cX9_sheet q.1 = .ok q.2 := by decide +kernel
def T_m_lose : List (Nat × Instr × Nat) := [(0, .iload_n 1, 1), (1, .invokestatic 80, 3), (4, .ifCond .ne 6, 3), (7, .bipush (-2), 2), (9, .ireturn, 1), (10, .aload_n 0, 1), (11, .getfield 7, 3), (14, .iload_n 1, 1), (15, .iaload, 1), (16, .ifCond .ge 9, 3), (19, .aload_n 0, 1), (20, .iconst 1, 1), (21, .invokevirtual 86, 3), (24, .ireturn, 1), (25, .aload_n 0, 1), (26, .getfield 7, 3), (29, .iload_n 1, 1), (30, .iconst (-1), 1), (31, .iastore, 1), (32, .aload_n 0, 1), (33, .getfield 13, 3), (36, .iload_n 1, 1), (37, .iaload, 1), (38, .ireturn, 1)]
theorem D_m_lose : ∀ q ∈ T_m_lose, decode cX9_lose q.1 = .ok q.2 := by decide +kernel
def T_m_lacks : List (Nat × Instr × Nat) := [(0, .aload_n 0, 1), (1, .getfield 7, 3), (4, .iload_n 1, 1), (5, .iaload, 1), (6, .ifCond .ge 9, 3), (9, .aload_n 0, 1), (10, .iconst 1, 1), (11, .invokevirtual 86, 3), (14, .ireturn, 1), (15, .aload_n 0, 1), (16, .getfield 7, 3), (19, .iload_n 1, 1), (20, .iaload, 1), (21, .iload_n 2, 1), (22, .if_icmp .eq 9, 3), (25, .aload_n 0, 1), (26, .iconst 3, 1), (27, .invokevirtual 86, 3), (30, .ireturn, 1), (31, .iload_n 3, 1), (32, .i2l, 1), (33, .lconst 0, 1), (34, .aload_n 0, 1), (35, .getfield 13, 3), (38, .iload_n 1, 1), (39, .iaload, 1), (40, .iconst 1, 1), (41, .isub, 1), (42, .i2l, 1), (43, .invokestatic 70, 3), (46, .ifCond .eq 7, 3), (49, .iconst 0, 1), (50, .goto 8, 3), (53, .aload_n 0, 1), (54, .iconst 2, 1), (55, .invokevirtual 86, 3), (58, .ireturn, 1)]
theorem D_m_lacks : ∀ q ∈ T_m_lacks, decode cX9_lacks q.1 = .ok q.2 := by decide +kernel
def T_m_cut : List (Nat × Instr × Nat) := [(0, .iload_n 0, 1), (1, .ifCond .ne 8, 3), (4, .iload_n 1, 1), (5, .i2b, 1), (6, .goto 14, 3), (9, .iload_n 0, 1), (10, .iconst 1, 1), (11, .if_icmp .ne 8, 3), (14, .iload_n 1, 1), (15, .i2s, 1), (16, .goto 4, 3), (19, .iload_n 1, 1), (20, .ireturn, 1)]
theorem D_m_cut : ∀ q ∈ T_m_cut, decode cX9_cut q.1 = .ok q.2 := by decide +kernel
def T_m_lay : List (Nat × Instr × Nat) := [(0, .iload_n 1, 1), (1, .invokestatic 80, 3), (4, .ifCond .eq 15, 3), (7, .iload_n 2, 1), (8, .i2l, 1), (9, .lconst 0, 1), (10, .ldc2_w 84, 3), (13, .invokestatic 70, 3), (16, .ifCond .ne 6, 3), (19, .bipush (-2), 2), (21, .ireturn, 1), (22, .aload_n 0, 1), (23, .iload_n 1, 1), (24, .iload_n 2, 1), (25, .iload_n 3, 1), (26, .invokevirtual 90, 3), (29, .istore 5, 2), (31, .iload 5, 2), (33, .ifCond .eq 6, 3), (36, .iload 5, 2), (38, .ireturn, 1), (39, .aload_n 0, 1), (40, .getfield 16, 3), (43, .bipush 60, 2), (45, .iload_n 1, 1), (46, .imul, 1), (47, .iload_n 3, 1), (48, .iadd, 1), (49, .iload_n 2, 1), (50, .iload 4, 2), (52, .invokestatic 94, 3), (55, .iastore, 1), (56, .iconst 1, 1), (57, .ireturn, 1)]
theorem D_m_lay : ∀ q ∈ T_m_lay, decode cX9_lay q.1 = .ok q.2 := by decide +kernel
def T_m_get : List (Nat × Instr × Nat) := [(0, .iload_n 1, 1), (1, .invokestatic 80, 3), (4, .ifCond .eq 25, 3), (7, .iload_n 2, 1), (8, .i2l, 1), (9, .lconst 0, 1), (10, .ldc2_w 84, 3), (13, .invokestatic 70, 3), (16, .ifCond .eq 13, 3), (19, .aload_n 0, 1), (20, .iload_n 1, 1), (21, .iload_n 2, 1), (22, .iload_n 3, 1), (23, .invokevirtual 90, 3), (26, .ifCond .eq 6, 3), (29, .ldc 98, 2), (31, .ireturn, 1), (32, .aload_n 0, 1), (33, .getfield 16, 3), (36, .bipush 60, 2), (38, .iload_n 1, 1), (39, .imul, 1), (40, .iload_n 3, 1), (41, .iadd, 1), (42, .iaload, 1), (43, .ireturn, 1)]
theorem D_m_get : ∀ q ∈ T_m_get, decode cX9_get q.1 = .ok q.2 := by decide +kernel
def T_m_copy : List (Nat × Instr × Nat) := [(0, .iload_n 1, 1), (1, .invokestatic 80, 3), (4, .ifCond .eq 10, 3), (7, .iload_n 3, 1), (8, .invokestatic 80, 3), (11, .ifCond .ne 6, 3), (14, .bipush (-2), 2), (16, .ireturn, 1), (17, .aload_n 0, 1), (18, .getfield 7, 3), (21, .iload_n 1, 1), (22, .iaload, 1), (23, .ifCond .lt 12, 3), (26, .aload_n 0, 1), (27, .getfield 7, 3), (30, .iload_n 3, 1), (31, .iaload, 1), (32, .ifCond .ge 9, 3), (35, .aload_n 0, 1), (36, .iconst 1, 1), (37, .invokevirtual 86, 3), (40, .ireturn, 1), (41, .aload_n 0, 1), (42, .getfield 7, 3), (45, .iload_n 1, 1), (46, .iaload, 1), (47, .aload_n 0, 1), (48, .getfield 7, 3), (51, .iload_n 3, 1), (52, .iaload, 1), (53, .if_icmp .eq 9, 3), (56, .aload_n 0, 1), (57, .iconst 4, 1), (58, .invokevirtual 86, 3), (61, .ireturn, 1), (62, .iload_n 2, 1), (63, .ifCond .lt 48, 3), (66, .iload 4, 2), (68, .ifCond .lt 43, 3), (71, .iload 5, 2), (73, .ifCond .lt 38, 3), (76, .iload_n 2, 1), (77, .i2l, 1), (78, .iload 5, 2), (80, .i2l, 1), (81, .ladd, 1), (82, .aload_n 0, 1), (83, .getfield 13, 3), (86, .iload_n 1, 1), (87, .iaload, 1), (88, .i2l, 1), (89, .lcmp, 1), (90, .ifCond .gt 21, 3), (93, .iload 4, 2), (95, .i2l, 1), (96, .iload 5, 2), (98, .i2l, 1), (99, .ladd, 1), (100, .aload_n 0, 1), (101, .getfield 13, 3), (104, .iload_n 3, 1), (105, .iaload, 1), (106, .i2l, 1), (107, .lcmp, 1), (108, .ifCond .le 9, 3), (111, .aload_n 0, 1), (112, .iconst 2, 1), (113, .invokevirtual 86, 3), (116, .ireturn, 1), (117, .iconst 0, 1), (118, .istore 6, 2), (120, .iload 6, 2), (122, .iload 5, 2), (124, .if_icmp .ge 30, 3), (127, .aload_n 0, 1), (128, .getfield 19, 3), (131, .iload 6, 2), (133, .aload_n 0, 1), (134, .getfield 16, 3), (137, .bipush 60, 2), (139, .iload_n 1, 1), (140, .imul, 1), (141, .iload_n 2, 1), (142, .iadd, 1), (143, .iload 6, 2), (145, .iadd, 1), (146, .iaload, 1), (147, .iastore, 1), (148, .iinc 6 1, 3), (151, .goto (-31), 3), (154, .iconst 0, 1), (155, .istore 6, 2), (157, .iload 6, 2), (159, .iload 5, 2), (161, .if_icmp .ge 31, 3), (164, .aload_n 0, 1), (165, .getfield 16, 3), (168, .bipush 60, 2), (170, .iload_n 3, 1), (171, .imul, 1), (172, .iload 4, 2), (174, .iadd, 1), (175, .iload 6, 2), (177, .iadd, 1), (178, .aload_n 0, 1), (179, .getfield 19, 3), (182, .iload 6, 2), (184, .iaload, 1), (185, .iastore, 1), (186, .iinc 6 1, 3), (189, .goto (-32), 3), (192, .iconst 1, 1), (193, .ireturn, 1)]
theorem D_m_copy : ∀ q ∈ T_m_copy, decode cX9_copy q.1 = .ok q.2 := by decide +kernel
def T_m_type : List (Nat × Instr × Nat) := [(0, .iload_n 1, 1), (1, .i2l, 1), (2, .lconst 0, 1), (3, .ldc2_w 99, 3), (6, .invokestatic 70, 3), (9, .ifCond .ne 6, 3), (12, .bipush (-2), 2), (14, .ireturn, 1), (15, .aload_n 0, 1), (16, .getfield 101, 3), (19, .bipush 79, 2), (21, .if_icmp .ne 6, 3), (24, .bipush (-4), 2), (26, .ireturn, 1), (27, .aload_n 0, 1), (28, .getfield 22, 3), (31, .aload_n 0, 1), (32, .getfield 101, 3), (35, .iload_n 1, 1), (36, .iastore, 1), (37, .aload_n 0, 1), (38, .dup, 1), (39, .getfield 101, 3), (42, .iconst 1, 1), (43, .iadd, 1), (44, .putfield 101, 3), (47, .aload_n 0, 1), (48, .getfield 101, 3), (51, .ireturn, 1)]
theorem D_m_type : ∀ q ∈ T_m_type, decode cX9_type q.1 = .ok q.2 := by decide +kernel
def T_m_wipe : List (Nat × Instr × Nat) := [(0, .aload_n 0, 1), (1, .getfield 101, 3), (4, .istore_n 1, 1), (5, .aload_n 0, 1), (6, .iconst 0, 1), (7, .putfield 101, 3), (10, .iload_n 1, 1), (11, .ireturn, 1)]
theorem D_m_wipe : ∀ q ∈ T_m_wipe, decode cX9_wipe q.1 = .ok q.2 := by decide +kernel
def T_m_readsPipe : List (Nat × Instr × Nat) := [(0, .aload_n 0, 1), (1, .getfield 104, 3), (4, .bipush 16, 2), (6, .if_icmp .ne 5, 3), (9, .iconst 0, 1), (10, .ireturn, 1), (11, .iconst 0, 1), (12, .istore_n 1, 1), (13, .iload_n 1, 1), (14, .iconst 4, 1), (15, .if_icmp .ge 135, 3), (18, .aload_n 0, 1), (19, .getfield 107, 3), (22, .aload_n 0, 1), (23, .getfield 101, 3), (26, .if_icmp .ge 28, 3), (29, .aload_n 0, 1), (30, .getfield 22, 3), (33, .aload_n 0, 1), (34, .getfield 107, 3), (37, .iaload, 1), (38, .iload_n 1, 1), (39, .iconst 2, 1), (40, .if_icmp .ge 8, 3), (43, .bipush 97, 2), (45, .goto 5, 3), (48, .bipush 48, 2), (50, .isub, 1), (51, .goto 4, 3), (54, .iconst (-1), 1), (55, .istore_n 2, 1), (56, .iload_n 2, 1), (57, .i2l, 1), (58, .iload_n 1, 1), (59, .iconst 2, 1), (60, .if_icmp .ne 7, 3), (63, .lconst 1, 1), (64, .goto 4, 3), (67, .lconst 0, 1), (68, .iload_n 1, 1), (69, .iconst 2, 1), (70, .if_icmp .ge 9, 3), (73, .ldc2_w 110, 3), (76, .goto 6, 3), (79, .ldc2_w 112, 3), (82, .invokestatic 70, 3), (85, .ifCond .eq 27, 3), (88, .iload_n 1, 1), (89, .iconst 1, 1), (90, .if_icmp .ne 18, 3), (93, .iload_n 2, 1), (94, .aload_n 0, 1), (95, .getfield 25, 3), (98, .iconst 4, 1), (99, .aload_n 0, 1), (100, .getfield 104, 3), (103, .imul, 1), (104, .iaload, 1), (105, .if_icmp .eq 7, 3), (108, .iconst 1, 1), (109, .goto 4, 3), (112, .iconst 0, 1), (113, .istore_n 3, 1), (114, .iload_n 3, 1), (115, .ifCond .ne 5, 3), (118, .iconst 0, 1), (119, .ireturn, 1), (120, .aload_n 0, 1), (121, .getfield 25, 3), (124, .iconst 4, 1), (125, .aload_n 0, 1), (126, .getfield 104, 3), (129, .imul, 1), (130, .iload_n 1, 1), (131, .iadd, 1), (132, .iload_n 2, 1), (133, .iastore, 1), (134, .aload_n 0, 1), (135, .dup, 1), (136, .getfield 107, 3), (139, .iconst 1, 1), (140, .iadd, 1), (141, .putfield 107, 3), (144, .iinc 1 1, 3), (147, .goto (-134), 3), (150, .aload_n 0, 1), (151, .dup, 1), (152, .getfield 104, 3), (155, .iconst 1, 1), (156, .iadd, 1), (157, .putfield 104, 3), (160, .iconst 1, 1), (161, .ireturn, 1)]
theorem D_m_readsPipe : ∀ q ∈ T_m_readsPipe, decode cX9_readsPipe q.1 = .ok q.2 := by decide +kernel
def T_m_reads : List (Nat × Instr × Nat) := [(0, .aload_n 0, 1), (1, .iconst 0, 1), (2, .putfield 107, 3), (5, .aload_n 0, 1), (6, .iconst 0, 1), (7, .putfield 104, 3), (10, .aload_n 0, 1), (11, .getfield 101, 3), (14, .ifCond .le 7, 3), (17, .iconst 1, 1), (18, .goto 4, 3), (21, .iconst 0, 1), (22, .istore_n 1, 1), (23, .iload_n 1, 1), (24, .ifCond .eq 82, 3), (27, .aload_n 0, 1), (28, .invokevirtual 114, 3), (31, .istore_n 2, 1), (32, .iload_n 2, 1), (33, .ifCond .eq 18, 3), (36, .aload_n 0, 1), (37, .getfield 107, 3), (40, .aload_n 0, 1), (41, .getfield 101, 3), (44, .if_icmp .ge 7, 3), (47, .iconst 1, 1), (48, .goto 4, 3), (51, .iconst 0, 1), (52, .istore_n 1, 1), (53, .iload_n 2, 1), (54, .ifCond .eq 21, 3), (57, .iload_n 1, 1), (58, .ifCond .eq 27, 3), (61, .aload_n 0, 1), (62, .getfield 22, 3), (65, .aload_n 0, 1), (66, .getfield 107, 3), (69, .iaload, 1), (70, .bipush 59, 2), (72, .if_icmp .eq 13, 3), (75, .aload_n 0, 1), (76, .iconst 0, 1), (77, .putfield 104, 3), (80, .aload_n 0, 1), (81, .getfield 107, 3), (84, .ireturn, 1), (85, .aload_n 0, 1), (86, .dup, 1), (87, .getfield 107, 3), (90, .iload_n 1, 1), (91, .ifCond .eq 7, 3), (94, .iconst 1, 1), (95, .goto 4, 3), (98, .iconst 0, 1), (99, .iadd, 1), (100, .putfield 107, 3), (103, .goto (-80), 3), (106, .iconst (-1), 1), (107, .ireturn, 1)]
theorem D_m_reads : ∀ q ∈ T_m_reads, decode cX9_reads q.1 = .ok q.2 := by decide +kernel
def T_m_fault : List (Nat × Instr × Nat) := [(0, .aload_n 0, 1), (1, .invokevirtual 118, 3), (4, .ireturn, 1)]
theorem D_m_fault : ∀ q ∈ T_m_fault, decode cX9_fault q.1 = .ok q.2 := by decide +kernel
def T_m_undo : List (Nat × Instr × Nat) := [(0, .aload_n 0, 1), (1, .invokevirtual 118, 3), (4, .pop, 1), (5, .aload_n 0, 1), (6, .getfield 104, 3), (9, .ifCond .ne 6, 3), (12, .bipush (-3), 2), (14, .ireturn, 1), (15, .aload_n 0, 1), (16, .dup, 1), (17, .getfield 101, 3), (20, .aload_n 0, 1), (21, .getfield 104, 3), (24, .iconst 1, 1), (25, .if_icmp .ne 7, 3), (28, .iconst 4, 1), (29, .goto 4, 3), (32, .iconst 5, 1), (33, .isub, 1), (34, .putfield 101, 3), (37, .aload_n 0, 1), (38, .getfield 104, 3), (41, .iconst 1, 1), (42, .isub, 1), (43, .ireturn, 1)]
theorem D_m_undo : ∀ q ∈ T_m_undo, decode cX9_undo q.1 = .ok q.2 := by decide +kernel
def T_m_set : List (Nat × Instr × Nat) := [(0, .iload_n 1, 1), (1, .i2l, 1), (2, .lconst 0, 1), (3, .ldc2_w 84, 3), (6, .invokestatic 70, 3), (9, .ifCond .eq 44, 3), (12, .iload_n 2, 1), (13, .i2l, 1), (14, .iload_n 1, 1), (15, .ifCond .ne 7, 3), (18, .lconst 0, 1), (19, .goto 4, 3), (22, .lconst 1, 1), (23, .iload_n 1, 1), (24, .ifCond .ne 9, 3), (27, .ldc2_w 122, 3), (30, .goto 17, 3), (33, .iload_n 1, 1), (34, .iconst 1, 1), (35, .if_icmp .ne 9, 3), (38, .ldc2_w 124, 3), (41, .goto 6, 3), (44, .ldc2_w 126, 3), (47, .invokestatic 70, 3), (50, .ifCond .ne 6, 3), (53, .bipush (-2), 2), (55, .ireturn, 1), (56, .aload_n 0, 1), (57, .getfield 28, 3), (60, .iload_n 1, 1), (61, .iaload, 1), (62, .istore_n 3, 1), (63, .aload_n 0, 1), (64, .getfield 28, 3), (67, .iload_n 1, 1), (68, .iload_n 2, 1), (69, .iastore, 1), (70, .iload_n 3, 1), (71, .ireturn, 1)]
theorem D_m_set : ∀ q ∈ T_m_set, decode cX9_set q.1 = .ok q.2 := by decide +kernel
def T_m_isEnd : List (Nat × Instr × Nat) := [(0, .iload_n 0, 1), (1, .i2l, 1), (2, .lconst 0, 1), (3, .ldc2_w 110, 3), (6, .invokestatic 70, 3), (9, .ireturn, 1)]
theorem D_m_isEnd : ∀ q ∈ T_m_isEnd, decode cX9_isEnd q.1 = .ok q.2 := by decide +kernel
def T_m_isWire : List (Nat × Instr × Nat) := [(0, .iload_n 0, 1), (1, .i2l, 1), (2, .lconst 0, 1), (3, .ldc2_w 128, 3), (6, .invokestatic 70, 3), (9, .ireturn, 1)]
theorem D_m_isWire : ∀ q ∈ T_m_isWire, decode cX9_isWire q.1 = .ok q.2 := by decide +kernel
def T_m_areEnds : List (Nat × Instr × Nat) := [(0, .iload_n 0, 1), (1, .invokestatic 130, 3), (4, .ifCond .eq 19, 3), (7, .iload_n 1, 1), (8, .invokestatic 130, 3), (11, .ifCond .eq 12, 3), (14, .iload_n 0, 1), (15, .iload_n 1, 1), (16, .if_icmp .eq 7, 3), (19, .iconst 1, 1), (20, .goto 4, 3), (23, .iconst 0, 1), (24, .ireturn, 1)]
theorem D_m_areEnds : ∀ q ∈ T_m_areEnds, decode cX9_areEnds q.1 = .ok q.2 := by decide +kernel
def T_m_more : List (Nat × Instr × Nat) := [(0, .aload_n 0, 1), (1, .getfield 133, 3), (4, .bipush 16, 2), (6, .if_icmp .ne 6, 3), (9, .bipush (-4), 2), (11, .ireturn, 1), (12, .aload_n 0, 1), (13, .getfield 31, 3), (16, .iconst 2, 1), (17, .aload_n 0, 1), (18, .getfield 133, 3), (21, .imul, 1), (22, .iload_n 1, 1), (23, .iastore, 1), (24, .aload_n 0, 1), (25, .getfield 31, 3), (28, .iconst 2, 1), (29, .aload_n 0, 1), (30, .getfield 133, 3), (33, .imul, 1), (34, .iconst 1, 1), (35, .iadd, 1), (36, .iload_n 2, 1), (37, .iastore, 1), (38, .aload_n 0, 1), (39, .dup, 1), (40, .getfield 133, 3), (43, .iconst 1, 1), (44, .iadd, 1), (45, .putfield 133, 3), (48, .aload_n 0, 1), (49, .getfield 133, 3), (52, .ireturn, 1)]
theorem D_m_more : ∀ q ∈ T_m_more, decode cX9_more q.1 = .ok q.2 := by decide +kernel
def T_m_letIn : List (Nat × Instr × Nat) := [(0, .iload_n 1, 1), (1, .iload_n 2, 1), (2, .invokestatic 136, 3), (5, .ifCond .eq 12, 3), (8, .aload_n 0, 1), (9, .iload_n 1, 1), (10, .iload_n 2, 1), (11, .invokevirtual 140, 3), (14, .goto 5, 3), (17, .bipush (-2), 2), (19, .ireturn, 1)]
theorem D_m_letIn : ∀ q ∈ T_m_letIn, decode cX9_letIn q.1 = .ok q.2 := by decide +kernel
def T_m_pull : List (Nat × Instr × Nat) := [(0, .iload_n 1, 1), (1, .invokestatic 143, 3), (4, .ifCond .eq 12, 3), (7, .aload_n 0, 1), (8, .iconst (-1), 1), (9, .iload_n 1, 1), (10, .invokevirtual 140, 3), (13, .goto 5, 3), (16, .bipush (-2), 2), (18, .ireturn, 1)]
theorem D_m_pull : ∀ q ∈ T_m_pull, decode cX9_pull q.1 = .ok q.2 := by decide +kernel
def T_m_back : List (Nat × Instr × Nat) := [(0, .aload_n 0, 1), (1, .getfield 133, 3), (4, .ifCond .ne 6, 3), (7, .bipush (-3), 2), (9, .ireturn, 1), (10, .aload_n 0, 1), (11, .dup, 1), (12, .getfield 133, 3), (15, .iconst 1, 1), (16, .isub, 1), (17, .putfield 133, 3), (20, .aload_n 0, 1), (21, .getfield 133, 3), (24, .ireturn, 1)]
theorem D_m_back : ∀ q ∈ T_m_back, decode cX9_back q.1 = .ok q.2 := by decide +kernel
def T_m_read : List (Nat × Instr × Nat) := [(0, .iload_n 1, 1), (1, .invokestatic 80, 3), (4, .ifCond .ne 6, 3), (7, .bipush (-2), 2), (9, .ireturn, 1), (10, .aload_n 0, 1), (11, .getfield 7, 3), (14, .iload_n 1, 1), (15, .iaload, 1), (16, .ifCond .ge 9, 3), (19, .aload_n 0, 1), (20, .iconst 1, 1), (21, .invokevirtual 86, 3), (24, .ireturn, 1), (25, .iconst 0, 1), (26, .istore_n 2, 1), (27, .iconst 1, 1), (28, .istore_n 3, 1), (29, .iload_n 3, 1), (30, .ifCond .eq 73, 3), (33, .iconst 2, 1), (34, .iload_n 2, 1), (35, .imul, 1), (36, .iconst 2, 1), (37, .iadd, 1), (38, .aload_n 0, 1), (39, .getfield 13, 3), (42, .iload_n 1, 1), (43, .iaload, 1), (44, .if_icmp .gt 59, 3), (47, .aload_n 0, 1), (48, .aload_n 0, 1), (49, .getfield 16, 3), (52, .bipush 60, 2), (54, .iload_n 1, 1), (55, .imul, 1), (56, .iconst 2, 1), (57, .iload_n 2, 1), (58, .imul, 1), (59, .iadd, 1), (60, .iaload, 1), (61, .aload_n 0, 1), (62, .getfield 16, 3), (65, .bipush 60, 2), (67, .iload_n 1, 1), (68, .imul, 1), (69, .iconst 2, 1), (70, .iload_n 2, 1), (71, .imul, 1), (72, .iadd, 1), (73, .iconst 1, 1), (74, .iadd, 1), (75, .iaload, 1), (76, .invokevirtual 146, 3), (79, .ifCond .lt 7, 3), (82, .iconst 1, 1), (83, .goto 4, 3), (86, .iconst 0, 1), (87, .istore_n 3, 1), (88, .iload_n 2, 1), (89, .iload_n 3, 1), (90, .ifCond .eq 7, 3), (93, .iconst 1, 1), (94, .goto 4, 3), (97, .iconst 0, 1), (98, .iadd, 1), (99, .istore_n 2, 1), (100, .goto (-71), 3), (103, .iload_n 2, 1), (104, .ireturn, 1)]
theorem D_m_read : ∀ q ∈ T_m_read, decode cX9_read q.1 = .ok q.2 := by decide +kernel
def T_m_other : List (Nat × Instr × Nat) := [(0, .aload_n 0, 1), (1, .getfield 25, 3), (4, .iconst 4, 1), (5, .iload_n 1, 1), (6, .imul, 1), (7, .iaload, 1), (8, .iload_n 2, 1), (9, .if_icmp .ne 16, 3), (12, .aload_n 0, 1), (13, .getfield 25, 3), (16, .iconst 4, 1), (17, .iload_n 1, 1), (18, .imul, 1), (19, .iconst 1, 1), (20, .iadd, 1), (21, .iaload, 1), (22, .goto 29, 3), (25, .aload_n 0, 1), (26, .getfield 25, 3), (29, .iconst 4, 1), (30, .iload_n 1, 1), (31, .imul, 1), (32, .iconst 1, 1), (33, .iadd, 1), (34, .iaload, 1), (35, .iload_n 2, 1), (36, .if_icmp .ne 14, 3), (39, .aload_n 0, 1), (40, .getfield 25, 3), (43, .iconst 4, 1), (44, .iload_n 1, 1), (45, .imul, 1), (46, .iaload, 1), (47, .goto 4, 3), (50, .iconst (-1), 1), (51, .ireturn, 1)]
theorem D_m_other : ∀ q ∈ T_m_other, decode cX9_other q.1 = .ok q.2 := by decide +kernel
def T_m_isOpen : List (Nat × Instr × Nat) := [(0, .aload_n 0, 1), (1, .getfield 28, 3), (4, .iconst 0, 1), (5, .iaload, 1), (6, .iload_n 1, 1), (7, .invokestatic 149, 3), (10, .ifCond .ne 22, 3), (13, .aload_n 0, 1), (14, .getfield 37, 3), (17, .iload_n 1, 1), (18, .iaload, 1), (19, .aload_n 0, 1), (20, .getfield 28, 3), (23, .iconst 1, 1), (24, .iaload, 1), (25, .if_icmp .ge 7, 3), (28, .iconst 1, 1), (29, .goto 4, 3), (32, .iconst 0, 1), (33, .ireturn, 1)]
theorem D_m_isOpen : ∀ q ∈ T_m_isOpen, decode cX9_isOpen q.1 = .ok q.2 := by decide +kernel
def T_m_findFar : List (Nat × Instr × Nat) := [(0, .iconst 0, 1), (1, .istore_n 2, 1), (2, .iload_n 2, 1), (3, .bipush 8, 2), (5, .if_icmp .ge 27, 3), (8, .aload_n 0, 1), (9, .getfield 40, 3), (12, .iload_n 2, 1), (13, .iload_n 2, 1), (14, .iload_n 1, 1), (15, .if_icmp .ne 7, 3), (18, .iconst 0, 1), (19, .goto 6, 3), (22, .sipush 10000, 3), (25, .iastore, 1), (26, .iinc 2 1, 3), (29, .goto (-27), 3), (32, .iconst 0, 1), (33, .istore_n 2, 1), (34, .iload_n 2, 1), (35, .bipush 8, 2), (37, .if_icmp .ge 161, 3), (40, .iconst 0, 1), (41, .istore_n 3, 1), (42, .iload_n 3, 1), (43, .aload_n 0, 1), (44, .getfield 104, 3), (47, .if_icmp .ge 145, 3), (50, .aload_n 0, 1), (51, .getfield 25, 3), (54, .iconst 4, 1), (55, .iload_n 3, 1), (56, .imul, 1), (57, .iaload, 1), (58, .istore 4, 2), (60, .aload_n 0, 1), (61, .getfield 25, 3), (64, .iconst 4, 1), (65, .iload_n 3, 1), (66, .imul, 1), (67, .iconst 1, 1), (68, .iadd, 1), (69, .iaload, 1), (70, .istore 5, 2), (72, .aload_n 0, 1), (73, .getfield 25, 3), (76, .iconst 4, 1), (77, .iload_n 3, 1), (78, .imul, 1), (79, .iconst 2, 1), (80, .iadd, 1), (81, .iaload, 1), (82, .istore 6, 2), (84, .aload_n 0, 1), (85, .iload_n 3, 1), (86, .invokevirtual 152, 3), (89, .ifCond .eq 97, 3), (92, .aload_n 0, 1), (93, .getfield 40, 3), (96, .iload 4, 2), (98, .aload_n 0, 1), (99, .getfield 40, 3), (102, .iload 5, 2), (104, .iaload, 1), (105, .iload 6, 2), (107, .iadd, 1), (108, .aload_n 0, 1), (109, .getfield 40, 3), (112, .iload 4, 2), (114, .iaload, 1), (115, .if_icmp .ge 16, 3), (118, .aload_n 0, 1), (119, .getfield 40, 3), (122, .iload 5, 2), (124, .iaload, 1), (125, .iload 6, 2), (127, .iadd, 1), (128, .goto 10, 3), (131, .aload_n 0, 1), (132, .getfield 40, 3), (135, .iload 4, 2), (137, .iaload, 1), (138, .iastore, 1), (139, .aload_n 0, 1), (140, .getfield 40, 3), (143, .iload 5, 2), (145, .aload_n 0, 1), (146, .getfield 40, 3), (149, .iload 4, 2), (151, .iaload, 1), (152, .iload 6, 2), (154, .iadd, 1), (155, .aload_n 0, 1), (156, .getfield 40, 3), (159, .iload 5, 2), (161, .iaload, 1), (162, .if_icmp .ge 16, 3), (165, .aload_n 0, 1), (166, .getfield 40, 3), (169, .iload 4, 2), (171, .iaload, 1), (172, .iload 6, 2), (174, .iadd, 1), (175, .goto 10, 3), (178, .aload_n 0, 1), (179, .getfield 40, 3), (182, .iload 5, 2), (184, .iaload, 1), (185, .iastore, 1), (186, .iinc 3 1, 3), (189, .goto (-147), 3), (192, .iinc 2 1, 3), (195, .goto (-161), 3), (198, .return_, 1)]
theorem D_m_findFar : ∀ q ∈ T_m_findFar, decode cX9_findFar q.1 = .ok q.2 := by decide +kernel
def T_m_findWay : List (Nat × Instr × Nat) := [(0, .aload_n 0, 1), (1, .iload_n 2, 1), (2, .invokevirtual 155, 3), (5, .aload_n 0, 1), (6, .getfield 40, 3), (9, .iload_n 1, 1), (10, .iaload, 1), (11, .sipush 10000, 3), (14, .if_icmp .lt 5, 3), (17, .iconst (-1), 1), (18, .ireturn, 1), (19, .iconst 0, 1), (20, .istore_n 3, 1), (21, .iload_n 1, 1), (22, .istore 4, 2), (24, .iload 4, 2), (26, .iload_n 2, 1), (27, .if_icmp .eq 112, 3), (30, .iconst (-1), 1), (31, .istore 5, 2), (33, .aload_n 0, 1), (34, .getfield 104, 3), (37, .iconst 1, 1), (38, .isub, 1), (39, .istore 6, 2), (41, .iload 6, 2), (43, .ifCond .lt 72, 3), (46, .aload_n 0, 1), (47, .iload 6, 2), (49, .iload 4, 2), (51, .invokevirtual 159, 3), (54, .istore 7, 2), (56, .iload 7, 2), (58, .iconst (-1), 1), (59, .if_icmp .eq 46, 3), (62, .aload_n 0, 1), (63, .iload 6, 2), (65, .invokevirtual 152, 3), (68, .ifCond .eq 37, 3), (71, .aload_n 0, 1), (72, .getfield 40, 3), (75, .iload 7, 2), (77, .iaload, 1), (78, .aload_n 0, 1), (79, .getfield 25, 3), (82, .iconst 4, 1), (83, .iload 6, 2), (85, .imul, 1), (86, .iconst 2, 1), (87, .iadd, 1), (88, .iaload, 1), (89, .iadd, 1), (90, .aload_n 0, 1), (91, .getfield 40, 3), (94, .iload 4, 2), (96, .iaload, 1), (97, .if_icmp .ne 8, 3), (100, .iload 6, 2), (102, .goto 5, 3), (105, .iload 5, 2), (107, .istore 5, 2), (109, .iinc 6 (-1), 3), (112, .goto (-71), 3), (115, .aload_n 0, 1), (116, .getfield 43, 3), (119, .iload_n 3, 1), (120, .iload 5, 2), (122, .iastore, 1), (123, .iinc 3 1, 3), (126, .aload_n 0, 1), (127, .iload 5, 2), (129, .iload 4, 2), (131, .invokevirtual 159, 3), (134, .istore 4, 2), (136, .goto (-112), 3), (139, .iload_n 3, 1), (140, .ireturn, 1)]
theorem D_m_findWay : ∀ q ∈ T_m_findWay, decode cX9_findWay q.1 = .ok q.2 := by decide +kernel
def T_m_draws : List (Nat × Instr × Nat) := [(0, .aload_n 0, 1), (1, .iload_n 1, 1), (2, .iload_n 2, 1), (3, .invokevirtual 162, 3), (6, .istore_n 3, 1), (7, .iconst 0, 1), (8, .istore 4, 2), (10, .iconst 0, 1), (11, .istore 5, 2), (13, .iload 5, 2), (15, .iload_n 3, 1), (16, .if_icmp .ge 39, 3), (19, .aload_n 0, 1), (20, .getfield 37, 3), (23, .aload_n 0, 1), (24, .getfield 43, 3), (27, .iload 5, 2), (29, .iaload, 1), (30, .dup2, 1), (31, .iaload, 1), (32, .iconst 1, 1), (33, .iadd, 1), (34, .iastore, 1), (35, .iload 4, 2), (37, .iconst 1, 1), (38, .aload_n 0, 1), (39, .getfield 43, 3), (42, .iload 5, 2), (44, .iaload, 1), (45, .ishl, 1), (46, .ior, 1), (47, .istore 4, 2), (49, .iinc 5 1, 3), (52, .goto (-39), 3), (55, .iload 4, 2), (57, .ireturn, 1)]
theorem D_m_draws : ∀ q ∈ T_m_draws, decode cX9_draws q.1 = .ok q.2 := by decide +kernel
def T_m_canPull : List (Nat × Instr × Nat) := [(0, .aload_n 0, 1), (1, .getfield 165, 3), (4, .iload_n 1, 1), (5, .invokestatic 149, 3), (8, .istore_n 2, 1), (9, .iload_n 1, 1), (10, .iconst 1, 1), (11, .iadd, 1), (12, .istore_n 3, 1), (13, .iload_n 3, 1), (14, .bipush 16, 2), (16, .if_icmp .ge 46, 3), (19, .iload_n 2, 1), (20, .ifCond .eq 42, 3), (23, .aload_n 0, 1), (24, .getfield 165, 3), (27, .iload_n 3, 1), (28, .invokestatic 149, 3), (31, .ifCond .eq 19, 3), (34, .aload_n 0, 1), (35, .getfield 34, 3), (38, .iload_n 3, 1), (39, .iaload, 1), (40, .aload_n 0, 1), (41, .getfield 34, 3), (44, .iload_n 1, 1), (45, .iaload, 1), (46, .iand, 1), (47, .ifCond .ne 7, 3), (50, .iconst 1, 1), (51, .goto 4, 3), (54, .iconst 0, 1), (55, .istore_n 2, 1), (56, .iinc 3 1, 3), (59, .goto (-46), 3), (62, .iload_n 2, 1), (63, .ireturn, 1)]
theorem D_m_canPull : ∀ q ∈ T_m_canPull, decode cX9_canPull q.1 = .ok q.2 := by decide +kernel
def T_m_pulls : List (Nat × Instr × Nat) := [(0, .aload_n 0, 1), (1, .dup, 1), (2, .getfield 165, 3), (5, .iconst 1, 1), (6, .iload_n 1, 1), (7, .ishl, 1), (8, .iconst (-1), 1), (9, .ixor, 1), (10, .iand, 1), (11, .putfield 165, 3), (14, .iconst 0, 1), (15, .istore_n 2, 1), (16, .iload_n 2, 1), (17, .bipush 16, 2), (19, .if_icmp .ge 36, 3), (22, .aload_n 0, 1), (23, .getfield 37, 3), (26, .iload_n 2, 1), (27, .dup2, 1), (28, .iaload, 1), (29, .aload_n 0, 1), (30, .getfield 34, 3), (33, .iload_n 1, 1), (34, .iaload, 1), (35, .iload_n 2, 1), (36, .invokestatic 149, 3), (39, .ifCond .eq 7, 3), (42, .iconst 1, 1), (43, .goto 4, 3), (46, .iconst 0, 1), (47, .isub, 1), (48, .iastore, 1), (49, .iinc 2 1, 3), (52, .goto (-36), 3), (55, .return_, 1)]
theorem D_m_pulls : ∀ q ∈ T_m_pulls, decode cX9_pulls q.1 = .ok q.2 := by decide +kernel
def T_m_goes : List (Nat × Instr × Nat) := [(0, .aload_n 0, 1), (1, .invokevirtual 118, 3), (4, .pop, 1), (5, .aload_n 0, 1), (6, .iconst 0, 1), (7, .putfield 165, 3), (10, .aload_n 0, 1), (11, .iconst 0, 1), (12, .putfield 168, 3), (15, .aload_n 0, 1), (16, .iconst (-1), 1), (17, .putfield 171, 3), (20, .iconst 0, 1), (21, .istore_n 2, 1), (22, .iload_n 2, 1), (23, .bipush 16, 2), (25, .if_icmp .ge 23, 3), (28, .aload_n 0, 1), (29, .getfield 34, 3), (32, .iload_n 2, 1), (33, .iconst 0, 1), (34, .iastore, 1), (35, .aload_n 0, 1), (36, .getfield 37, 3), (39, .iload_n 2, 1), (40, .iconst 0, 1), (41, .iastore, 1), (42, .iinc 2 1, 3), (45, .goto (-23), 3), (48, .iconst 0, 1), (49, .istore_n 2, 1), (50, .iload_n 2, 1), (51, .iload_n 1, 1), (52, .if_icmp .ge 164, 3), (55, .iconst 0, 1), (56, .istore_n 3, 1), (57, .aload_n 0, 1), (58, .getfield 31, 3), (61, .iconst 2, 1), (62, .iload_n 2, 1), (63, .imul, 1), (64, .iaload, 1), (65, .iconst (-1), 1), (66, .if_icmp .eq 69, 3), (69, .aload_n 0, 1), (70, .getfield 34, 3), (73, .iload_n 2, 1), (74, .aload_n 0, 1), (75, .aload_n 0, 1), (76, .getfield 31, 3), (79, .iconst 2, 1), (80, .iload_n 2, 1), (81, .imul, 1), (82, .iaload, 1), (83, .aload_n 0, 1), (84, .getfield 31, 3), (87, .iconst 2, 1), (88, .iload_n 2, 1), (89, .imul, 1), (90, .iconst 1, 1), (91, .iadd, 1), (92, .iaload, 1), (93, .invokevirtual 174, 3), (96, .iastore, 1), (97, .aload_n 0, 1), (98, .getfield 34, 3), (101, .iload_n 2, 1), (102, .iaload, 1), (103, .ifCond .eq 7, 3), (106, .iconst 1, 1), (107, .goto 4, 3), (110, .iconst 0, 1), (111, .istore_n 3, 1), (112, .aload_n 0, 1), (113, .dup, 1), (114, .getfield 165, 3), (117, .iload_n 3, 1), (118, .ifCond .eq 9, 3), (121, .iconst 1, 1), (122, .iload_n 2, 1), (123, .ishl, 1), (124, .goto 4, 3), (127, .iconst 0, 1), (128, .ior, 1), (129, .putfield 165, 3), (132, .goto 36, 3), (135, .aload_n 0, 1), (136, .aload_n 0, 1), (137, .getfield 31, 3), (140, .iconst 2, 1), (141, .iload_n 2, 1), (142, .imul, 1), (143, .iconst 1, 1), (144, .iadd, 1), (145, .iaload, 1), (146, .invokevirtual 177, 3), (149, .ifCond .eq 19, 3), (152, .aload_n 0, 1), (153, .aload_n 0, 1), (154, .getfield 31, 3), (157, .iconst 2, 1), (158, .iload_n 2, 1), (159, .imul, 1), (160, .iconst 1, 1), (161, .iadd, 1), (162, .iaload, 1), (163, .invokevirtual 180, 3), (166, .iconst 1, 1), (167, .istore_n 3, 1), (168, .aload_n 0, 1), (169, .dup, 1), (170, .getfield 168, 3), (173, .iload_n 3, 1), (174, .ifCond .eq 7, 3), (177, .iconst 1, 1), (178, .goto 4, 3), (181, .iconst 0, 1), (182, .iadd, 1), (183, .putfield 168, 3), (186, .aload_n 0, 1), (187, .iload_n 3, 1), (188, .ifCond .ne 15, 3), (191, .aload_n 0, 1), (192, .getfield 171, 3), (195, .iconst (-1), 1), (196, .if_icmp .ne 7, 3), (199, .iload_n 2, 1), (200, .goto 7, 3), (203, .aload_n 0, 1), (204, .getfield 171, 3), (207, .putfield 171, 3), (210, .iinc 2 1, 3), (213, .goto (-163), 3), (216, .return_, 1)]
theorem D_m_goes : ∀ q ∈ T_m_goes, decode cX9_goes q.1 = .ok q.2 := by decide +kernel
def T_m_goesAll : List (Nat × Instr × Nat) := [(0, .aload_n 0, 1), (1, .aload_n 0, 1), (2, .getfield 133, 3), (5, .invokevirtual 183, 3), (8, .return_, 1)]
theorem D_m_goesAll : ∀ q ∈ T_m_goesAll, decode cX9_goesAll q.1 = .ok q.2 := by decide +kernel
def T_m_pipe : List (Nat × Instr × Nat) := [(0, .aload_n 0, 1), (1, .invokevirtual 186, 3), (4, .iload_n 1, 1), (5, .i2l, 1), (6, .lconst 0, 1), (7, .aload_n 0, 1), (8, .getfield 104, 3), (11, .iconst 1, 1), (12, .isub, 1), (13, .i2l, 1), (14, .invokestatic 70, 3), (17, .ifCond .eq 15, 3), (20, .iload_n 2, 1), (21, .i2l, 1), (22, .lconst 0, 1), (23, .ldc2_w 124, 3), (26, .invokestatic 70, 3), (29, .ifCond .ne 8, 3), (32, .bipush (-2), 2), (34, .goto 27, 3), (37, .iload_n 2, 1), (38, .iconst 4, 1), (39, .if_icmp .ne 12, 3), (42, .aload_n 0, 1), (43, .getfield 37, 3), (46, .iload_n 1, 1), (47, .iaload, 1), (48, .goto 13, 3), (51, .aload_n 0, 1), (52, .getfield 25, 3), (55, .iconst 4, 1), (56, .iload_n 1, 1), (57, .imul, 1), (58, .iload_n 2, 1), (59, .iadd, 1), (60, .iaload, 1), (61, .ireturn, 1)]
theorem D_m_pipe : ∀ q ∈ T_m_pipe, decode cX9_pipe q.1 = .ok q.2 := by decide +kernel
def T_m_judged : List (Nat × Instr × Nat) := [(0, .aload_n 0, 1), (1, .invokevirtual 186, 3), (4, .aload_n 0, 1), (5, .getfield 171, 3), (8, .ireturn, 1)]
theorem D_m_judged : ∀ q ∈ T_m_judged, decode cX9_judged q.1 = .ok q.2 := by decide +kernel
def T_m_fullNow : List (Nat × Instr × Nat) := [(0, .iconst 0, 1), (1, .istore_n 1, 1), (2, .iconst 0, 1), (3, .istore_n 2, 1), (4, .iload_n 2, 1), (5, .aload_n 0, 1), (6, .getfield 104, 3), (9, .if_icmp .ge 34, 3), (12, .iload_n 1, 1), (13, .aload_n 0, 1), (14, .getfield 37, 3), (17, .iload_n 2, 1), (18, .iaload, 1), (19, .aload_n 0, 1), (20, .getfield 28, 3), (23, .iconst 1, 1), (24, .iaload, 1), (25, .if_icmp .lt 9, 3), (28, .iconst 1, 1), (29, .iload_n 2, 1), (30, .ishl, 1), (31, .goto 4, 3), (34, .iconst 0, 1), (35, .ior, 1), (36, .istore_n 1, 1), (37, .iinc 2 1, 3), (40, .goto (-36), 3), (43, .iload_n 1, 1), (44, .ireturn, 1)]
theorem D_m_fullNow : ∀ q ∈ T_m_fullNow, decode cX9_fullNow q.1 = .ok q.2 := by decide +kernel
def T_m_stateOf : List (Nat × Instr × Nat) := [(0, .aload_n 0, 1), (1, .iload_n 1, 1), (2, .invokevirtual 183, 3), (5, .iload_n 2, 1), (6, .ifCond .ne 10, 3), (9, .aload_n 0, 1), (10, .getfield 165, 3), (13, .goto 7, 3), (16, .aload_n 0, 1), (17, .invokevirtual 189, 3), (20, .ireturn, 1)]
theorem D_m_stateOf : ∀ q ∈ T_m_stateOf, decode cX9_stateOf q.1 = .ok q.2 := by decide +kernel
def T_m_state : List (Nat × Instr × Nat) := [(0, .iload_n 1, 1), (1, .i2l, 1), (2, .lconst 0, 1), (3, .aload_n 0, 1), (4, .getfield 133, 3), (7, .i2l, 1), (8, .invokestatic 70, 3), (11, .ifCond .eq 19, 3), (14, .iload_n 2, 1), (15, .invokestatic 192, 3), (18, .ifCond .eq 12, 3), (21, .aload_n 0, 1), (22, .iload_n 1, 1), (23, .iload_n 2, 1), (24, .invokevirtual 195, 3), (27, .goto 5, 3), (30, .bipush (-2), 2), (32, .ireturn, 1)]
theorem D_m_state : ∀ q ∈ T_m_state, decode cX9_state q.1 = .ok q.2 := by decide +kernel
def T_m_pipesOf : List (Nat × Instr × Nat) := [(0, .aload_n 0, 1), (1, .getfield 165, 3), (4, .iload_n 1, 1), (5, .invokestatic 149, 3), (8, .ifCond .eq 12, 3), (11, .aload_n 0, 1), (12, .getfield 34, 3), (15, .iload_n 1, 1), (16, .iaload, 1), (17, .goto 4, 3), (20, .iconst 0, 1), (21, .ireturn, 1)]
theorem D_m_pipesOf : ∀ q ∈ T_m_pipesOf, decode cX9_pipesOf q.1 = .ok q.2 := by decide +kernel
def T_m_wire : List (Nat × Instr × Nat) := [(0, .iload_n 1, 1), (1, .i2l, 1), (2, .lconst 0, 1), (3, .aload_n 0, 1), (4, .getfield 133, 3), (7, .i2l, 1), (8, .invokestatic 70, 3), (11, .ifCond .eq 10, 3), (14, .iload_n 2, 1), (15, .invokestatic 143, 3), (18, .ifCond .ne 6, 3), (21, .bipush (-2), 2), (23, .ireturn, 1), (24, .aload_n 0, 1), (25, .iload_n 1, 1), (26, .invokevirtual 183, 3), (29, .aload_n 0, 1), (30, .iload_n 2, 1), (31, .invokevirtual 198, 3), (34, .ireturn, 1)]
theorem D_m_wire : ∀ q ∈ T_m_wire, decode cX9_wire q.1 = .ok q.2 := by decide +kernel
def T_m_outOf : List (Nat × Instr × Nat) := [(0, .aload_n 0, 1), (1, .getfield 165, 3), (4, .iload_n 1, 1), (5, .invokestatic 149, 3), (8, .ifCond .ne 6, 3), (11, .bipush (-3), 2), (13, .ireturn, 1), (14, .iconst 1, 1), (15, .iload_n 1, 1), (16, .ishl, 1), (17, .istore_n 2, 1), (18, .iload_n 1, 1), (19, .istore_n 3, 1), (20, .iload_n 3, 1), (21, .bipush 16, 2), (23, .if_icmp .ge 62, 3), (26, .iload_n 3, 1), (27, .iconst 1, 1), (28, .iadd, 1), (29, .istore 4, 2), (31, .iload 4, 2), (33, .bipush 16, 2), (35, .if_icmp .ge 44, 3), (38, .iload_n 2, 1), (39, .iload_n 3, 1), (40, .invokestatic 149, 3), (43, .ifCond .eq 36, 3), (46, .iload_n 2, 1), (47, .aload_n 0, 1), (48, .iload 4, 2), (50, .invokevirtual 198, 3), (53, .aload_n 0, 1), (54, .getfield 34, 3), (57, .iload_n 3, 1), (58, .iaload, 1), (59, .iand, 1), (60, .ifCond .eq 10, 3), (63, .iconst 1, 1), (64, .iload 4, 2), (66, .ishl, 1), (67, .goto 4, 3), (70, .iconst 0, 1), (71, .ior, 1), (72, .istore_n 2, 1), (73, .iinc 4 1, 3), (76, .goto (-45), 3), (79, .iinc 3 1, 3), (82, .goto (-62), 3), (85, .iload_n 2, 1), (86, .ireturn, 1)]
theorem D_m_outOf : ∀ q ∈ T_m_outOf, decode cX9_outOf q.1 = .ok q.2 := by decide +kernel
def T_m_out : List (Nat × Instr × Nat) := [(0, .aload_n 0, 1), (1, .invokevirtual 186, 3), (4, .iload_n 1, 1), (5, .invokestatic 143, 3), (8, .ifCond .eq 11, 3), (11, .aload_n 0, 1), (12, .iload_n 1, 1), (13, .invokevirtual 201, 3), (16, .goto 5, 3), (19, .bipush (-2), 2), (21, .ireturn, 1)]
theorem D_m_out : ∀ q ∈ T_m_out, decode cX9_out q.1 = .ok q.2 := by decide +kernel
def T_m_shortestOf : List (Nat × Instr × Nat) := [(0, .aload_n 0, 1), (1, .iload_n 1, 1), (2, .iload_n 2, 1), (3, .invokevirtual 162, 3), (6, .istore 4, 2), (8, .iload 4, 2), (10, .iconst (-1), 1), (11, .if_icmp .ne 7, 3), (14, .iconst (-1), 1), (15, .goto 33, 3), (18, .iload_n 3, 1), (19, .iconst (-1), 1), (20, .if_icmp .ne 12, 3), (23, .aload_n 0, 1), (24, .getfield 40, 3), (27, .iload_n 1, 1), (28, .iaload, 1), (29, .goto 19, 3), (32, .iload_n 3, 1), (33, .iload 4, 2), (35, .if_icmp .ge 12, 3), (38, .aload_n 0, 1), (39, .getfield 43, 3), (42, .iload_n 3, 1), (43, .iaload, 1), (44, .goto 4, 3), (47, .iconst (-1), 1), (48, .ireturn, 1)]
theorem D_m_shortestOf : ∀ q ∈ T_m_shortestOf, decode cX9_shortestOf q.1 = .ok q.2 := by decide +kernel
def T_m_shortest : List (Nat × Instr × Nat) := [(0, .aload_n 0, 1), (1, .invokevirtual 186, 3), (4, .iload_n 1, 1), (5, .iload_n 2, 1), (6, .invokestatic 136, 3), (9, .ifCond .eq 18, 3), (12, .iload_n 3, 1), (13, .iconst (-1), 1), (14, .if_icmp .lt 13, 3), (17, .aload_n 0, 1), (18, .iload_n 1, 1), (19, .iload_n 2, 1), (20, .iload_n 3, 1), (21, .invokevirtual 204, 3), (24, .goto 5, 3), (27, .bipush (-2), 2), (29, .ireturn, 1)]
theorem D_m_shortest : ∀ q ∈ T_m_shortest, decode cX9_shortest q.1 = .ok q.2 := by decide +kernel
def T_m_keeps : List (Nat × Instr × Nat) := [(0, .iconst 0, 1), (1, .istore_n 1, 1), (2, .iload_n 1, 1), (3, .bipush 16, 2), (5, .if_icmp .ge 21, 3), (8, .aload_n 0, 1), (9, .getfield 46, 3), (12, .iload_n 1, 1), (13, .aload_n 0, 1), (14, .getfield 37, 3), (17, .iload_n 1, 1), (18, .iaload, 1), (19, .iastore, 1), (20, .iinc 1 1, 3), (23, .goto (-21), 3), (26, .return_, 1)]
theorem D_m_keeps : ∀ q ∈ T_m_keeps, decode cX9_keeps q.1 = .ok q.2 := by decide +kernel
def T_m_putsBack : List (Nat × Instr × Nat) := [(0, .iconst 0, 1), (1, .istore_n 1, 1), (2, .iload_n 1, 1), (3, .bipush 16, 2), (5, .if_icmp .ge 21, 3), (8, .aload_n 0, 1), (9, .getfield 37, 3), (12, .iload_n 1, 1), (13, .aload_n 0, 1), (14, .getfield 46, 3), (17, .iload_n 1, 1), (18, .iaload, 1), (19, .iastore, 1), (20, .iinc 1 1, 3), (23, .goto (-21), 3), (26, .return_, 1)]
theorem D_m_putsBack : ∀ q ∈ T_m_putsBack, decode cX9_putsBack q.1 = .ok q.2 := by decide +kernel
def T_m_drawnOf : List (Nat × Instr × Nat) := [(0, .aload_n 0, 1), (1, .invokevirtual 207, 3), (4, .iconst 0, 1), (5, .istore_n 3, 1), (6, .aload_n 0, 1), (7, .iload_n 1, 1), (8, .iload_n 2, 1), (9, .invokevirtual 174, 3), (12, .ifCond .eq 9, 3), (15, .iinc 3 1, 3), (18, .goto (-12), 3), (21, .aload_n 0, 1), (22, .invokevirtual 210, 3), (25, .iload_n 3, 1), (26, .ireturn, 1)]
theorem D_m_drawnOf : ∀ q ∈ T_m_drawnOf, decode cX9_drawnOf q.1 = .ok q.2 := by decide +kernel
def T_m_flows : List (Nat × Instr × Nat) := [(0, .iconst 0, 1), (1, .istore_n 3, 1), (2, .iload_n 3, 1), (3, .bipush 8, 2), (5, .if_icmp .ge 16, 3), (8, .aload_n 0, 1), (9, .getfield 52, 3), (12, .iload_n 3, 1), (13, .iconst (-1), 1), (14, .iastore, 1), (15, .iinc 3 1, 3), (18, .goto (-16), 3), (21, .iconst 1, 1), (22, .iload_n 1, 1), (23, .ishl, 1), (24, .istore_n 3, 1), (25, .iconst 0, 1), (26, .istore 4, 2), (28, .iload_n 3, 1), (29, .iload 4, 2), (31, .if_icmp .eq 191, 3), (34, .iload_n 3, 1), (35, .istore 4, 2), (37, .iconst 0, 1), (38, .istore 5, 2), (40, .iload 5, 2), (42, .aload_n 0, 1), (43, .getfield 104, 3), (46, .if_icmp .ge 173, 3), (49, .aload_n 0, 1), (50, .getfield 28, 3), (53, .iconst 0, 1), (54, .iaload, 1), (55, .iload 5, 2), (57, .invokestatic 149, 3), (60, .ifCond .eq 7, 3), (63, .iconst 0, 1), (64, .goto 17, 3), (67, .aload_n 0, 1), (68, .getfield 28, 3), (71, .iconst 1, 1), (72, .iaload, 1), (73, .aload_n 0, 1), (74, .getfield 37, 3), (77, .iload 5, 2), (79, .iaload, 1), (80, .isub, 1), (81, .istore 6, 2), (83, .aload_n 0, 1), (84, .getfield 25, 3), (87, .iconst 4, 1), (88, .iload 5, 2), (90, .imul, 1), (91, .iaload, 1), (92, .istore 7, 2), (94, .aload_n 0, 1), (95, .getfield 25, 3), (98, .iconst 4, 1), (99, .iload 5, 2), (101, .imul, 1), (102, .iconst 1, 1), (103, .iadd, 1), (104, .iaload, 1), (105, .istore 8, 2), (107, .iload 6, 2), (109, .ifCond .le 52, 3), (112, .aload_n 0, 1), (113, .getfield 49, 3), (116, .iload 5, 2), (118, .iaload, 1), (119, .iload 6, 2), (121, .if_icmp .ge 40, 3), (124, .iload_n 3, 1), (125, .iload 7, 2), (127, .invokestatic 149, 3), (130, .ifCond .eq 31, 3), (133, .iload_n 3, 1), (134, .iload 8, 2), (136, .invokestatic 149, 3), (139, .ifCond .ne 22, 3), (142, .aload_n 0, 1), (143, .getfield 52, 3), (146, .iload 8, 2), (148, .iload 5, 2), (150, .iastore, 1), (151, .iload_n 3, 1), (152, .iconst 1, 1), (153, .iload 8, 2), (155, .ishl, 1), (156, .ior, 1), (157, .istore_n 3, 1), (158, .goto 55, 3), (161, .iload 6, 2), (163, .ifCond .le 50, 3), (166, .aload_n 0, 1), (167, .getfield 49, 3), (170, .iload 5, 2), (172, .iaload, 1), (173, .ineg, 1), (174, .iload 6, 2), (176, .if_icmp .ge 37, 3), (179, .iload_n 3, 1), (180, .iload 8, 2), (182, .invokestatic 149, 3), (185, .ifCond .eq 28, 3), (188, .iload_n 3, 1), (189, .iload 7, 2), (191, .invokestatic 149, 3), (194, .ifCond .ne 19, 3), (197, .aload_n 0, 1), (198, .getfield 52, 3), (201, .iload 7, 2), (203, .iload 5, 2), (205, .iastore, 1), (206, .iload_n 3, 1), (207, .iconst 1, 1), (208, .iload 7, 2), (210, .ishl, 1), (211, .ior, 1), (212, .istore_n 3, 1), (213, .iinc 5 1, 3), (216, .goto (-176), 3), (219, .goto (-191), 3), (222, .iload_n 3, 1), (223, .iload_n 2, 1), (224, .invokestatic 149, 3), (227, .ifCond .ne 5, 3), (230, .iconst 0, 1), (231, .ireturn, 1), (232, .iload_n 2, 1), (233, .istore 5, 2), (235, .iload 5, 2), (237, .iload_n 1, 1), (238, .if_icmp .eq 56, 3), (241, .aload_n 0, 1), (242, .getfield 52, 3), (245, .iload 5, 2), (247, .iaload, 1), (248, .istore 6, 2), (250, .aload_n 0, 1), (251, .getfield 49, 3), (254, .iload 6, 2), (256, .dup2, 1), (257, .iaload, 1), (258, .aload_n 0, 1), (259, .getfield 25, 3), (262, .iconst 4, 1), (263, .iload 6, 2), (265, .imul, 1), (266, .iconst 1, 1), (267, .iadd, 1), (268, .iaload, 1), (269, .iload 5, 2), (271, .if_icmp .ne 7, 3), (274, .iconst 1, 1), (275, .goto 4, 3), (278, .iconst (-1), 1), (279, .iadd, 1), (280, .iastore, 1), (281, .aload_n 0, 1), (282, .iload 6, 2), (284, .iload 5, 2), (286, .invokevirtual 159, 3), (289, .istore 5, 2), (291, .goto (-56), 3), (294, .iconst 1, 1), (295, .ireturn, 1)]
theorem D_m_flows : ∀ q ∈ T_m_flows, decode cX9_flows q.1 = .ok q.2 := by decide +kernel
def T_m_mostOf : List (Nat × Instr × Nat) := [(0, .iconst 0, 1), (1, .istore_n 3, 1), (2, .iload_n 3, 1), (3, .bipush 16, 2), (5, .if_icmp .ge 16, 3), (8, .aload_n 0, 1), (9, .getfield 49, 3), (12, .iload_n 3, 1), (13, .iconst 0, 1), (14, .iastore, 1), (15, .iinc 3 1, 3), (18, .goto (-16), 3), (21, .iconst 0, 1), (22, .istore_n 3, 1), (23, .aload_n 0, 1), (24, .iload_n 1, 1), (25, .iload_n 2, 1), (26, .invokevirtual 213, 3), (29, .ifCond .eq 9, 3), (32, .iinc 3 1, 3), (35, .goto (-12), 3), (38, .iload_n 3, 1), (39, .ireturn, 1)]
theorem D_m_mostOf : ∀ q ∈ T_m_mostOf, decode cX9_mostOf q.1 = .ok q.2 := by decide +kernel
def T_m_most : List (Nat × Instr × Nat) := [(0, .aload_n 0, 1), (1, .invokevirtual 186, 3), (4, .iload_n 1, 1), (5, .iload_n 2, 1), (6, .invokestatic 136, 3), (9, .ifCond .eq 32, 3), (12, .iload_n 3, 1), (13, .invokestatic 192, 3), (16, .ifCond .eq 25, 3), (19, .iload_n 3, 1), (20, .ifCond .ne 12, 3), (23, .aload_n 0, 1), (24, .iload_n 1, 1), (25, .iload_n 2, 1), (26, .invokevirtual 216, 3), (29, .goto 14, 3), (32, .aload_n 0, 1), (33, .iload_n 1, 1), (34, .iload_n 2, 1), (35, .invokevirtual 219, 3), (38, .goto 5, 3), (41, .bipush (-2), 2), (43, .ireturn, 1)]
theorem D_m_most : ∀ q ∈ T_m_most, decode cX9_most q.1 = .ok q.2 := by decide +kernel
def T_m_failsOf : List (Nat × Instr × Nat) := [(0, .iconst 0, 1), (1, .istore_n 2, 1), (2, .iconst 0, 1), (3, .istore_n 3, 1), (4, .iload_n 3, 1), (5, .aload_n 0, 1), (6, .getfield 104, 3), (9, .if_icmp .ge 38, 3), (12, .iload_n 2, 1), (13, .aload_n 0, 1), (14, .iload_n 1, 1), (15, .invokevirtual 198, 3), (18, .iload_n 3, 1), (19, .invokestatic 149, 3), (22, .ifCond .eq 16, 3), (25, .aload_n 0, 1), (26, .getfield 25, 3), (29, .iconst 4, 1), (30, .iload_n 3, 1), (31, .imul, 1), (32, .iconst 3, 1), (33, .iadd, 1), (34, .iaload, 1), (35, .goto 4, 3), (38, .iconst 0, 1), (39, .iadd, 1), (40, .istore_n 2, 1), (41, .iinc 3 1, 3), (44, .goto (-40), 3), (47, .iload_n 2, 1), (48, .ifCond .ne 7, 3), (51, .iconst (-1), 1), (52, .goto 15, 3), (55, .aload_n 0, 1), (56, .getfield 28, 3), (59, .iconst 2, 1), (60, .iaload, 1), (61, .iload_n 2, 1), (62, .iadd, 1), (63, .iconst 1, 1), (64, .isub, 1), (65, .iload_n 2, 1), (66, .idiv, 1), (67, .ireturn, 1)]
theorem D_m_failsOf : ∀ q ∈ T_m_failsOf, decode cX9_failsOf q.1 = .ok q.2 := by decide +kernel
def T_m_fails : List (Nat × Instr × Nat) := [(0, .aload_n 0, 1), (1, .invokevirtual 186, 3), (4, .iload_n 1, 1), (5, .invokestatic 143, 3), (8, .ifCond .eq 11, 3), (11, .aload_n 0, 1), (12, .iload_n 1, 1), (13, .invokevirtual 222, 3), (16, .goto 5, 3), (19, .bipush (-2), 2), (21, .ireturn, 1)]
theorem D_m_fails : ∀ q ∈ T_m_fails, decode cX9_fails q.1 = .ok q.2 := by decide +kernel
def T_m_soonestNow : List (Nat × Instr × Nat) := [(0, .iconst (-1), 1), (1, .istore_n 1, 1), (2, .iconst 0, 1), (3, .istore_n 2, 1), (4, .iload_n 2, 1), (5, .bipush 16, 2), (7, .if_icmp .ge 40, 3), (10, .aload_n 0, 1), (11, .iload_n 2, 1), (12, .invokevirtual 222, 3), (15, .istore_n 3, 1), (16, .iload_n 3, 1), (17, .iconst (-1), 1), (18, .if_icmp .eq 21, 3), (21, .iload_n 1, 1), (22, .iconst (-1), 1), (23, .if_icmp .eq 12, 3), (26, .iload_n 3, 1), (27, .aload_n 0, 1), (28, .iload_n 1, 1), (29, .invokevirtual 222, 3), (32, .if_icmp .ge 7, 3), (35, .iload_n 2, 1), (36, .goto 4, 3), (39, .iload_n 1, 1), (40, .istore_n 1, 1), (41, .iinc 2 1, 3), (44, .goto (-40), 3), (47, .iload_n 1, 1), (48, .ireturn, 1)]
theorem D_m_soonestNow : ∀ q ∈ T_m_soonestNow, decode cX9_soonestNow q.1 = .ok q.2 := by decide +kernel
def T_m_soonest : List (Nat × Instr × Nat) := [(0, .aload_n 0, 1), (1, .invokevirtual 186, 3), (4, .aload_n 0, 1), (5, .invokevirtual 225, 3), (8, .ireturn, 1)]
theorem D_m_soonest : ∀ q ∈ T_m_soonest, decode cX9_soonest q.1 = .ok q.2 := by decide +kernel
def T_m_leftOn : List (Nat × Instr × Nat) := [(0, .iconst 0, 1), (1, .istore_n 2, 1), (2, .iconst 0, 1), (3, .istore_n 3, 1), (4, .iload_n 3, 1), (5, .bipush 16, 2), (7, .if_icmp .ge 49, 3), (10, .aload_n 0, 1), (11, .iload_n 3, 1), (12, .invokevirtual 222, 3), (15, .istore 4, 2), (17, .iload_n 2, 1), (18, .aload_n 0, 1), (19, .getfield 165, 3), (22, .iload_n 3, 1), (23, .invokestatic 149, 3), (26, .ifCond .eq 21, 3), (29, .iload 4, 2), (31, .iconst (-1), 1), (32, .if_icmp .eq 9, 3), (35, .iload 4, 2), (37, .iload_n 1, 1), (38, .if_icmp .le 9, 3), (41, .iconst 1, 1), (42, .iload_n 3, 1), (43, .ishl, 1), (44, .goto 4, 3), (47, .iconst 0, 1), (48, .ior, 1), (49, .istore_n 2, 1), (50, .iinc 3 1, 3), (53, .goto (-49), 3), (56, .iload_n 2, 1), (57, .ireturn, 1)]
theorem D_m_leftOn : ∀ q ∈ T_m_leftOn, decode cX9_leftOn q.1 = .ok q.2 := by decide +kernel
def T_m_left : List (Nat × Instr × Nat) := [(0, .aload_n 0, 1), (1, .invokevirtual 186, 3), (4, .iload_n 1, 1), (5, .i2l, 1), (6, .lconst 0, 1), (7, .ldc2_w 126, 3), (10, .invokestatic 70, 3), (13, .ifCond .eq 11, 3), (16, .aload_n 0, 1), (17, .iload_n 1, 1), (18, .invokevirtual 228, 3), (21, .goto 5, 3), (24, .bipush (-2), 2), (26, .ireturn, 1)]
theorem D_m_left : ∀ q ∈ T_m_left, decode cX9_left q.1 = .ok q.2 := by decide +kernel
def T_m_burnsBy : List (Nat × Instr × Nat) := [(0, .iconst 1, 1), (1, .istore 6, 2), (3, .iconst 0, 1), (4, .istore 7, 2), (6, .iload 6, 2), (8, .iload 7, 2), (10, .if_icmp .eq 114, 3), (13, .iload 6, 2), (15, .istore 7, 2), (17, .iconst 0, 1), (18, .istore 8, 2), (20, .iload 8, 2), (22, .bipush 16, 2), (24, .if_icmp .ge 52, 3), (27, .iload 6, 2), (29, .iload_n 1, 1), (30, .iload 8, 2), (32, .invokestatic 149, 3), (35, .ifCond .eq 31, 3), (38, .iload 6, 2), (40, .aload_n 0, 1), (41, .getfield 31, 3), (44, .iconst 2, 1), (45, .iload 8, 2), (47, .imul, 1), (48, .iaload, 1), (49, .aload_n 0, 1), (50, .getfield 31, 3), (53, .iconst 2, 1), (54, .iload 8, 2), (56, .imul, 1), (57, .iconst 1, 1), (58, .iadd, 1), (59, .iaload, 1), (60, .invokestatic 231, 3), (63, .goto 4, 3), (66, .iconst 0, 1), (67, .ior, 1), (68, .istore 6, 2), (70, .iinc 8 1, 3), (73, .goto (-53), 3), (76, .iload 6, 2), (78, .iload_n 2, 1), (79, .iconst (-1), 1), (80, .if_icmp .ne 7, 3), (83, .iconst 0, 1), (84, .goto 10, 3), (87, .iload 6, 2), (89, .iload_n 2, 1), (90, .iload_n 3, 1), (91, .invokestatic 231, 3), (94, .ior, 1), (95, .istore 6, 2), (97, .iload 6, 2), (99, .iload 4, 2), (101, .iconst (-1), 1), (102, .if_icmp .ne 7, 3), (105, .iconst 0, 1), (106, .goto 12, 3), (109, .iload 6, 2), (111, .iload 4, 2), (113, .iload 5, 2), (115, .invokestatic 231, 3), (118, .ior, 1), (119, .istore 6, 2), (121, .goto (-115), 3), (124, .iload 6, 2), (126, .ireturn, 1)]
theorem D_m_burnsBy : ∀ q ∈ T_m_burnsBy, decode cX9_burnsBy q.1 = .ok q.2 := by decide +kernel
def T_m_joined : List (Nat × Instr × Nat) := [(0, .iload_n 0, 1), (1, .iload_n 1, 1), (2, .invokestatic 149, 3), (5, .ifCond .ne 11, 3), (8, .iload_n 0, 1), (9, .iload_n 2, 1), (10, .invokestatic 149, 3), (13, .ifCond .eq 13, 3), (16, .iconst 1, 1), (17, .iload_n 1, 1), (18, .ishl, 1), (19, .iconst 1, 1), (20, .iload_n 2, 1), (21, .ishl, 1), (22, .ior, 1), (23, .goto 4, 3), (26, .iconst 0, 1), (27, .ireturn, 1)]
theorem D_m_joined : ∀ q ∈ T_m_joined, decode cX9_joined q.1 = .ok q.2 := by decide +kernel
def T_m_burnsNow : List (Nat × Instr × Nat) := [(0, .aload_n 0, 1), (1, .aload_n 0, 1), (2, .getfield 165, 3), (5, .iload_n 1, 1), (6, .iconst (-1), 1), (7, .ixor, 1), (8, .iand, 1), (9, .iconst (-1), 1), (10, .iconst (-1), 1), (11, .iconst (-1), 1), (12, .iconst (-1), 1), (13, .invokevirtual 234, 3), (16, .ireturn, 1)]
theorem D_m_burnsNow : ∀ q ∈ T_m_burnsNow, decode cX9_burnsNow q.1 = .ok q.2 := by decide +kernel
def T_m_burns : List (Nat × Instr × Nat) := [(0, .aload_n 0, 1), (1, .invokevirtual 186, 3), (4, .iload_n 1, 1), (5, .i2l, 1), (6, .lconst 0, 1), (7, .ldc2_w 122, 3), (10, .invokestatic 70, 3), (13, .ifCond .eq 11, 3), (16, .aload_n 0, 1), (17, .iload_n 1, 1), (18, .invokevirtual 238, 3), (21, .goto 5, 3), (24, .bipush (-2), 2), (26, .ireturn, 1)]
theorem D_m_burns : ∀ q ∈ T_m_burns, decode cX9_burns q.1 = .ok q.2 := by decide +kernel
def T_m_lights : List (Nat × Instr × Nat) := [(0, .aload_n 0, 1), (1, .invokevirtual 207, 3), (4, .aload_n 0, 1), (5, .iload_n 2, 1), (6, .bipush 8, 2), (8, .idiv, 1), (9, .iload_n 2, 1), (10, .bipush 8, 2), (12, .irem, 1), (13, .invokevirtual 174, 3), (16, .ifCond .eq 7, 3), (19, .iconst 1, 1), (20, .goto 4, 3), (23, .iconst 0, 1), (24, .istore 4, 2), (26, .iload_n 3, 1), (27, .iconst (-1), 1), (28, .if_icmp .eq 22, 3), (31, .aload_n 0, 1), (32, .iload_n 3, 1), (33, .bipush 8, 2), (35, .idiv, 1), (36, .iload_n 3, 1), (37, .bipush 8, 2), (39, .irem, 1), (40, .invokevirtual 174, 3), (43, .ifCond .eq 7, 3), (46, .iconst 1, 1), (47, .goto 4, 3), (50, .iconst 0, 1), (51, .istore 5, 2), (53, .aload_n 0, 1), (54, .invokevirtual 210, 3), (57, .aload_n 0, 1), (58, .aload_n 0, 1), (59, .getfield 165, 3), (62, .iload 4, 2), (64, .ifCond .eq 10, 3), (67, .iload_n 2, 1), (68, .bipush 8, 2), (70, .idiv, 1), (71, .goto 4, 3), (74, .iconst (-1), 1), (75, .iload_n 2, 1), (76, .bipush 8, 2), (78, .irem, 1), (79, .iload 5, 2), (81, .ifCond .eq 10, 3), (84, .iload_n 3, 1), (85, .bipush 8, 2), (87, .idiv, 1), (88, .goto 4, 3), (91, .iconst (-1), 1), (92, .iload 5, 2), (94, .ifCond .eq 10, 3), (97, .iload_n 3, 1), (98, .bipush 8, 2), (100, .irem, 1), (101, .goto 4, 3), (104, .iconst (-1), 1), (105, .invokevirtual 234, 3), (108, .istore 6, 2), (110, .iload_n 1, 1), (111, .iload 6, 2), (113, .iconst (-1), 1), (114, .ixor, 1), (115, .iand, 1), (116, .ifCond .ne 7, 3), (119, .iconst 1, 1), (120, .goto 4, 3), (123, .iconst 0, 1), (124, .ireturn, 1)]
theorem D_m_lights : ∀ q ∈ T_m_lights, decode cX9_lights q.1 = .ok q.2 := by decide +kernel
def T_m_findLit : List (Nat × Instr × Nat) := [(0, .iconst 0, 1), (1, .istore_n 2, 1), (2, .iload_n 2, 1), (3, .iconst 3, 1), (4, .if_icmp .ge 16, 3), (7, .aload_n 0, 1), (8, .getfield 55, 3), (11, .iload_n 2, 1), (12, .iconst (-1), 1), (13, .iastore, 1), (14, .iinc 2 1, 3), (17, .goto (-15), 3), (20, .iload_n 1, 1), (21, .aload_n 0, 1), (22, .iconst 0, 1), (23, .invokevirtual 238, 3), (26, .iconst (-1), 1), (27, .ixor, 1), (28, .iand, 1), (29, .ifCond .eq 7, 3), (32, .iconst 1, 1), (33, .goto 4, 3), (36, .iconst 0, 1), (37, .istore_n 2, 1), (38, .aload_n 0, 1), (39, .getfield 55, 3), (42, .iconst 0, 1), (43, .iload_n 2, 1), (44, .ifCond .eq 7, 3), (47, .iconst (-1), 1), (48, .goto 4, 3), (51, .iconst 0, 1), (52, .iastore, 1), (53, .iconst 0, 1), (54, .istore_n 3, 1), (55, .iload_n 3, 1), (56, .bipush 64, 2), (58, .if_icmp .ge 50, 3), (61, .iload_n 2, 1), (62, .ifCond .eq 46, 3), (65, .iload_n 3, 1), (66, .bipush 8, 2), (68, .idiv, 1), (69, .iload_n 3, 1), (70, .bipush 8, 2), (72, .irem, 1), (73, .if_icmp .eq 29, 3), (76, .aload_n 0, 1), (77, .iload_n 1, 1), (78, .iload_n 3, 1), (79, .iconst (-1), 1), (80, .invokevirtual 241, 3), (83, .ifCond .eq 19, 3), (86, .aload_n 0, 1), (87, .getfield 55, 3), (90, .iconst 0, 1), (91, .iconst 1, 1), (92, .iastore, 1), (93, .aload_n 0, 1), (94, .getfield 55, 3), (97, .iconst 1, 1), (98, .iload_n 3, 1), (99, .iastore, 1), (100, .iconst 0, 1), (101, .istore_n 2, 1), (102, .iinc 3 1, 3), (105, .goto (-50), 3), (108, .iconst 0, 1), (109, .istore_n 3, 1), (110, .iload_n 3, 1), (111, .bipush 64, 2), (113, .if_icmp .ge 92, 3), (116, .iload_n 2, 1), (117, .ifCond .eq 88, 3), (120, .iconst 0, 1), (121, .istore 4, 2), (123, .iload 4, 2), (125, .bipush 64, 2), (127, .if_icmp .ge 72, 3), (130, .iload_n 2, 1), (131, .ifCond .eq 68, 3), (134, .iload_n 3, 1), (135, .bipush 8, 2), (137, .idiv, 1), (138, .iload_n 3, 1), (139, .bipush 8, 2), (141, .irem, 1), (142, .if_icmp .eq 57, 3), (145, .iload 4, 2), (147, .bipush 8, 2), (149, .idiv, 1), (150, .iload 4, 2), (152, .bipush 8, 2), (154, .irem, 1), (155, .if_icmp .eq 38, 3), (158, .aload_n 0, 1), (159, .iload_n 1, 1), (160, .iload_n 3, 1), (161, .iload 4, 2), (163, .invokevirtual 241, 3), (166, .ifCond .eq 27, 3), (169, .aload_n 0, 1), (170, .getfield 55, 3), (173, .iconst 0, 1), (174, .iconst 2, 1), (175, .iastore, 1), (176, .aload_n 0, 1), (177, .getfield 55, 3), (180, .iconst 1, 1), (181, .iload_n 3, 1), (182, .iastore, 1), (183, .aload_n 0, 1), (184, .getfield 55, 3), (187, .iconst 2, 1), (188, .iload 4, 2), (190, .iastore, 1), (191, .iconst 0, 1), (192, .istore_n 2, 1), (193, .iinc 4 1, 3), (196, .goto (-73), 3), (199, .iinc 3 1, 3), (202, .goto (-92), 3), (205, .return_, 1)]
theorem D_m_findLit : ∀ q ∈ T_m_findLit, decode cX9_findLit q.1 = .ok q.2 := by decide +kernel
def T_m_lit : List (Nat × Instr × Nat) := [(0, .iload_n 1, 1), (1, .i2l, 1), (2, .lconst 0, 1), (3, .ldc2_w 99, 3), (6, .invokestatic 70, 3), (9, .ifCond .eq 15, 3), (12, .iload_n 2, 1), (13, .i2l, 1), (14, .lconst 0, 1), (15, .ldc2_w 84, 3), (18, .invokestatic 70, 3), (21, .ifCond .ne 6, 3), (24, .bipush (-2), 2), (26, .ireturn, 1), (27, .aload_n 0, 1), (28, .invokevirtual 186, 3), (31, .aload_n 0, 1), (32, .iload_n 1, 1), (33, .invokevirtual 245, 3), (36, .aload_n 0, 1), (37, .getfield 55, 3), (40, .iload_n 2, 1), (41, .iaload, 1), (42, .ireturn, 1)]
theorem D_m_lit : ∀ q ∈ T_m_lit, decode cX9_lit q.1 = .ok q.2 := by decide +kernel
def T_m_outAt : List (Nat × Instr × Nat) := [(0, .aload_n 0, 1), (1, .getfield 25, 3), (4, .iconst 4, 1), (5, .iload_n 1, 1), (6, .iconst 2, 1), (7, .idiv, 1), (8, .imul, 1), (9, .iload_n 1, 1), (10, .iconst 2, 1), (11, .irem, 1), (12, .ifCond .ne 7, 3), (15, .iconst 1, 1), (16, .goto 4, 3), (19, .iconst 0, 1), (20, .iadd, 1), (21, .iaload, 1), (22, .ireturn, 1)]
theorem D_m_outAt : ∀ q ∈ T_m_outAt, decode cX9_outAt q.1 = .ok q.2 := by decide +kernel
def T_m_inAt : List (Nat × Instr × Nat) := [(0, .aload_n 0, 1), (1, .getfield 25, 3), (4, .iconst 4, 1), (5, .iload_n 1, 1), (6, .iconst 2, 1), (7, .idiv, 1), (8, .imul, 1), (9, .iload_n 1, 1), (10, .iconst 2, 1), (11, .irem, 1), (12, .ifCond .ne 7, 3), (15, .iconst 0, 1), (16, .goto 4, 3), (19, .iconst 1, 1), (20, .iadd, 1), (21, .iaload, 1), (22, .ireturn, 1)]
theorem D_m_inAt : ∀ q ∈ T_m_inAt, decode cX9_inAt q.1 = .ok q.2 := by decide +kernel
def T_m_goesThrough : List (Nat × Instr × Nat) := [(0, .aload_n 0, 1), (1, .getfield 28, 3), (4, .iconst 0, 1), (5, .iaload, 1), (6, .iload_n 1, 1), (7, .iconst 2, 1), (8, .idiv, 1), (9, .invokestatic 149, 3), (12, .ifCond .ne 7, 3), (15, .iconst 1, 1), (16, .goto 4, 3), (19, .iconst 0, 1), (20, .ireturn, 1)]
theorem D_m_goesThrough : ∀ q ∈ T_m_goesThrough, decode cX9_goesThrough q.1 = .ok q.2 := by decide +kernel
def T_m_walks : List (Nat × Instr × Nat) := [(0, .iconst 0, 1), (1, .istore_n 3, 1), (2, .iload_n 3, 1), (3, .iconst 2, 1), (4, .aload_n 0, 1), (5, .getfield 104, 3), (8, .imul, 1), (9, .if_icmp .ge 37, 3), (12, .aload_n 0, 1), (13, .getfield 58, 3), (16, .iload_n 3, 1), (17, .aload_n 0, 1), (18, .iload_n 3, 1), (19, .invokevirtual 248, 3), (22, .ifCond .eq 16, 3), (25, .aload_n 0, 1), (26, .iload_n 3, 1), (27, .invokevirtual 251, 3), (30, .iload_n 1, 1), (31, .if_icmp .ne 7, 3), (34, .iconst 1, 1), (35, .goto 4, 3), (38, .iconst 0, 1), (39, .iastore, 1), (40, .iinc 3 1, 3), (43, .goto (-41), 3), (46, .iconst 1, 1), (47, .istore_n 3, 1), (48, .iload_n 3, 1), (49, .iload_n 2, 1), (50, .if_icmp .ge 147, 3), (53, .iconst 0, 1), (54, .istore 4, 2), (56, .iload 4, 2), (58, .iconst 2, 1), (59, .aload_n 0, 1), (60, .getfield 104, 3), (63, .imul, 1), (64, .if_icmp .ge 93, 3), (67, .aload_n 0, 1), (68, .getfield 61, 3), (71, .iload 4, 2), (73, .iconst 0, 1), (74, .iastore, 1), (75, .iconst 0, 1), (76, .istore 5, 2), (78, .iload 5, 2), (80, .iconst 2, 1), (81, .aload_n 0, 1), (82, .getfield 104, 3), (85, .imul, 1), (86, .if_icmp .ge 65, 3), (89, .aload_n 0, 1), (90, .iload 4, 2), (92, .invokevirtual 248, 3), (95, .ifCond .eq 56, 3), (98, .aload_n 0, 1), (99, .getfield 61, 3), (102, .iload 4, 2), (104, .dup2, 1), (105, .iaload, 1), (106, .iload 5, 2), (108, .iconst 2, 1), (109, .idiv, 1), (110, .iload 4, 2), (112, .iconst 2, 1), (113, .idiv, 1), (114, .if_icmp .eq 28, 3), (117, .aload_n 0, 1), (118, .iload 5, 2), (120, .invokevirtual 254, 3), (123, .aload_n 0, 1), (124, .iload 4, 2), (126, .invokevirtual 251, 3), (129, .if_icmp .ne 13, 3), (132, .aload_n 0, 1), (133, .getfield 58, 3), (136, .iload 5, 2), (138, .iaload, 1), (139, .goto 4, 3), (142, .iconst 0, 1), (143, .iadd, 1), (144, .iastore, 1), (145, .iinc 5 1, 3), (148, .goto (-70), 3), (151, .iinc 4 1, 3), (154, .goto (-98), 3), (157, .iconst 0, 1), (158, .istore 4, 2), (160, .iload 4, 2), (162, .iconst 2, 1), (163, .aload_n 0, 1), (164, .getfield 104, 3), (167, .imul, 1), (168, .if_icmp .ge 23, 3), (171, .aload_n 0, 1), (172, .getfield 58, 3), (175, .iload 4, 2), (177, .aload_n 0, 1), (178, .getfield 61, 3), (181, .iload 4, 2), (183, .iaload, 1), (184, .iastore, 1), (185, .iinc 4 1, 3), (188, .goto (-28), 3), (191, .iinc 3 1, 3), (194, .goto (-146), 3), (197, .return_, 1)]
theorem D_m_walks : ∀ q ∈ T_m_walks, decode cX9_walks q.1 = .ok q.2 := by decide +kernel
def T_m_waysTo : List (Nat × Instr × Nat) := [(0, .iload_n 2, 1), (1, .ifCond .ne 14, 3), (4, .iload_n 1, 1), (5, .iload_n 3, 1), (6, .if_icmp .ne 7, 3), (9, .iconst 1, 1), (10, .goto 4, 3), (13, .iconst 0, 1), (14, .ireturn, 1), (15, .iconst 0, 1), (16, .istore 4, 2), (18, .iconst 0, 1), (19, .istore 5, 2), (21, .iload 5, 2), (23, .iconst 2, 1), (24, .aload_n 0, 1), (25, .getfield 104, 3), (28, .imul, 1), (29, .if_icmp .ge 35, 3), (32, .iload 4, 2), (34, .aload_n 0, 1), (35, .iload 5, 2), (37, .invokevirtual 254, 3), (40, .iload_n 3, 1), (41, .if_icmp .ne 13, 3), (44, .aload_n 0, 1), (45, .getfield 58, 3), (48, .iload 5, 2), (50, .iaload, 1), (51, .goto 4, 3), (54, .iconst 0, 1), (55, .iadd, 1), (56, .istore 4, 2), (58, .iinc 5 1, 3), (61, .goto (-40), 3), (64, .iload 4, 2), (66, .ireturn, 1)]
theorem D_m_waysTo : ∀ q ∈ T_m_waysTo, decode cX9_waysTo q.1 = .ok q.2 := by decide +kernel
def T_m_heardOf : List (Nat × Instr × Nat) := [(0, .aload_n 0, 1), (1, .iload_n 1, 1), (2, .iload_n 2, 1), (3, .invokevirtual 257, 3), (6, .iload_n 3, 1), (7, .iconst (-1), 1), (8, .if_icmp .eq 11, 3), (11, .aload_n 0, 1), (12, .iload_n 1, 1), (13, .iload_n 2, 1), (14, .iload_n 3, 1), (15, .invokevirtual 261, 3), (18, .ireturn, 1), (19, .iconst 0, 1), (20, .istore 4, 2), (22, .iconst 0, 1), (23, .istore 5, 2), (25, .iload 5, 2), (27, .bipush 8, 2), (29, .if_icmp .ge 33, 3), (32, .iload 4, 2), (34, .aload_n 0, 1), (35, .iload_n 1, 1), (36, .iload_n 2, 1), (37, .iload 5, 2), (39, .invokevirtual 261, 3), (42, .ifCond .le 10, 3), (45, .iconst 1, 1), (46, .iload 5, 2), (48, .ishl, 1), (49, .goto 4, 3), (52, .iconst 0, 1), (53, .ior, 1), (54, .istore 4, 2), (56, .iinc 5 1, 3), (59, .goto (-34), 3), (62, .iload 4, 2), (64, .ireturn, 1)]
theorem D_m_heardOf : ∀ q ∈ T_m_heardOf, decode cX9_heardOf q.1 = .ok q.2 := by decide +kernel
def T_m_heard : List (Nat × Instr × Nat) := [(0, .aload_n 0, 1), (1, .invokevirtual 118, 3), (4, .pop, 1), (5, .iload_n 1, 1), (6, .invokestatic 130, 3), (9, .ifCond .eq 39, 3), (12, .iload_n 2, 1), (13, .i2l, 1), (14, .lconst 0, 1), (15, .ldc2_w 264, 3), (18, .invokestatic 70, 3), (21, .ifCond .eq 27, 3), (24, .iload_n 3, 1), (25, .i2l, 1), (26, .ldc2_w 266, 3), (29, .ldc2_w 110, 3), (32, .invokestatic 70, 3), (35, .ifCond .eq 13, 3), (38, .aload_n 0, 1), (39, .iload_n 1, 1), (40, .iload_n 2, 1), (41, .iload_n 3, 1), (42, .invokevirtual 268, 3), (45, .goto 5, 3), (48, .bipush (-2), 2), (50, .ireturn, 1)]
theorem D_m_heard : ∀ q ∈ T_m_heard, decode cX9_heard q.1 = .ok q.2 := by decide +kernel
def T_m_meetOf : List (Nat × Instr × Nat) := [(0, .aload_n 0, 1), (1, .getfield 25, 3), (4, .iconst 4, 1), (5, .iload_n 1, 1), (6, .imul, 1), (7, .iconst 2, 1), (8, .iadd, 1), (9, .iaload, 1), (10, .istore 5, 2), (12, .iload_n 3, 1), (13, .iload_n 2, 1), (14, .isub, 1), (15, .istore 6, 2), (17, .iload 6, 2), (19, .iload 5, 2), (21, .if_icmp .ge 11, 3), (24, .iload 6, 2), (26, .ineg, 1), (27, .iload 5, 2), (29, .if_icmp .lt 7, 3), (32, .iconst (-1), 1), (33, .goto 26, 3), (36, .iload 4, 2), (38, .ifCond .ne 11, 3), (41, .iload 5, 2), (43, .iload 6, 2), (45, .iadd, 1), (46, .goto 13, 3), (49, .iload 6, 2), (51, .ifCond .le 7, 3), (54, .iconst 1, 1), (55, .goto 4, 3), (58, .iconst 0, 1), (59, .ireturn, 1)]
theorem D_m_meetOf : ∀ q ∈ T_m_meetOf, decode cX9_meetOf q.1 = .ok q.2 := by decide +kernel
def T_m_meet : List (Nat × Instr × Nat) := [(0, .aload_n 0, 1), (1, .invokevirtual 118, 3), (4, .pop, 1), (5, .iload_n 1, 1), (6, .i2l, 1), (7, .lconst 0, 1), (8, .aload_n 0, 1), (9, .getfield 104, 3), (12, .iconst 1, 1), (13, .isub, 1), (14, .i2l, 1), (15, .invokestatic 70, 3), (18, .ifCond .eq 39, 3), (21, .iload_n 2, 1), (22, .i2l, 1), (23, .lconst 0, 1), (24, .ldc2_w 126, 3), (27, .invokestatic 70, 3), (30, .ifCond .eq 27, 3), (33, .iload_n 3, 1), (34, .i2l, 1), (35, .lconst 0, 1), (36, .ldc2_w 126, 3), (39, .invokestatic 70, 3), (42, .ifCond .eq 15, 3), (45, .iload 4, 2), (47, .invokestatic 192, 3), (50, .ifCond .eq 7, 3), (53, .iconst 1, 1), (54, .goto 4, 3), (57, .iconst 0, 1), (58, .istore 5, 2), (60, .iload 5, 2), (62, .ifCond .eq 15, 3), (65, .aload_n 0, 1), (66, .iload_n 1, 1), (67, .iload_n 2, 1), (68, .iload_n 3, 1), (69, .iload 4, 2), (71, .invokevirtual 271, 3), (74, .goto 5, 3), (77, .bipush (-2), 2), (79, .ireturn, 1)]
theorem D_m_meet : ∀ q ∈ T_m_meet, decode cX9_meet q.1 = .ok q.2 := by decide +kernel
def T_m_drowsyOf : List (Nat × Instr × Nat) := [(0, .iload_n 1, 1), (1, .istore 4, 2), (3, .iload_n 2, 1), (4, .istore 5, 2), (6, .iconst 0, 1), (7, .istore 6, 2), (9, .iload 6, 2), (11, .iload_n 3, 1), (12, .if_icmp .ge 179, 3), (15, .iconst 0, 1), (16, .istore 7, 2), (18, .iconst 0, 1), (19, .istore 8, 2), (21, .iload 8, 2), (23, .aload_n 0, 1), (24, .getfield 104, 3), (27, .if_icmp .ge 45, 3), (30, .iload 7, 2), (32, .aload_n 0, 1), (33, .getfield 28, 3), (36, .iconst 0, 1), (37, .iaload, 1), (38, .iload 8, 2), (40, .invokestatic 149, 3), (43, .ifCond .ne 19, 3), (46, .aload_n 0, 1), (47, .iload 8, 2), (49, .iload 5, 2), (51, .invokevirtual 159, 3), (54, .iconst (-1), 1), (55, .if_icmp .eq 7, 3), (58, .iconst 1, 1), (59, .goto 4, 3), (62, .iconst 0, 1), (63, .iadd, 1), (64, .istore 7, 2), (66, .iinc 8 1, 3), (69, .goto (-48), 3), (72, .iload 7, 2), (74, .ifCond .le 111, 3), (77, .ldc_w 275, 3), (80, .iload 4, 2), (82, .imul, 1), (83, .sipush 12345, 3), (86, .iadd, 1), (87, .istore 4, 2), (89, .iload 4, 2), (91, .bipush 16, 2), (93, .iushr, 1), (94, .iload 7, 2), (96, .irem, 1), (97, .istore 8, 2), (99, .iconst 0, 1), (100, .istore 9, 2), (102, .aload_n 0, 1), (103, .getfield 28, 3), (106, .iconst 0, 1), (107, .iaload, 1), (108, .iload 9, 2), (110, .invokestatic 149, 3), (113, .ifCond .ne 20, 3), (116, .aload_n 0, 1), (117, .iload 9, 2), (119, .iload 5, 2), (121, .invokevirtual 159, 3), (124, .iconst (-1), 1), (125, .if_icmp .eq 8, 3), (128, .iload 8, 2), (130, .ifCond .le 45, 3), (133, .iload 8, 2), (135, .aload_n 0, 1), (136, .getfield 28, 3), (139, .iconst 0, 1), (140, .iaload, 1), (141, .iload 9, 2), (143, .invokestatic 149, 3), (146, .ifCond .ne 15, 3), (149, .aload_n 0, 1), (150, .iload 9, 2), (152, .iload 5, 2), (154, .invokevirtual 159, 3), (157, .iconst (-1), 1), (158, .if_icmp .ne 7, 3), (161, .iconst 0, 1), (162, .goto 4, 3), (165, .iconst 1, 1), (166, .isub, 1), (167, .istore 8, 2), (169, .iinc 9 1, 3), (172, .goto (-70), 3), (175, .aload_n 0, 1), (176, .iload 9, 2), (178, .iload 5, 2), (180, .invokevirtual 159, 3), (183, .istore 5, 2), (185, .iinc 6 1, 3), (188, .goto (-179), 3), (191, .iload 5, 2), (193, .ireturn, 1)]
theorem D_m_drowsyOf : ∀ q ∈ T_m_drowsyOf, decode cX9_drowsyOf q.1 = .ok q.2 := by decide +kernel
def T_m_drowsy : List (Nat × Instr × Nat) := [(0, .aload_n 0, 1), (1, .invokevirtual 118, 3), (4, .pop, 1), (5, .iload_n 2, 1), (6, .invokestatic 130, 3), (9, .ifCond .eq 25, 3), (12, .iload_n 3, 1), (13, .i2l, 1), (14, .lconst 0, 1), (15, .ldc2_w 276, 3), (18, .invokestatic 70, 3), (21, .ifCond .eq 13, 3), (24, .aload_n 0, 1), (25, .iload_n 1, 1), (26, .iload_n 2, 1), (27, .iload_n 3, 1), (28, .invokevirtual 278, 3), (31, .goto 5, 3), (34, .bipush (-2), 2), (36, .ireturn, 1)]
theorem D_m_drowsy : ∀ q ∈ T_m_drowsy, decode cX9_drowsy q.1 = .ok q.2 := by decide +kernel
def T_m_chalk : List (Nat × Instr × Nat) := [(0, .iload_n 1, 1), (1, .invokestatic 143, 3), (4, .ifCond .eq 11, 3), (7, .iload_n 2, 1), (8, .iload_n 3, 1), (9, .invokestatic 136, 3), (12, .ifCond .ne 6, 3), (15, .bipush (-2), 2), (17, .ireturn, 1), (18, .aload_n 0, 1), (19, .getfield 281, 3), (22, .bipush 8, 2), (24, .if_icmp .ne 6, 3), (27, .bipush (-4), 2), (29, .ireturn, 1), (30, .aload_n 0, 1), (31, .getfield 64, 3), (34, .iconst 3, 1), (35, .aload_n 0, 1), (36, .getfield 281, 3), (39, .imul, 1), (40, .iload_n 1, 1), (41, .iastore, 1), (42, .aload_n 0, 1), (43, .getfield 64, 3), (46, .iconst 3, 1), (47, .aload_n 0, 1), (48, .getfield 281, 3), (51, .imul, 1), (52, .iconst 1, 1), (53, .iadd, 1), (54, .iload_n 2, 1), (55, .iastore, 1), (56, .aload_n 0, 1), (57, .getfield 64, 3), (60, .iconst 3, 1), (61, .aload_n 0, 1), (62, .getfield 281, 3), (65, .imul, 1), (66, .iconst 2, 1), (67, .iadd, 1), (68, .iload_n 3, 1), (69, .iastore, 1), (70, .aload_n 0, 1), (71, .dup, 1), (72, .getfield 281, 3), (75, .iconst 1, 1), (76, .iadd, 1), (77, .putfield 281, 3), (80, .aload_n 0, 1), (81, .getfield 281, 3), (84, .ireturn, 1)]
theorem D_m_chalk : ∀ q ∈ T_m_chalk, decode cX9_chalk q.1 = .ok q.2 := by decide +kernel
def T_m_liesNow : List (Nat × Instr × Nat) := [(0, .iconst 0, 1), (1, .istore_n 1, 1), (2, .iconst 0, 1), (3, .istore_n 2, 1), (4, .iload_n 2, 1), (5, .aload_n 0, 1), (6, .getfield 281, 3), (9, .if_icmp .ge 131, 3), (12, .aload_n 0, 1), (13, .getfield 64, 3), (16, .iconst 3, 1), (17, .iload_n 2, 1), (18, .imul, 1), (19, .iaload, 1), (20, .istore_n 3, 1), (21, .aload_n 0, 1), (22, .getfield 64, 3), (25, .iconst 3, 1), (26, .iload_n 2, 1), (27, .imul, 1), (28, .iconst 1, 1), (29, .iadd, 1), (30, .iaload, 1), (31, .istore 4, 2), (33, .aload_n 0, 1), (34, .getfield 64, 3), (37, .iconst 3, 1), (38, .iload_n 2, 1), (39, .imul, 1), (40, .iconst 2, 1), (41, .iadd, 1), (42, .iaload, 1), (43, .istore 5, 2), (45, .aload_n 0, 1), (46, .getfield 31, 3), (49, .iconst 2, 1), (50, .iload_n 3, 1), (51, .imul, 1), (52, .iaload, 1), (53, .iload 4, 2), (55, .if_icmp .ne 18, 3), (58, .aload_n 0, 1), (59, .getfield 31, 3), (62, .iconst 2, 1), (63, .iload_n 3, 1), (64, .imul, 1), (65, .iconst 1, 1), (66, .iadd, 1), (67, .iaload, 1), (68, .iload 5, 2), (70, .if_icmp .eq 31, 3), (73, .aload_n 0, 1), (74, .getfield 31, 3), (77, .iconst 2, 1), (78, .iload_n 3, 1), (79, .imul, 1), (80, .iaload, 1), (81, .iload 5, 2), (83, .if_icmp .ne 22, 3), (86, .aload_n 0, 1), (87, .getfield 31, 3), (90, .iconst 2, 1), (91, .iload_n 3, 1), (92, .imul, 1), (93, .iconst 1, 1), (94, .iadd, 1), (95, .iaload, 1), (96, .iload 4, 2), (98, .if_icmp .ne 7, 3), (101, .iconst 1, 1), (102, .goto 4, 3), (105, .iconst 0, 1), (106, .istore 6, 2), (108, .iload_n 1, 1), (109, .aload_n 0, 1), (110, .getfield 165, 3), (113, .iload_n 3, 1), (114, .invokestatic 149, 3), (117, .ifCond .eq 12, 3), (120, .iload 6, 2), (122, .ifCond .eq 7, 3), (125, .iconst 0, 1), (126, .goto 6, 3), (129, .iconst 1, 1), (130, .iload_n 2, 1), (131, .ishl, 1), (132, .ior, 1), (133, .istore_n 1, 1), (134, .iinc 2 1, 3), (137, .goto (-133), 3), (140, .iload_n 1, 1), (141, .ireturn, 1)]
theorem D_m_liesNow : ∀ q ∈ T_m_liesNow, decode cX9_liesNow q.1 = .ok q.2 := by decide +kernel
def T_m_lies : List (Nat × Instr × Nat) := [(0, .aload_n 0, 1), (1, .invokevirtual 186, 3), (4, .aload_n 0, 1), (5, .invokevirtual 284, 3), (8, .ireturn, 1)]
theorem D_m_lies : ∀ q ∈ T_m_lies, decode cX9_lies q.1 = .ok q.2 := by decide +kernel
def T_m_scene : List (Nat × Instr × Nat) := [(0, .iload_n 1, 1), (1, .i2l, 1), (2, .lconst 0, 1), (3, .ldc2_w 99, 3), (6, .invokestatic 70, 3), (9, .ifCond .ne 6, 3), (12, .bipush (-2), 2), (14, .ireturn, 1), (15, .aload_n 0, 1), (16, .getfield 287, 3), (19, .bipush 6, 2), (21, .if_icmp .ne 6, 3), (24, .bipush (-4), 2), (26, .ireturn, 1), (27, .aload_n 0, 1), (28, .getfield 67, 3), (31, .aload_n 0, 1), (32, .getfield 287, 3), (35, .iload_n 1, 1), (36, .iconst 1, 1), (37, .ior, 1), (38, .iastore, 1), (39, .aload_n 0, 1), (40, .dup, 1), (41, .getfield 287, 3), (44, .iconst 1, 1), (45, .iadd, 1), (46, .putfield 287, 3), (49, .aload_n 0, 1), (50, .getfield 287, 3), (53, .ireturn, 1)]
theorem D_m_scene : ∀ q ∈ T_m_scene, decode cX9_scene q.1 = .ok q.2 := by decide +kernel
def T_m_scenesOf : List (Nat × Instr × Nat) := [(0, .aload_n 0, 1), (1, .iload_n 1, 1), (2, .invokevirtual 183, 3), (5, .aload_n 0, 1), (6, .iconst 0, 1), (7, .invokevirtual 238, 3), (10, .istore_n 2, 1), (11, .iconst 0, 1), (12, .istore_n 3, 1), (13, .iconst 0, 1), (14, .istore 4, 2), (16, .iload 4, 2), (18, .aload_n 0, 1), (19, .getfield 287, 3), (22, .if_icmp .ge 31, 3), (25, .iload_n 3, 1), (26, .aload_n 0, 1), (27, .getfield 67, 3), (30, .iload 4, 2), (32, .iaload, 1), (33, .iload_n 2, 1), (34, .if_icmp .ne 10, 3), (37, .iconst 1, 1), (38, .iload 4, 2), (40, .ishl, 1), (41, .goto 4, 3), (44, .iconst 0, 1), (45, .ior, 1), (46, .istore_n 3, 1), (47, .iinc 4 1, 3), (50, .goto (-34), 3), (53, .iload_n 3, 1), (54, .ireturn, 1)]
theorem D_m_scenesOf : ∀ q ∈ T_m_scenesOf, decode cX9_scenesOf q.1 = .ok q.2 := by decide +kernel
def T_m_scenes : List (Nat × Instr × Nat) := [(0, .iload_n 1, 1), (1, .i2l, 1), (2, .lconst 0, 1), (3, .aload_n 0, 1), (4, .getfield 133, 3), (7, .i2l, 1), (8, .invokestatic 70, 3), (11, .ifCond .eq 11, 3), (14, .aload_n 0, 1), (15, .iload_n 1, 1), (16, .invokevirtual 290, 3), (19, .goto 5, 3), (22, .bipush (-2), 2), (24, .ireturn, 1)]
theorem D_m_scenes : ∀ q ∈ T_m_scenes, decode cX9_scenes q.1 = .ok q.2 := by decide +kernel
def T_m_cueOf : List (Nat × Instr × Nat) := [(0, .iconst 0, 1), (1, .istore_n 2, 1), (2, .iload_n 2, 1), (3, .aload_n 0, 1), (4, .getfield 133, 3), (7, .if_icmp .gt 23, 3), (10, .aload_n 0, 1), (11, .iload_n 2, 1), (12, .invokevirtual 290, 3), (15, .iload_n 1, 1), (16, .invokestatic 149, 3), (19, .ifCond .eq 5, 3), (22, .iload_n 2, 1), (23, .ireturn, 1), (24, .iinc 2 1, 3), (27, .goto (-25), 3), (30, .iconst (-1), 1), (31, .ireturn, 1)]
theorem D_m_cueOf : ∀ q ∈ T_m_cueOf, decode cX9_cueOf q.1 = .ok q.2 := by decide +kernel
def T_m_cue : List (Nat × Instr × Nat) := [(0, .iload_n 1, 1), (1, .i2l, 1), (2, .lconst 0, 1), (3, .aload_n 0, 1), (4, .getfield 287, 3), (7, .iconst 1, 1), (8, .isub, 1), (9, .i2l, 1), (10, .invokestatic 70, 3), (13, .ifCond .eq 11, 3), (16, .aload_n 0, 1), (17, .iload_n 1, 1), (18, .invokevirtual 293, 3), (21, .goto 5, 3), (24, .bipush (-2), 2), (26, .ireturn, 1)]
theorem D_m_cue : ∀ q ∈ T_m_cue, decode cX9_cue q.1 = .ok q.2 := by decide +kernel
def T_m_forget : List (Nat × Instr × Nat) := [(0, .iload_n 1, 1), (1, .invokestatic 192, 3), (4, .ifCond .ne 6, 3), (7, .bipush (-2), 2), (9, .ireturn, 1), (10, .iload_n 1, 1), (11, .ifCond .ne 10, 3), (14, .aload_n 0, 1), (15, .getfield 281, 3), (18, .goto 7, 3), (21, .aload_n 0, 1), (22, .getfield 287, 3), (25, .istore_n 2, 1), (26, .aload_n 0, 1), (27, .iload_n 1, 1), (28, .ifCond .ne 7, 3), (31, .iconst 0, 1), (32, .goto 7, 3), (35, .aload_n 0, 1), (36, .getfield 281, 3), (39, .putfield 281, 3), (42, .aload_n 0, 1), (43, .iload_n 1, 1), (44, .iconst 1, 1), (45, .if_icmp .ne 7, 3), (48, .iconst 0, 1), (49, .goto 7, 3), (52, .aload_n 0, 1), (53, .getfield 287, 3), (56, .putfield 287, 3), (59, .iload_n 2, 1), (60, .ireturn, 1)]
theorem D_m_forget : ∀ q ∈ T_m_forget, decode cX9_forget q.1 = .ok q.2 := by decide +kernel
def T_m_write : List (Nat × Instr × Nat) := [(0, .iload_n 1, 1), (1, .iload_n 2, 1), (2, .invokestatic 136, 3), (5, .ifCond .eq 10, 3), (8, .iload_n 3, 1), (9, .invokestatic 80, 3), (12, .ifCond .ne 6, 3), (15, .bipush (-2), 2), (17, .ireturn, 1), (18, .aload_n 0, 1), (19, .getfield 7, 3), (22, .iload_n 3, 1), (23, .iaload, 1), (24, .ifCond .ge 9, 3), (27, .aload_n 0, 1), (28, .iconst 1, 1), (29, .invokevirtual 86, 3), (32, .ireturn, 1), (33, .aload_n 0, 1), (34, .invokevirtual 186, 3), (37, .aload_n 0, 1), (38, .iload_n 1, 1), (39, .iload_n 2, 1), (40, .invokevirtual 162, 3), (43, .istore 4, 2), (45, .iload 4, 2), (47, .iconst (-1), 1), (48, .if_icmp .ne 7, 3), (51, .iconst 0, 1), (52, .goto 25, 3), (55, .iload 4, 2), (57, .aload_n 0, 1), (58, .getfield 13, 3), (61, .iload_n 3, 1), (62, .iaload, 1), (63, .if_icmp .ge 8, 3), (66, .iload 4, 2), (68, .goto 9, 3), (71, .aload_n 0, 1), (72, .getfield 13, 3), (75, .iload_n 3, 1), (76, .iaload, 1), (77, .istore 5, 2), (79, .iconst 0, 1), (80, .istore 6, 2), (82, .iload 6, 2), (84, .iload 5, 2), (86, .if_icmp .ge 37, 3), (89, .aload_n 0, 1), (90, .getfield 16, 3), (93, .bipush 60, 2), (95, .iload_n 3, 1), (96, .imul, 1), (97, .iload 6, 2), (99, .iadd, 1), (100, .aload_n 0, 1), (101, .getfield 7, 3), (104, .iload_n 3, 1), (105, .iaload, 1), (106, .aload_n 0, 1), (107, .getfield 43, 3), (110, .iload 6, 2), (112, .iaload, 1), (113, .invokestatic 94, 3), (116, .iastore, 1), (117, .iinc 6 1, 3), (120, .goto (-38), 3), (123, .iload 5, 2), (125, .ireturn, 1)]
theorem D_m_write : ∀ q ∈ T_m_write, decode cX9_write q.1 = .ok q.2 := by decide +kernel
def T_m_count : List (Nat × Instr × Nat) := [(0, .iconst 0, 1), (1, .istore_n 2, 1), (2, .aload_n 0, 1), (3, .invokevirtual 186, 3), (6, .iload_n 1, 1), (7, .tableswitch 123 0 8 #[49, 54, 59, 64, 69, 77, 82, 87, 118], 49), (56, .aload_n 0, 1), (57, .getfield 104, 3), (60, .ireturn, 1), (61, .aload_n 0, 1), (62, .getfield 101, 3), (65, .ireturn, 1), (66, .aload_n 0, 1), (67, .getfield 133, 3), (70, .ireturn, 1), (71, .aload_n 0, 1), (72, .getfield 168, 3), (75, .ireturn, 1), (76, .aload_n 0, 1), (77, .getfield 165, 3), (80, .invokestatic 296, 3), (83, .ireturn, 1), (84, .aload_n 0, 1), (85, .getfield 281, 3), (88, .ireturn, 1), (89, .aload_n 0, 1), (90, .getfield 287, 3), (93, .ireturn, 1), (94, .iconst 0, 1), (95, .istore_n 3, 1), (96, .iload_n 3, 1), (97, .aload_n 0, 1), (98, .getfield 104, 3), (101, .if_icmp .ge 22, 3), (104, .iload_n 2, 1), (105, .aload_n 0, 1), (106, .getfield 25, 3), (109, .iconst 4, 1), (110, .iload_n 3, 1), (111, .imul, 1), (112, .iconst 2, 1), (113, .iadd, 1), (114, .iaload, 1), (115, .iadd, 1), (116, .istore_n 2, 1), (117, .iinc 3 1, 3), (120, .goto (-24), 3), (123, .iload_n 2, 1), (124, .ireturn, 1), (125, .aload_n 0, 1), (126, .getfield 74, 3), (129, .ireturn, 1), (130, .bipush (-2), 2), (132, .ireturn, 1)]
theorem D_m_count : ∀ q ∈ T_m_count, decode cX9_count q.1 = .ok q.2 := by decide +kernel
def T_m_digest : List (Nat × Instr × Nat) := [(0, .ldc2_w 299, 3), (3, .lstore_n 1, 1), (4, .iconst 0, 1), (5, .istore_n 3, 1), (6, .iload_n 3, 1), (7, .bipush 8, 2), (9, .if_icmp .ge 22, 3), (12, .ldc2_w 301, 3), (15, .lload_n 1, 1), (16, .lmul, 1), (17, .aload_n 0, 1), (18, .iload_n 3, 1), (19, .invokevirtual 303, 3), (22, .i2l, 1), (23, .ladd, 1), (24, .lstore_n 1, 1), (25, .iinc 3 1, 3), (28, .goto (-22), 3), (31, .ldc2_w 301, 3), (34, .lload_n 1, 1), (35, .lmul, 1), (36, .aload_n 0, 1), (37, .invokevirtual 118, 3), (40, .i2l, 1), (41, .ladd, 1), (42, .lstore_n 1, 1), (43, .ldc2_w 301, 3), (46, .lload_n 1, 1), (47, .lmul, 1), (48, .aload_n 0, 1), (49, .invokevirtual 306, 3), (52, .i2l, 1), (53, .ladd, 1), (54, .lstore_n 1, 1), (55, .iconst 0, 1), (56, .istore_n 3, 1), (57, .iload_n 3, 1), (58, .aload_n 0, 1), (59, .getfield 104, 3), (62, .if_icmp .ge 57, 3), (65, .iconst 0, 1), (66, .istore 4, 2), (68, .iload 4, 2), (70, .iconst 4, 1), (71, .if_icmp .ge 28, 3), (74, .ldc2_w 301, 3), (77, .lload_n 1, 1), (78, .lmul, 1), (79, .aload_n 0, 1), (80, .getfield 25, 3), (83, .iconst 4, 1), (84, .iload_n 3, 1), (85, .imul, 1), (86, .iload 4, 2), (88, .iadd, 1), (89, .iaload, 1), (90, .i2l, 1), (91, .ladd, 1), (92, .lstore_n 1, 1), (93, .iinc 4 1, 3), (96, .goto (-28), 3), (99, .ldc2_w 301, 3), (102, .lload_n 1, 1), (103, .lmul, 1), (104, .aload_n 0, 1), (105, .getfield 37, 3), (108, .iload_n 3, 1), (109, .iaload, 1), (110, .i2l, 1), (111, .ladd, 1), (112, .lstore_n 1, 1), (113, .iinc 3 1, 3), (116, .goto (-59), 3), (119, .iconst 0, 1), (120, .istore_n 3, 1), (121, .iload_n 3, 1), (122, .bipush 16, 2), (124, .if_icmp .ge 48, 3), (127, .ldc2_w 301, 3), (130, .lload_n 1, 1), (131, .lmul, 1), (132, .aload_n 0, 1), (133, .iload_n 3, 1), (134, .invokevirtual 198, 3), (137, .i2l, 1), (138, .ladd, 1), (139, .lstore_n 1, 1), (140, .ldc2_w 301, 3), (143, .lload_n 1, 1), (144, .lmul, 1), (145, .aload_n 0, 1), (146, .iload_n 3, 1), (147, .invokevirtual 201, 3), (150, .i2l, 1), (151, .ladd, 1), (152, .lstore_n 1, 1), (153, .ldc2_w 301, 3), (156, .lload_n 1, 1), (157, .lmul, 1), (158, .aload_n 0, 1), (159, .iload_n 3, 1), (160, .invokevirtual 222, 3), (163, .i2l, 1), (164, .ladd, 1), (165, .lstore_n 1, 1), (166, .iinc 3 1, 3), (169, .goto (-48), 3), (172, .ldc2_w 301, 3), (175, .lload_n 1, 1), (176, .lmul, 1), (177, .aload_n 0, 1), (178, .getfield 165, 3), (181, .i2l, 1), (182, .ladd, 1), (183, .lstore_n 1, 1), (184, .ldc2_w 301, 3), (187, .lload_n 1, 1), (188, .lmul, 1), (189, .aload_n 0, 1), (190, .invokevirtual 189, 3), (193, .i2l, 1), (194, .ladd, 1), (195, .lstore_n 1, 1), (196, .ldc2_w 301, 3), (199, .lload_n 1, 1), (200, .lmul, 1), (201, .aload_n 0, 1), (202, .invokevirtual 225, 3), (205, .i2l, 1), (206, .ladd, 1), (207, .lstore_n 1, 1), (208, .ldc2_w 301, 3), (211, .lload_n 1, 1), (212, .lmul, 1), (213, .aload_n 0, 1), (214, .bipush 9, 2), (216, .invokevirtual 228, 3), (219, .i2l, 1), (220, .ladd, 1), (221, .lstore_n 1, 1), (222, .ldc2_w 301, 3), (225, .lload_n 1, 1), (226, .lmul, 1), (227, .aload_n 0, 1), (228, .iconst 0, 1), (229, .invokevirtual 238, 3), (232, .i2l, 1), (233, .ladd, 1), (234, .lstore_n 1, 1), (235, .ldc2_w 301, 3), (238, .lload_n 1, 1), (239, .lmul, 1), (240, .aload_n 0, 1), (241, .iconst 5, 1), (242, .invokevirtual 238, 3), (245, .i2l, 1), (246, .ladd, 1), (247, .lstore_n 1, 1), (248, .iconst 1, 1), (249, .istore_n 3, 1), (250, .iload_n 3, 1), (251, .bipush 8, 2), (253, .if_icmp .ge 67, 3), (256, .ldc2_w 301, 3), (259, .lload_n 1, 1), (260, .lmul, 1), (261, .aload_n 0, 1), (262, .iconst 0, 1), (263, .iload_n 3, 1), (264, .iconst (-1), 1), (265, .invokevirtual 204, 3), (268, .i2l, 1), (269, .ladd, 1), (270, .lstore_n 1, 1), (271, .ldc2_w 301, 3), (274, .lload_n 1, 1), (275, .lmul, 1), (276, .aload_n 0, 1), (277, .iconst 0, 1), (278, .iload_n 3, 1), (279, .invokevirtual 216, 3), (282, .i2l, 1), (283, .ladd, 1), (284, .lstore_n 1, 1), (285, .ldc2_w 301, 3), (288, .lload_n 1, 1), (289, .lmul, 1), (290, .aload_n 0, 1), (291, .iconst 0, 1), (292, .iload_n 3, 1), (293, .invokevirtual 219, 3), (296, .i2l, 1), (297, .ladd, 1), (298, .lstore_n 1, 1), (299, .ldc2_w 301, 3), (302, .lload_n 1, 1), (303, .lmul, 1), (304, .aload_n 0, 1), (305, .iconst 0, 1), (306, .iconst 3, 1), (307, .iload_n 3, 1), (308, .invokevirtual 268, 3), (311, .i2l, 1), (312, .ladd, 1), (313, .lstore_n 1, 1), (314, .iinc 3 1, 3), (317, .goto (-67), 3), (320, .aload_n 0, 1), (321, .bipush 14, 2), (323, .invokevirtual 245, 3), (326, .iconst 0, 1), (327, .istore_n 3, 1), (328, .iload_n 3, 1), (329, .iconst 3, 1), (330, .if_icmp .ge 23, 3), (333, .ldc2_w 301, 3), (336, .lload_n 1, 1), (337, .lmul, 1), (338, .aload_n 0, 1), (339, .getfield 55, 3), (342, .iload_n 3, 1), (343, .iaload, 1), (344, .i2l, 1), (345, .ladd, 1), (346, .lstore_n 1, 1), (347, .iinc 3 1, 3), (350, .goto (-22), 3), (353, .ldc2_w 301, 3), (356, .lload_n 1, 1), (357, .lmul, 1), (358, .aload_n 0, 1), (359, .iconst 0, 1), (360, .iconst 4, 1), (361, .iconst (-1), 1), (362, .invokevirtual 268, 3), (365, .i2l, 1), (366, .ladd, 1), (367, .lstore_n 1, 1), (368, .ldc2_w 301, 3), (371, .lload_n 1, 1), (372, .lmul, 1), (373, .aload_n 0, 1), (374, .bipush 7, 2), (376, .iconst 0, 1), (377, .bipush 9, 2), (379, .invokevirtual 278, 3), (382, .i2l, 1), (383, .ladd, 1), (384, .lstore_n 1, 1), (385, .ldc2_w 301, 3), (388, .lload_n 1, 1), (389, .lmul, 1), (390, .aload_n 0, 1), (391, .invokevirtual 284, 3), (394, .i2l, 1), (395, .ladd, 1), (396, .lstore_n 1, 1), (397, .ldc2_w 301, 3), (400, .lload_n 1, 1), (401, .lmul, 1), (402, .aload_n 0, 1), (403, .aload_n 0, 1), (404, .getfield 133, 3), (407, .invokevirtual 290, 3), (410, .i2l, 1), (411, .ladd, 1), (412, .lstore_n 1, 1), (413, .ldc2_w 301, 3), (416, .lload_n 1, 1), (417, .lmul, 1), (418, .aload_n 0, 1), (419, .iconst 0, 1), (420, .invokevirtual 309, 3), (423, .i2l, 1), (424, .ladd, 1), (425, .lreturn, 1)]
theorem D_m_digest : ∀ q ∈ T_m_digest, decode cX9_digest q.1 = .ok q.2 := by decide +kernel
def T_k_bitCount : List (Nat × Instr × Nat) := [(0, .iload_n 0, 1), (1, .iload_n 0, 1), (2, .iconst 1, 1), (3, .iushr, 1), (4, .ldc_w 265, 3), (7, .iand, 1), (8, .isub, 1), (9, .istore_n 0, 1), (10, .iload_n 0, 1), (11, .ldc_w 266, 3), (14, .iand, 1), (15, .iload_n 0, 1), (16, .iconst 2, 1), (17, .iushr, 1), (18, .ldc_w 266, 3), (21, .iand, 1), (22, .iadd, 1), (23, .istore_n 0, 1), (24, .iload_n 0, 1), (25, .iload_n 0, 1), (26, .iconst 4, 1), (27, .iushr, 1), (28, .iadd, 1), (29, .ldc_w 267, 3), (32, .iand, 1), (33, .istore_n 0, 1), (34, .iload_n 0, 1), (35, .iload_n 0, 1), (36, .bipush 8, 2), (38, .iushr, 1), (39, .iadd, 1), (40, .istore_n 0, 1), (41, .iload_n 0, 1), (42, .iload_n 0, 1), (43, .bipush 16, 2), (45, .iushr, 1), (46, .iadd, 1), (47, .istore_n 0, 1), (48, .iload_n 0, 1), (49, .bipush 63, 2), (51, .iand, 1), (52, .ireturn, 1)]
theorem D_k_bitCount : ∀ q ∈ T_k_bitCount, decode cJ6_bitCount_0f7a4 q.1 = .ok q.2 := by decide +kernel
def T_k_abs : List (Nat × Instr × Nat) := [(0, .iload_n 0, 1), (1, .ifCond .ge 8, 3), (4, .iload_n 0, 1), (5, .ineg, 1), (6, .goto 4, 3), (9, .iload_n 0, 1), (10, .ireturn, 1)]
theorem D_k_abs : ∀ q ∈ T_k_abs, decode cJ9_abs_0f7a4 q.1 = .ok q.2 := by decide +kernel
def T_k_max : List (Nat × Instr × Nat) := [(0, .iload_n 0, 1), (1, .iload_n 1, 1), (2, .if_icmp .lt 7, 3), (5, .iload_n 0, 1), (6, .goto 4, 3), (9, .iload_n 1, 1), (10, .ireturn, 1)]
theorem D_k_max : ∀ q ∈ T_k_max, decode cJ9_max_7cf53 q.1 = .ok q.2 := by decide +kernel
def T_k_min : List (Nat × Instr × Nat) := [(0, .iload_n 0, 1), (1, .iload_n 1, 1), (2, .if_icmp .gt 7, 3), (5, .iload_n 0, 1), (6, .goto 4, 3), (9, .iload_n 1, 1), (10, .ireturn, 1)]
theorem D_k_min : ∀ q ∈ T_k_min, decode cJ9_min_7cf53 q.1 = .ok q.2 := by decide +kernel
def T_k_fill : List (Nat × Instr × Nat) := [(0, .iconst 0, 1), (1, .istore_n 2, 1), (2, .aload_n 0, 1), (3, .arraylength, 1), (4, .istore_n 3, 1), (5, .iload_n 2, 1), (6, .iload_n 3, 1), (7, .if_icmp .ge 13, 3), (10, .aload_n 0, 1), (11, .iload_n 2, 1), (12, .iload_n 1, 1), (13, .iastore, 1), (14, .iinc 2 1, 3), (17, .goto (-12), 3), (20, .return_, 1)]
theorem D_k_fill : ∀ q ∈ T_k_fill, decode cJ7_fill_53178 q.1 = .ok q.2 := by decide +kernel
end
