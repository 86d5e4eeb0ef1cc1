section
-- ===== PART A: goes FIRST, ahead of the names: the tables' words, and 'selects' of the private methods out of them =====
/-- a private method of a class that the tables say can be made, by its rows of tables_1 -/
def lw_okq (q : MethodName × Nat) : Prop := (q.1.cls ≠ "java/lang/invoke/MethodHandle" ∧ q.1.cls ≠ "java/lang/invoke/VarHandle") ∧ Cond.instantiable q.1.cls q.2 ∈ tables_1 ∧ Cond.privateMethod q.1 ∈ tables_1 ∧ Cond.instanceMethod q.1 ∈ tables_1
theorem lw_p0 : lw_okq (⟨"PromiseWheel$History", "rowAt", "(I)LPromiseWheel$State;"⟩, 3) := ⟨⟨by decide +kernel, by decide +kernel⟩, List.mem_of_getElem? (i := 154) (by decide +kernel), List.mem_of_getElem? (i := 260) (by decide +kernel), List.mem_of_getElem? (i := 261) (by decide +kernel)⟩
theorem lw_p1 : lw_okq (⟨"PromiseWheel$Wheel", "lineFor", "(I)I"⟩, 13) := ⟨⟨by decide +kernel, by decide +kernel⟩, List.mem_of_getElem? (i := 34) (by decide +kernel), List.mem_of_getElem? (i := 305) (by decide +kernel), List.mem_of_getElem? (i := 306) (by decide +kernel)⟩
theorem lw_p2 : lw_okq (⟨"PromiseWheel", "recorded", "(I)I"⟩, 4) := ⟨⟨by decide +kernel, by decide +kernel⟩, List.mem_of_getElem? (i := 20) (by decide +kernel), List.mem_of_getElem? (i := 313) (by decide +kernel), List.mem_of_getElem? (i := 314) (by decide +kernel)⟩
theorem lw_p3 : lw_okq (⟨"PromiseWheel$Wheel", "letFall", "(I)V"⟩, 13) := ⟨⟨by decide +kernel, by decide +kernel⟩, List.mem_of_getElem? (i := 34) (by decide +kernel), List.mem_of_getElem? (i := 386) (by decide +kernel), List.mem_of_getElem? (i := 387) (by decide +kernel)⟩
theorem lw_p4 : lw_okq (⟨"PromiseWheel$Wheel", "presentSlot", "(I)I"⟩, 13) := ⟨⟨by decide +kernel, by decide +kernel⟩, List.mem_of_getElem? (i := 34) (by decide +kernel), List.mem_of_getElem? (i := 390) (by decide +kernel), List.mem_of_getElem? (i := 391) (by decide +kernel)⟩
theorem lw_p5 : lw_okq (⟨"PromiseWheel$Wheel", "noteSwept", "(I)V"⟩, 13) := ⟨⟨by decide +kernel, by decide +kernel⟩, List.mem_of_getElem? (i := 34) (by decide +kernel), List.mem_of_getElem? (i := 402) (by decide +kernel), List.mem_of_getElem? (i := 403) (by decide +kernel)⟩
theorem lw_p6 : lw_okq (⟨"PromiseWheel$Wheel", "letArrive", "()V"⟩, 13) := ⟨⟨by decide +kernel, by decide +kernel⟩, List.mem_of_getElem? (i := 34) (by decide +kernel), List.mem_of_getElem? (i := 406) (by decide +kernel), List.mem_of_getElem? (i := 407) (by decide +kernel)⟩
theorem lw_p7 : lw_okq (⟨"PromiseWheel$Wheel", "serveQueue", "()V"⟩, 13) := ⟨⟨by decide +kernel, by decide +kernel⟩, List.mem_of_getElem? (i := 34) (by decide +kernel), List.mem_of_getElem? (i := 410) (by decide +kernel), List.mem_of_getElem? (i := 411) (by decide +kernel)⟩
theorem lw_p8 : lw_okq (⟨"PromiseWheel$Wheel", "callPromise", "(I)V"⟩, 13) := ⟨⟨by decide +kernel, by decide +kernel⟩, List.mem_of_getElem? (i := 34) (by decide +kernel), List.mem_of_getElem? (i := 414) (by decide +kernel), List.mem_of_getElem? (i := 415) (by decide +kernel)⟩
theorem lw_p9 : lw_okq (⟨"PromiseWheel$Wheel", "dueOfRepetition", "(II)I"⟩, 13) := ⟨⟨by decide +kernel, by decide +kernel⟩, List.mem_of_getElem? (i := 34) (by decide +kernel), List.mem_of_getElem? (i := 425) (by decide +kernel), List.mem_of_getElem? (i := 426) (by decide +kernel)⟩
theorem lw_p10 : lw_okq (⟨"PromiseWheel$Text", "at", "(I)I"⟩, 5) := ⟨⟨by decide +kernel, by decide +kernel⟩, List.mem_of_getElem? (i := 179) (by decide +kernel), List.mem_of_getElem? (i := 517) (by decide +kernel), List.mem_of_getElem? (i := 518) (by decide +kernel)⟩
theorem lw_p11 : lw_okq (⟨"PromiseWheel$Program", "commandOfWord", "()I"⟩, 8) := ⟨⟨by decide +kernel, by decide +kernel⟩, List.mem_of_getElem? (i := 173) (by decide +kernel), List.mem_of_getElem? (i := 528) (by decide +kernel), List.mem_of_getElem? (i := 529) (by decide +kernel)⟩
theorem lw_p12 : lw_okq (⟨"PromiseWheel$Program", "failAtToken", "()Z"⟩, 8) := ⟨⟨by decide +kernel, by decide +kernel⟩, List.mem_of_getElem? (i := 173) (by decide +kernel), List.mem_of_getElem? (i := 593) (by decide +kernel), List.mem_of_getElem? (i := 594) (by decide +kernel)⟩
theorem lw_p13 : lw_okq (⟨"PromiseWheel$Program", "fail", "(III)V"⟩, 8) := ⟨⟨by decide +kernel, by decide +kernel⟩, List.mem_of_getElem? (i := 173) (by decide +kernel), List.mem_of_getElem? (i := 597) (by decide +kernel), List.mem_of_getElem? (i := 598) (by decide +kernel)⟩
theorem lw_p14 : lw_okq (⟨"PromiseWheel", "performCommand", "()I"⟩, 4) := ⟨⟨by decide +kernel, by decide +kernel⟩, List.mem_of_getElem? (i := 20) (by decide +kernel), List.mem_of_getElem? (i := 616) (by decide +kernel), List.mem_of_getElem? (i := 617) (by decide +kernel)⟩
theorem lw_p15 : lw_okq (⟨"PromiseWheel$Wheel", "brokenIn", "(I)I"⟩, 13) := ⟨⟨by decide +kernel, by decide +kernel⟩, List.mem_of_getElem? (i := 34) (by decide +kernel), List.mem_of_getElem? (i := 699) (by decide +kernel), List.mem_of_getElem? (i := 700) (by decide +kernel)⟩
def lw_privs_1 : List (MethodName × Nat) := [(⟨"PromiseWheel$History", "rowAt", "(I)LPromiseWheel$State;"⟩, 3), (⟨"PromiseWheel$Wheel", "lineFor", "(I)I"⟩, 13), (⟨"PromiseWheel", "recorded", "(I)I"⟩, 4), (⟨"PromiseWheel$Wheel", "letFall", "(I)V"⟩, 13), (⟨"PromiseWheel$Wheel", "presentSlot", "(I)I"⟩, 13), (⟨"PromiseWheel$Wheel", "noteSwept", "(I)V"⟩, 13), (⟨"PromiseWheel$Wheel", "letArrive", "()V"⟩, 13), (⟨"PromiseWheel$Wheel", "serveQueue", "()V"⟩, 13), (⟨"PromiseWheel$Wheel", "callPromise", "(I)V"⟩, 13), (⟨"PromiseWheel$Wheel", "dueOfRepetition", "(II)I"⟩, 13), (⟨"PromiseWheel$Text", "at", "(I)I"⟩, 5), (⟨"PromiseWheel$Program", "commandOfWord", "()I"⟩, 8), (⟨"PromiseWheel$Program", "failAtToken", "()Z"⟩, 8), (⟨"PromiseWheel$Program", "fail", "(III)V"⟩, 8), (⟨"PromiseWheel", "performCommand", "()I"⟩, 4), (⟨"PromiseWheel$Wheel", "brokenIn", "(I)I"⟩, 13)]
theorem lw_r1 : ∀ q ∈ lw_privs_1, lw_okq q := List.forall_mem_cons.mpr ⟨lw_p0, List.forall_mem_cons.mpr ⟨lw_p1, List.forall_mem_cons.mpr ⟨lw_p2, List.forall_mem_cons.mpr ⟨lw_p3, List.forall_mem_cons.mpr ⟨lw_p4, List.forall_mem_cons.mpr ⟨lw_p5, List.forall_mem_cons.mpr ⟨lw_p6, List.forall_mem_cons.mpr ⟨lw_p7, List.forall_mem_cons.mpr ⟨lw_p8, List.forall_mem_cons.mpr ⟨lw_p9, List.forall_mem_cons.mpr ⟨lw_p10, List.forall_mem_cons.mpr ⟨lw_p11, List.forall_mem_cons.mpr ⟨lw_p12, List.forall_mem_cons.mpr ⟨lw_p13, List.forall_mem_cons.mpr ⟨lw_p14, List.forall_mem_cons.mpr ⟨lw_p15, fun _ h => absurd h List.not_mem_nil⟩⟩⟩⟩⟩⟩⟩⟩⟩⟩⟩⟩⟩⟩⟩⟩
theorem lw_p16 : lw_okq (⟨"PromiseWheel$Wheel", "earliestIn", "(I)I"⟩, 13) := ⟨⟨by decide +kernel, by decide +kernel⟩, List.mem_of_getElem? (i := 34) (by decide +kernel), List.mem_of_getElem? (i := 704) (by decide +kernel), List.mem_of_getElem? (i := 705) (by decide +kernel)⟩
theorem lw_p17 : lw_okq (⟨"PromiseWheel$Wheel", "earliestInRing", "(I)I"⟩, 13) := ⟨⟨by decide +kernel, by decide +kernel⟩, List.mem_of_getElem? (i := 34) (by decide +kernel), List.mem_of_getElem? (i := 742) (by decide +kernel), List.mem_of_getElem? (i := 743) (by decide +kernel)⟩
theorem lw_p18 : lw_okq (⟨"PromiseWheel$Forecast", "isTimely", "(I)Z"⟩, 1) := ⟨⟨by decide +kernel, by decide +kernel⟩, List.mem_of_getElem? (i := 227) (by decide +kernel), List.mem_of_getElem? (i := 778) (by decide +kernel), List.mem_of_getElem? (i := 779) (by decide +kernel)⟩
theorem lw_p19 : lw_okq (⟨"PromiseWheelModel", "record", "()V"⟩, 16) := ⟨⟨by decide +kernel, by decide +kernel⟩, List.mem_of_getElem? (i := 782) (by decide +kernel), List.mem_of_getElem? (i := 846) (by decide +kernel), List.mem_of_getElem? (i := 847) (by decide +kernel)⟩
theorem lw_p20 : lw_okq (⟨"PromiseWheelModel", "push", "(Z)V"⟩, 16) := ⟨⟨by decide +kernel, by decide +kernel⟩, List.mem_of_getElem? (i := 782) (by decide +kernel), List.mem_of_getElem? (i := 850) (by decide +kernel), List.mem_of_getElem? (i := 851) (by decide +kernel)⟩
theorem lw_p21 : lw_okq (⟨"PromiseWheelModel", "standByDistance", "(I)V"⟩, 16) := ⟨⟨by decide +kernel, by decide +kernel⟩, List.mem_of_getElem? (i := 782) (by decide +kernel), List.mem_of_getElem? (i := 862) (by decide +kernel), List.mem_of_getElem? (i := 863) (by decide +kernel)⟩
theorem lw_p22 : lw_okq (⟨"PromiseWheelModel", "stand", "(II)V"⟩, 16) := ⟨⟨by decide +kernel, by decide +kernel⟩, List.mem_of_getElem? (i := 782) (by decide +kernel), List.mem_of_getElem? (i := 866) (by decide +kernel), List.mem_of_getElem? (i := 867) (by decide +kernel)⟩
theorem lw_p23 : lw_okq (⟨"PromiseWheelModel", "isPromise", "(I)Z"⟩, 16) := ⟨⟨by decide +kernel, by decide +kernel⟩, List.mem_of_getElem? (i := 782) (by decide +kernel), List.mem_of_getElem? (i := 874) (by decide +kernel), List.mem_of_getElem? (i := 875) (by decide +kernel)⟩
theorem lw_p24 : lw_okq (⟨"PromiseWheelModel", "inState", "(I)I"⟩, 16) := ⟨⟨by decide +kernel, by decide +kernel⟩, List.mem_of_getElem? (i := 782) (by decide +kernel), List.mem_of_getElem? (i := 878) (by decide +kernel), List.mem_of_getElem? (i := 879) (by decide +kernel)⟩
theorem lw_p25 : lw_okq (⟨"PromiseWheelModel", "tick", "()V"⟩, 16) := ⟨⟨by decide +kernel, by decide +kernel⟩, List.mem_of_getElem? (i := 782) (by decide +kernel), List.mem_of_getElem? (i := 890) (by decide +kernel), List.mem_of_getElem? (i := 891) (by decide +kernel)⟩
theorem lw_p26 : lw_okq (⟨"PromiseWheelModel", "fall", "(I)V"⟩, 16) := ⟨⟨by decide +kernel, by decide +kernel⟩, List.mem_of_getElem? (i := 782) (by decide +kernel), List.mem_of_getElem? (i := 894) (by decide +kernel), List.mem_of_getElem? (i := 895) (by decide +kernel)⟩
theorem lw_p27 : lw_okq (⟨"PromiseWheelModel", "manyAt", "(I)I"⟩, 16) := ⟨⟨by decide +kernel, by decide +kernel⟩, List.mem_of_getElem? (i := 782) (by decide +kernel), List.mem_of_getElem? (i := 898) (by decide +kernel), List.mem_of_getElem? (i := 899) (by decide +kernel)⟩
theorem lw_p28 : lw_okq (⟨"PromiseWheelModel", "front", "(I)I"⟩, 16) := ⟨⟨by decide +kernel, by decide +kernel⟩, List.mem_of_getElem? (i := 782) (by decide +kernel), List.mem_of_getElem? (i := 902) (by decide +kernel), List.mem_of_getElem? (i := 903) (by decide +kernel)⟩
theorem lw_p29 : lw_okq (⟨"PromiseWheelModel", "sweepOne", "(I)V"⟩, 16) := ⟨⟨by decide +kernel, by decide +kernel⟩, List.mem_of_getElem? (i := 782) (by decide +kernel), List.mem_of_getElem? (i := 906) (by decide +kernel), List.mem_of_getElem? (i := 907) (by decide +kernel)⟩
theorem lw_p30 : lw_okq (⟨"PromiseWheelModel", "getReady", "(I)V"⟩, 16) := ⟨⟨by decide +kernel, by decide +kernel⟩, List.mem_of_getElem? (i := 782) (by decide +kernel), List.mem_of_getElem? (i := 910) (by decide +kernel), List.mem_of_getElem? (i := 911) (by decide +kernel)⟩
theorem lw_p31 : lw_okq (⟨"PromiseWheelModel", "callSome", "()V"⟩, 16) := ⟨⟨by decide +kernel, by decide +kernel⟩, List.mem_of_getElem? (i := 782) (by decide +kernel), List.mem_of_getElem? (i := 914) (by decide +kernel), List.mem_of_getElem? (i := 915) (by decide +kernel)⟩
def lw_privs_2 : List (MethodName × Nat) := [(⟨"PromiseWheel$Wheel", "earliestIn", "(I)I"⟩, 13), (⟨"PromiseWheel$Wheel", "earliestInRing", "(I)I"⟩, 13), (⟨"PromiseWheel$Forecast", "isTimely", "(I)Z"⟩, 1), (⟨"PromiseWheelModel", "record", "()V"⟩, 16), (⟨"PromiseWheelModel", "push", "(Z)V"⟩, 16), (⟨"PromiseWheelModel", "standByDistance", "(I)V"⟩, 16), (⟨"PromiseWheelModel", "stand", "(II)V"⟩, 16), (⟨"PromiseWheelModel", "isPromise", "(I)Z"⟩, 16), (⟨"PromiseWheelModel", "inState", "(I)I"⟩, 16), (⟨"PromiseWheelModel", "tick", "()V"⟩, 16), (⟨"PromiseWheelModel", "fall", "(I)V"⟩, 16), (⟨"PromiseWheelModel", "manyAt", "(I)I"⟩, 16), (⟨"PromiseWheelModel", "front", "(I)I"⟩, 16), (⟨"PromiseWheelModel", "sweepOne", "(I)V"⟩, 16), (⟨"PromiseWheelModel", "getReady", "(I)V"⟩, 16), (⟨"PromiseWheelModel", "callSome", "()V"⟩, 16)]
theorem lw_r2 : ∀ q ∈ lw_privs_2, lw_okq q := List.forall_mem_cons.mpr ⟨lw_p16, List.forall_mem_cons.mpr ⟨lw_p17, List.forall_mem_cons.mpr ⟨lw_p18, List.forall_mem_cons.mpr ⟨lw_p19, List.forall_mem_cons.mpr ⟨lw_p20, List.forall_mem_cons.mpr ⟨lw_p21, List.forall_mem_cons.mpr ⟨lw_p22, List.forall_mem_cons.mpr ⟨lw_p23, List.forall_mem_cons.mpr ⟨lw_p24, List.forall_mem_cons.mpr ⟨lw_p25, List.forall_mem_cons.mpr ⟨lw_p26, List.forall_mem_cons.mpr ⟨lw_p27, List.forall_mem_cons.mpr ⟨lw_p28, List.forall_mem_cons.mpr ⟨lw_p29, List.forall_mem_cons.mpr ⟨lw_p30, List.forall_mem_cons.mpr ⟨lw_p31, fun _ h => absurd h List.not_mem_nil⟩⟩⟩⟩⟩⟩⟩⟩⟩⟩⟩⟩⟩⟩⟩⟩
theorem lw_p32 : lw_okq (⟨"PromiseWheelModel", "callOne", "(I)V"⟩, 16) := ⟨⟨by decide +kernel, by decide +kernel⟩, List.mem_of_getElem? (i := 782) (by decide +kernel), List.mem_of_getElem? (i := 918) (by decide +kernel), List.mem_of_getElem? (i := 919) (by decide +kernel)⟩
theorem lw_p33 : lw_okq (⟨"PromiseWheelModel", "noteCall", "(I)V"⟩, 16) := ⟨⟨by decide +kernel, by decide +kernel⟩, List.mem_of_getElem? (i := 782) (by decide +kernel), List.mem_of_getElem? (i := 922) (by decide +kernel), List.mem_of_getElem? (i := 923) (by decide +kernel)⟩
theorem lw_p34 : lw_okq (⟨"PromiseWheelModel", "sweepAll", "()I"⟩, 16) := ⟨⟨by decide +kernel, by decide +kernel⟩, List.mem_of_getElem? (i := 782) (by decide +kernel), List.mem_of_getElem? (i := 926) (by decide +kernel), List.mem_of_getElem? (i := 927) (by decide +kernel)⟩
theorem lw_p35 : lw_okq (⟨"PromiseWheelModel", "readToken", "()V"⟩, 16) := ⟨⟨by decide +kernel, by decide +kernel⟩, List.mem_of_getElem? (i := 782) (by decide +kernel), List.mem_of_getElem? (i := 950) (by decide +kernel), List.mem_of_getElem? (i := 951) (by decide +kernel)⟩
theorem lw_p36 : lw_okq (⟨"PromiseWheelModel", "isSmall", "(I)Z"⟩, 16) := ⟨⟨by decide +kernel, by decide +kernel⟩, List.mem_of_getElem? (i := 782) (by decide +kernel), List.mem_of_getElem? (i := 954) (by decide +kernel), List.mem_of_getElem? (i := 955) (by decide +kernel)⟩
theorem lw_p37 : lw_okq (⟨"PromiseWheelModel", "isDigit", "(I)Z"⟩, 16) := ⟨⟨by decide +kernel, by decide +kernel⟩, List.mem_of_getElem? (i := 782) (by decide +kernel), List.mem_of_getElem? (i := 958) (by decide +kernel), List.mem_of_getElem? (i := 959) (by decide +kernel)⟩
theorem lw_p38 : lw_okq (⟨"PromiseWheelModel", "command", "()I"⟩, 16) := ⟨⟨by decide +kernel, by decide +kernel⟩, List.mem_of_getElem? (i := 782) (by decide +kernel), List.mem_of_getElem? (i := 962) (by decide +kernel), List.mem_of_getElem? (i := 963) (by decide +kernel)⟩
theorem lw_p39 : lw_okq (⟨"PromiseWheelModel", "spells", "(III)Z"⟩, 16) := ⟨⟨by decide +kernel, by decide +kernel⟩, List.mem_of_getElem? (i := 782) (by decide +kernel), List.mem_of_getElem? (i := 966) (by decide +kernel), List.mem_of_getElem? (i := 967) (by decide +kernel)⟩
theorem lw_p40 : lw_okq (⟨"PromiseWheelModel", "readNumbers", "(I)Z"⟩, 16) := ⟨⟨by decide +kernel, by decide +kernel⟩, List.mem_of_getElem? (i := 782) (by decide +kernel), List.mem_of_getElem? (i := 973) (by decide +kernel), List.mem_of_getElem? (i := 974) (by decide +kernel)⟩
theorem lw_p41 : lw_okq (⟨"PromiseWheelModel", "isNumber", "()Z"⟩, 16) := ⟨⟨by decide +kernel, by decide +kernel⟩, List.mem_of_getElem? (i := 782) (by decide +kernel), List.mem_of_getElem? (i := 977) (by decide +kernel), List.mem_of_getElem? (i := 978) (by decide +kernel)⟩
theorem lw_p42 : lw_okq (⟨"PromiseWheelModel", "number", "()I"⟩, 16) := ⟨⟨by decide +kernel, by decide +kernel⟩, List.mem_of_getElem? (i := 782) (by decide +kernel), List.mem_of_getElem? (i := 981) (by decide +kernel), List.mem_of_getElem? (i := 982) (by decide +kernel)⟩
theorem lw_p43 : lw_okq (⟨"PromiseWheelModel", "fail", "(IIII)I"⟩, 16) := ⟨⟨by decide +kernel, by decide +kernel⟩, List.mem_of_getElem? (i := 782) (by decide +kernel), List.mem_of_getElem? (i := 985) (by decide +kernel), List.mem_of_getElem? (i := 986) (by decide +kernel)⟩
theorem lw_p44 : lw_okq (⟨"PromiseWheelModel", "does", "(I)I"⟩, 16) := ⟨⟨by decide +kernel, by decide +kernel⟩, List.mem_of_getElem? (i := 782) (by decide +kernel), List.mem_of_getElem? (i := 989) (by decide +kernel), List.mem_of_getElem? (i := 990) (by decide +kernel)⟩
theorem lw_p45 : lw_okq (⟨"PromiseWheelModel", "snapshots", "()I"⟩, 16) := ⟨⟨by decide +kernel, by decide +kernel⟩, List.mem_of_getElem? (i := 782) (by decide +kernel), List.mem_of_getElem? (i := 1006) (by decide +kernel), List.mem_of_getElem? (i := 1007) (by decide +kernel)⟩
theorem lw_p46 : lw_okq (⟨"PromiseWheelModel", "placeOf", "(I)I"⟩, 16) := ⟨⟨by decide +kernel, by decide +kernel⟩, List.mem_of_getElem? (i := 782) (by decide +kernel), List.mem_of_getElem? (i := 1014) (by decide +kernel), List.mem_of_getElem? (i := 1015) (by decide +kernel)⟩
theorem lw_p47 : lw_okq (⟨"PromiseWheelModel", "bestAt", "(I)I"⟩, 16) := ⟨⟨by decide +kernel, by decide +kernel⟩, List.mem_of_getElem? (i := 782) (by decide +kernel), List.mem_of_getElem? (i := 1034) (by decide +kernel), List.mem_of_getElem? (i := 1035) (by decide +kernel)⟩
def lw_privs_3 : List (MethodName × Nat) := [(⟨"PromiseWheelModel", "callOne", "(I)V"⟩, 16), (⟨"PromiseWheelModel", "noteCall", "(I)V"⟩, 16), (⟨"PromiseWheelModel", "sweepAll", "()I"⟩, 16), (⟨"PromiseWheelModel", "readToken", "()V"⟩, 16), (⟨"PromiseWheelModel", "isSmall", "(I)Z"⟩, 16), (⟨"PromiseWheelModel", "isDigit", "(I)Z"⟩, 16), (⟨"PromiseWheelModel", "command", "()I"⟩, 16), (⟨"PromiseWheelModel", "spells", "(III)Z"⟩, 16), (⟨"PromiseWheelModel", "readNumbers", "(I)Z"⟩, 16), (⟨"PromiseWheelModel", "isNumber", "()Z"⟩, 16), (⟨"PromiseWheelModel", "number", "()I"⟩, 16), (⟨"PromiseWheelModel", "fail", "(IIII)I"⟩, 16), (⟨"PromiseWheelModel", "does", "(I)I"⟩, 16), (⟨"PromiseWheelModel", "snapshots", "()I"⟩, 16), (⟨"PromiseWheelModel", "placeOf", "(I)I"⟩, 16), (⟨"PromiseWheelModel", "bestAt", "(I)I"⟩, 16)]
theorem lw_r3 : ∀ q ∈ lw_privs_3, lw_okq q := List.forall_mem_cons.mpr ⟨lw_p32, List.forall_mem_cons.mpr ⟨lw_p33, List.forall_mem_cons.mpr ⟨lw_p34, List.forall_mem_cons.mpr ⟨lw_p35, List.forall_mem_cons.mpr ⟨lw_p36, List.forall_mem_cons.mpr ⟨lw_p37, List.forall_mem_cons.mpr ⟨lw_p38, List.forall_mem_cons.mpr ⟨lw_p39, List.forall_mem_cons.mpr ⟨lw_p40, List.forall_mem_cons.mpr ⟨lw_p41, List.forall_mem_cons.mpr ⟨lw_p42, List.forall_mem_cons.mpr ⟨lw_p43, List.forall_mem_cons.mpr ⟨lw_p44, List.forall_mem_cons.mpr ⟨lw_p45, List.forall_mem_cons.mpr ⟨lw_p46, List.forall_mem_cons.mpr ⟨lw_p47, fun _ h => absurd h List.not_mem_nil⟩⟩⟩⟩⟩⟩⟩⟩⟩⟩⟩⟩⟩⟩⟩⟩
theorem lw_p48 : lw_okq (⟨"PromiseWheelModel", "better", "(II)I"⟩, 16) := ⟨⟨by decide +kernel, by decide +kernel⟩, List.mem_of_getElem? (i := 782) (by decide +kernel), List.mem_of_getElem? (i := 1038) (by decide +kernel), List.mem_of_getElem? (i := 1039) (by decide +kernel)⟩
theorem lw_p49 : lw_okq (⟨"PromiseWheelModel", "bestOfRing", "(I)I"⟩, 16) := ⟨⟨by decide +kernel, by decide +kernel⟩, List.mem_of_getElem? (i := 782) (by decide +kernel), List.mem_of_getElem? (i := 1042) (by decide +kernel), List.mem_of_getElem? (i := 1043) (by decide +kernel)⟩
theorem lw_p50 : lw_okq (⟨"PromiseWheelModel", "keepAside", "()V"⟩, 16) := ⟨⟨by decide +kernel, by decide +kernel⟩, List.mem_of_getElem? (i := 782) (by decide +kernel), List.mem_of_getElem? (i := 1050) (by decide +kernel), List.mem_of_getElem? (i := 1051) (by decide +kernel)⟩
theorem lw_p51 : lw_okq (⟨"PromiseWheelModel", "bringBack", "()V"⟩, 16) := ⟨⟨by decide +kernel, by decide +kernel⟩, List.mem_of_getElem? (i := 782) (by decide +kernel), List.mem_of_getElem? (i := 1054) (by decide +kernel), List.mem_of_getElem? (i := 1055) (by decide +kernel)⟩
theorem lw_p52 : lw_okq (⟨"PromiseWheelModel", "isNeverLate", "(II)Z"⟩, 16) := ⟨⟨by decide +kernel, by decide +kernel⟩, List.mem_of_getElem? (i := 782) (by decide +kernel), List.mem_of_getElem? (i := 1066) (by decide +kernel), List.mem_of_getElem? (i := 1067) (by decide +kernel)⟩
def lw_privs_4 : List (MethodName × Nat) := [(⟨"PromiseWheelModel", "better", "(II)I"⟩, 16), (⟨"PromiseWheelModel", "bestOfRing", "(I)I"⟩, 16), (⟨"PromiseWheelModel", "keepAside", "()V"⟩, 16), (⟨"PromiseWheelModel", "bringBack", "()V"⟩, 16), (⟨"PromiseWheelModel", "isNeverLate", "(II)Z"⟩, 16)]
theorem lw_r4 : ∀ q ∈ lw_privs_4, lw_okq q := List.forall_mem_cons.mpr ⟨lw_p48, List.forall_mem_cons.mpr ⟨lw_p49, List.forall_mem_cons.mpr ⟨lw_p50, List.forall_mem_cons.mpr ⟨lw_p51, List.forall_mem_cons.mpr ⟨lw_p52, fun _ h => absurd h List.not_mem_nil⟩⟩⟩⟩⟩
def lw_privs : List (MethodName × Nat) := lw_privs_1 ++ (lw_privs_2 ++ (lw_privs_3 ++ (lw_privs_4)))
def lw_tbl : List Cond := k2_sels lw_privs ++ tables_1
theorem lw_privs_ok : ∀ q ∈ lw_privs, lw_okq q := by
  show ∀ q ∈ lw_privs_1 ++ (lw_privs_2 ++ (lw_privs_3 ++ (lw_privs_4))), lw_okq q
  exact List.forall_mem_append.mpr ⟨lw_r1, List.forall_mem_append.mpr ⟨lw_r2, List.forall_mem_append.mpr ⟨lw_r3, lw_r4⟩⟩⟩
-- ===== end of PART A; then your names; then what follows =====
end
section
/-! ===== BEGIN words of one list among another's, by their places ===== -/
theorem goodIn_r {big : List Cond} (ws : List Cond) (ps : List Nat) (hp : ws = ps.filterMap (fun i => big[i]?)) (h : ws.all goodWord = true) : GoodIn big ws := by
  intro w hw
  have h1 := List.all_eq_true.mp h w hw
  rw [hp] at hw
  obtain ⟨i, -, hi⟩ := List.mem_filterMap.mp hw
  have hm : w ∈ big := by first | exact List.mem_of_getElem? hi | exact List.getElem?_mem hi
  exact ⟨hm, good_of_word h1⟩
theorem goodIn_app {big a b : List Cond} (ha : GoodIn big a) (hb : GoodIn big b) : GoodIn big (a ++ b) := fun w h => (List.mem_append.mp h).elim (ha w) (hb w)
theorem goodIn_ca {big a b : List Cond} {c : Cond} (ha : GoodIn big (c :: a)) (hb : GoodIn big b) : GoodIn big (c :: (a ++ b)) := fun w h => (List.mem_cons.mp h).elim (fun e => ha w (List.mem_cons.mpr (Or.inl e))) (fun h => (List.mem_append.mp h).elim (fun h => ha w (List.mem_cons.mpr (Or.inr h))) (hb w))
theorem goodIn_sub {big ws : List Cond} (hm : ∀ w ∈ ws, w ∈ big) (h : ws.all goodWord = true) : GoodIn big ws := fun w hw => ⟨hm w hw, good_of_word (List.all_eq_true.mp h w hw)⟩
/-! ===== END ===== -/

/-! ===== BEGIN printed: names, fields, word lists, decode rows ===== -/
def RX0 : String := "PromiseWheel$Diary"
def TX0 : u_T := fun k => match k with
  | 0 => ("PromiseWheel$Diary", "facts", "[I", true)
  | _ => ("PromiseWheel$Diary", "calls", "I", false)
def tyX0 : Nat → FieldType := fun k => match k with
  | 0 => .array .int
  | _ => .int
abbrev wsX00 : List Cond := u_ws RX0 TX0 2
theorem nmX0 : ∀ a, a < 2 → ∀ b, b < 2 → a ≠ b → (TX0 a).2.1 ≠ (TX0 b).2.1 := by decide +kernel
theorem tyX0_ok : ∀ k, k < 2 → parseFieldDescriptor (TX0 k).2.2.1 = some (tyX0 k) := by decide +kernel
abbrev cX0_init : ByteArray := prog_2_method_1_code
def yX0_init : MethodName := ⟨RX0, "<init>", "()V"⟩
abbrev cX0_copyFrom : ByteArray := prog_2_method_2_code
def yX0_copyFrom : MethodName := ⟨RX0, "copyFrom", "(LPromiseWheel$Diary;)V"⟩
abbrev cX0_calls : ByteArray := prog_2_method_3_code
def yX0_calls : MethodName := ⟨RX0, "calls", "()I"⟩
abbrev cX0_write : ByteArray := prog_2_method_4_code
def yX0_write : MethodName := ⟨RX0, "write", "(III)V"⟩
abbrev cX0_read : ByteArray := prog_2_method_5_code
def yX0_read : MethodName := ⟨RX0, "read", "(II)I"⟩
def RX1 : String := "PromiseWheel$Forecast"
def TX1 : u_T := fun k => match k with
  | _ => ("PromiseWheel$Forecast", "imagined", "LPromiseWheel$Wheel;", true)
def tyX1 : Nat → FieldType := fun k => match k with
  | _ => .object "PromiseWheel$Wheel"
abbrev wsX10 : List Cond := u_ws RX1 TX1 1
theorem nmX1 : ∀ a, a < 1 → ∀ b, b < 1 → a ≠ b → (TX1 a).2.1 ≠ (TX1 b).2.1 := by decide +kernel
theorem tyX1_ok : ∀ k, k < 1 → parseFieldDescriptor (TX1 k).2.2.1 = some (tyX1 k) := by decide +kernel
abbrev cX1_init : ByteArray := prog_3_method_1_code
def yX1_init : MethodName := ⟨RX1, "<init>", "()V"⟩
abbrev cX1_tickOfCall : ByteArray := prog_3_method_2_code
def yX1_tickOfCall : MethodName := ⟨RX1, "tickOfCall", "(LPromiseWheel$Wheel;I)I"⟩
abbrev cX1_outcome : ByteArray := prog_3_method_3_code
def yX1_outcome : MethodName := ⟨RX1, "outcome", "(LPromiseWheel$Wheel;II)I"⟩
abbrev cX1_leastTimelyRoom : ByteArray := prog_3_method_4_code
def yX1_leastTimelyRoom : MethodName := ⟨RX1, "leastTimelyRoom", "(LPromiseWheel$Wheel;I)I"⟩
abbrev cX1_isTimely : ByteArray := prog_3_method_5_code
def yX1_isTimely : MethodName := ⟨RX1, "isTimely", "(I)Z"⟩
def RX2 : String := "PromiseWheel$History"
def TX2 : u_T := fun k => match k with
  | 0 => ("PromiseWheel$History", "rows", "[LPromiseWheel$State;", true)
  | 1 => ("PromiseWheel$History", "noted", "I", false)
  | _ => ("PromiseWheel$History", "states", "I", false)
def tyX2 : Nat → FieldType := fun k => match k with
  | 0 => .array (.object "PromiseWheel$State")
  | 1 => .int
  | _ => .int
abbrev wsX20 : List Cond := u_ws RX2 TX2 3
theorem nmX2 : ∀ a, a < 3 → ∀ b, b < 3 → a ≠ b → (TX2 a).2.1 ≠ (TX2 b).2.1 := by decide +kernel
theorem tyX2_ok : ∀ k, k < 3 → parseFieldDescriptor (TX2 k).2.2.1 = some (tyX2 k) := by decide +kernel
abbrev cX2_init : ByteArray := prog_4_method_1_code
def yX2_init : MethodName := ⟨RX2, "<init>", "()V"⟩
abbrev cX2_size : ByteArray := prog_4_method_2_code
def yX2_size : MethodName := ⟨RX2, "size", "()I"⟩
abbrev cX2_note : ByteArray := prog_4_method_3_code
def yX2_note : MethodName := ⟨RX2, "note", "(LPromiseWheel$State;)V"⟩
abbrev cX2_keepNoted : ByteArray := prog_4_method_4_code
def yX2_keepNoted : MethodName := ⟨RX2, "keepNoted", "()V"⟩
abbrev cX2_copyNotedInto : ByteArray := prog_4_method_5_code
def yX2_copyNotedInto : MethodName := ⟨RX2, "copyNotedInto", "(LPromiseWheel$State;)V"⟩
abbrev cX2_stepBack : ByteArray := prog_4_method_6_code
def yX2_stepBack : MethodName := ⟨RX2, "stepBack", "(LPromiseWheel$State;)I"⟩
abbrev cX2_rowAt : ByteArray := prog_4_method_7_code
def yX2_rowAt : MethodName := ⟨RX2, "rowAt", "(I)LPromiseWheel$State;"⟩
def RX3 : String := "PromiseWheel$Lines"
def TX3 : u_T := fun k => match k with
  | 0 => ("PromiseWheel$Lines", "first", "[I", true)
  | 1 => ("PromiseWheel$Lines", "last", "[I", true)
  | 2 => ("PromiseWheel$Lines", "length", "[I", true)
  | 3 => ("PromiseWheel$Lines", "line", "[I", true)
  | _ => ("PromiseWheel$Lines", "behind", "[I", true)
def tyX3 : Nat → FieldType := fun k => match k with
  | 0 => .array .int
  | 1 => .array .int
  | 2 => .array .int
  | 3 => .array .int
  | _ => .array .int
abbrev wsX30 : List Cond := u_ws RX3 TX3 5
theorem nmX3 : ∀ a, a < 5 → ∀ b, b < 5 → a ≠ b → (TX3 a).2.1 ≠ (TX3 b).2.1 := by decide +kernel
theorem tyX3_ok : ∀ k, k < 5 → parseFieldDescriptor (TX3 k).2.2.1 = some (tyX3 k) := by decide +kernel
abbrev cX3_init : ByteArray := prog_5_method_1_code
def yX3_init : MethodName := ⟨RX3, "<init>", "()V"⟩
abbrev cX3_copyFrom : ByteArray := prog_5_method_2_code
def yX3_copyFrom : MethodName := ⟨RX3, "copyFrom", "(LPromiseWheel$Lines;)V"⟩
abbrev cX3_lengthOf : ByteArray := prog_5_method_3_code
def yX3_lengthOf : MethodName := ⟨RX3, "lengthOf", "(I)I"⟩
abbrev cX3_frontOf : ByteArray := prog_5_method_4_code
def yX3_frontOf : MethodName := ⟨RX3, "frontOf", "(I)I"⟩
abbrev cX3_follower : ByteArray := prog_5_method_5_code
def yX3_follower : MethodName := ⟨RX3, "follower", "(I)I"⟩
abbrev cX3_lineOf : ByteArray := prog_5_method_6_code
def yX3_lineOf : MethodName := ⟨RX3, "lineOf", "(I)I"⟩
abbrev cX3_at : ByteArray := prog_5_method_7_code
def yX3_at : MethodName := ⟨RX3, "at", "(II)I"⟩
abbrev cX3_placeOf : ByteArray := prog_5_method_8_code
def yX3_placeOf : MethodName := ⟨RX3, "placeOf", "(I)I"⟩
abbrev cX3_join : ByteArray := prog_5_method_9_code
def yX3_join : MethodName := ⟨RX3, "join", "(II)V"⟩
abbrev cX3_leave : ByteArray := prog_5_method_10_code
def yX3_leave : MethodName := ⟨RX3, "leave", "(I)V"⟩
def RX4 : String := "PromiseWheel$Program"
def TX4 : u_T := fun k => match k with
  | 0 => ("PromiseWheel$Program", "text", "LPromiseWheel$Text;", true)
  | 1 => ("PromiseWheel$Program", "numbers", "[I", true)
  | 2 => ("PromiseWheel$Program", "failureParts", "[I", true)
  | 3 => ("PromiseWheel$Program", "everFailed", "Z", false)
  | 4 => ("PromiseWheel$Program", "failed", "Z", false)
  | 5 => ("PromiseWheel$Program", "command", "I", false)
  | 6 => ("PromiseWheel$Program", "commandPlace", "I", false)
  | _ => ("PromiseWheel$Program", "commandsDone", "I", false)
def tyX4 : Nat → FieldType := fun k => match k with
  | 0 => .object "PromiseWheel$Text"
  | 1 => .array .int
  | 2 => .array .int
  | 3 => .boolean
  | 4 => .boolean
  | 5 => .int
  | 6 => .int
  | _ => .int
abbrev wsX40 : List Cond := u_ws RX4 TX4 8
theorem nmX4 : ∀ a, a < 8 → ∀ b, b < 8 → a ≠ b → (TX4 a).2.1 ≠ (TX4 b).2.1 := by decide +kernel
theorem tyX4_ok : ∀ k, k < 8 → parseFieldDescriptor (TX4 k).2.2.1 = some (tyX4 k) := by decide +kernel
abbrev cX4_init : ByteArray := prog_6_method_1_code
def yX4_init : MethodName := ⟨RX4, "<init>", "()V"⟩
abbrev cX4_begin : ByteArray := prog_6_method_2_code
def yX4_begin : MethodName := ⟨RX4, "begin", "()V"⟩
abbrev cX4_hasFailed : ByteArray := prog_6_method_3_code
def yX4_hasFailed : MethodName := ⟨RX4, "hasFailed", "()Z"⟩
abbrev cX4_command : ByteArray := prog_6_method_4_code
def yX4_command : MethodName := ⟨RX4, "command", "()I"⟩
abbrev cX4_commandsDone : ByteArray := prog_6_method_5_code
def yX4_commandsDone : MethodName := ⟨RX4, "commandsDone", "()I"⟩
abbrev cX4_number : ByteArray := prog_6_method_6_code
def yX4_number : MethodName := ⟨RX4, "number", "(I)I"⟩
abbrev cX4_part : ByteArray := prog_6_method_7_code
def yX4_part : MethodName := ⟨RX4, "part", "(I)I"⟩
abbrev cX4_readCommand : ByteArray := prog_6_method_8_code
def yX4_readCommand : MethodName := ⟨RX4, "readCommand", "()Z"⟩
abbrev cX4_finishCommand : ByteArray := prog_6_method_9_code
def yX4_finishCommand : MethodName := ⟨RX4, "finishCommand", "(I)V"⟩
abbrev cX4_failAtToken : ByteArray := prog_6_method_10_code
def yX4_failAtToken : MethodName := ⟨RX4, "failAtToken", "()Z"⟩
abbrev cX4_fail : ByteArray := prog_6_method_11_code
def yX4_fail : MethodName := ⟨RX4, "fail", "(III)V"⟩
abbrev cX4_commandOfWord : ByteArray := prog_6_method_12_code
def yX4_commandOfWord : MethodName := ⟨RX4, "commandOfWord", "()I"⟩
abbrev cX4_numbersOf : ByteArray := prog_6_method_13_code
def yX4_numbersOf : MethodName := ⟨RX4, "numbersOf", "(I)I"⟩
def RX5 : String := "PromiseWheel$Promises"
def TX5 : u_T := fun k => match k with
  | 0 => ("PromiseWheel$Promises", "facts", "[I", true)
  | _ => ("PromiseWheel$Promises", "given", "I", false)
def tyX5 : Nat → FieldType := fun k => match k with
  | 0 => .array .int
  | _ => .int
abbrev wsX50 : List Cond := u_ws RX5 TX5 2
theorem nmX5 : ∀ a, a < 2 → ∀ b, b < 2 → a ≠ b → (TX5 a).2.1 ≠ (TX5 b).2.1 := by decide +kernel
theorem tyX5_ok : ∀ k, k < 2 → parseFieldDescriptor (TX5 k).2.2.1 = some (tyX5 k) := by decide +kernel
abbrev cX5_init : ByteArray := prog_7_method_1_code
def yX5_init : MethodName := ⟨RX5, "<init>", "()V"⟩
abbrev cX5_copyFrom : ByteArray := prog_7_method_2_code
def yX5_copyFrom : MethodName := ⟨RX5, "copyFrom", "(LPromiseWheel$Promises;)V"⟩
abbrev cX5_given : ByteArray := prog_7_method_3_code
def yX5_given : MethodName := ⟨RX5, "given", "()I"⟩
abbrev cX5_has : ByteArray := prog_7_method_4_code
def yX5_has : MethodName := ⟨RX5, "has", "(I)Z"⟩
abbrev cX5_fact : ByteArray := prog_7_method_5_code
def yX5_fact : MethodName := ⟨RX5, "fact", "(II)I"⟩
abbrev cX5_write : ByteArray := prog_7_method_6_code
def yX5_write : MethodName := ⟨RX5, "write", "(III)V"⟩
abbrev cX5_isIn : ByteArray := prog_7_method_7_code
def yX5_isIn : MethodName := ⟨RX5, "isIn", "(II)Z"⟩
abbrev cX5_isAlive : ByteArray := prog_7_method_8_code
def yX5_isAlive : MethodName := ⟨RX5, "isAlive", "(I)Z"⟩
abbrev cX5_add : ByteArray := prog_7_method_9_code
def yX5_add : MethodName := ⟨RX5, "add", "(III)I"⟩
abbrev cX5_howManyIn : ByteArray := prog_7_method_10_code
def yX5_howManyIn : MethodName := ⟨RX5, "howManyIn", "(I)I"⟩
abbrev cX5_earlier : ByteArray := prog_7_method_11_code
def yX5_earlier : MethodName := ⟨RX5, "earlier", "(II)I"⟩
def RX6 : String := "PromiseWheel$State"
def TX6 : u_T := fun k => match k with
  | 0 => ("PromiseWheel$State", "wheel", "LPromiseWheel$Wheel;", true)
  | 1 => ("PromiseWheel$State", "snapshots", "[LPromiseWheel$Wheel;", true)
  | _ => ("PromiseWheel$State", "taken", "[Z", true)
def tyX6 : Nat → FieldType := fun k => match k with
  | 0 => .object "PromiseWheel$Wheel"
  | 1 => .array (.object "PromiseWheel$Wheel")
  | _ => .array .boolean
abbrev wsX60 : List Cond := u_ws RX6 TX6 3
theorem nmX6 : ∀ a, a < 3 → ∀ b, b < 3 → a ≠ b → (TX6 a).2.1 ≠ (TX6 b).2.1 := by decide +kernel
theorem tyX6_ok : ∀ k, k < 3 → parseFieldDescriptor (TX6 k).2.2.1 = some (tyX6 k) := by decide +kernel
abbrev cX6_init : ByteArray := prog_8_method_1_code
def yX6_init : MethodName := ⟨RX6, "<init>", "()V"⟩
abbrev cX6_copyFrom : ByteArray := prog_8_method_2_code
def yX6_copyFrom : MethodName := ⟨RX6, "copyFrom", "(LPromiseWheel$State;)V"⟩
abbrev cX6_takeSnapshot : ByteArray := prog_8_method_3_code
def yX6_takeSnapshot : MethodName := ⟨RX6, "takeSnapshot", "(I)I"⟩
abbrev cX6_restoreSnapshot : ByteArray := prog_8_method_4_code
def yX6_restoreSnapshot : MethodName := ⟨RX6, "restoreSnapshot", "(I)I"⟩
abbrev cX6_snapshotsTaken : ByteArray := prog_8_method_5_code
def yX6_snapshotsTaken : MethodName := ⟨RX6, "snapshotsTaken", "()I"⟩
def RX7 : String := "PromiseWheel$Text"
def TX7 : u_T := fun k => match k with
  | 0 => ("PromiseWheel$Text", "characters", "[I", true)
  | 1 => ("PromiseWheel$Text", "length", "I", false)
  | 2 => ("PromiseWheel$Text", "start", "I", false)
  | 3 => ("PromiseWheel$Text", "end", "I", false)
  | _ => ("PromiseWheel$Text", "kind", "I", false)
def tyX7 : Nat → FieldType := fun k => match k with
  | 0 => .array .int
  | 1 => .int
  | 2 => .int
  | 3 => .int
  | _ => .int
abbrev wsX70 : List Cond := u_ws RX7 TX7 5
theorem nmX7 : ∀ a, a < 5 → ∀ b, b < 5 → a ≠ b → (TX7 a).2.1 ≠ (TX7 b).2.1 := by decide +kernel
theorem tyX7_ok : ∀ k, k < 5 → parseFieldDescriptor (TX7 k).2.2.1 = some (tyX7 k) := by decide +kernel
abbrev cX7_init : ByteArray := prog_9_method_1_code
def yX7_init : MethodName := ⟨RX7, "<init>", "()V"⟩
abbrev cX7_length : ByteArray := prog_9_method_2_code
def yX7_length : MethodName := ⟨RX7, "length", "()I"⟩
abbrev cX7_add : ByteArray := prog_9_method_3_code
def yX7_add : MethodName := ⟨RX7, "add", "(I)I"⟩
abbrev cX7_makeEmpty : ByteArray := prog_9_method_4_code
def yX7_makeEmpty : MethodName := ⟨RX7, "makeEmpty", "()I"⟩
abbrev cX7_beginReading : ByteArray := prog_9_method_5_code
def yX7_beginReading : MethodName := ⟨RX7, "beginReading", "()V"⟩
abbrev cX7_tokenStart : ByteArray := prog_9_method_6_code
def yX7_tokenStart : MethodName := ⟨RX7, "tokenStart", "()I"⟩
abbrev cX7_isAtEnd : ByteArray := prog_9_method_7_code
def yX7_isAtEnd : MethodName := ⟨RX7, "isAtEnd", "()Z"⟩
abbrev cX7_readToken : ByteArray := prog_9_method_8_code
def yX7_readToken : MethodName := ⟨RX7, "readToken", "()V"⟩
abbrev cX7_isWord : ByteArray := prog_9_method_9_code
def yX7_isWord : MethodName := ⟨RX7, "isWord", "(Ljava/lang/String;)Z"⟩
abbrev cX7_isSemicolon : ByteArray := prog_9_method_10_code
def yX7_isSemicolon : MethodName := ⟨RX7, "isSemicolon", "()Z"⟩
abbrev cX7_isNumber : ByteArray := prog_9_method_11_code
def yX7_isNumber : MethodName := ⟨RX7, "isNumber", "()Z"⟩
abbrev cX7_numberValue : ByteArray := prog_9_method_12_code
def yX7_numberValue : MethodName := ⟨RX7, "numberValue", "()I"⟩
abbrev cX7_at : ByteArray := prog_9_method_13_code
def yX7_at : MethodName := ⟨RX7, "at", "(I)I"⟩
abbrev cX7_kindOf : ByteArray := prog_9_method_14_code
def yX7_kindOf : MethodName := ⟨RX7, "kindOf", "(I)I"⟩
def RX8 : String := "PromiseWheel$Wheel"
def TX8 : u_T := fun k => match k with
  | 0 => ("PromiseWheel$Wheel", "promises", "LPromiseWheel$Promises;", true)
  | 1 => ("PromiseWheel$Wheel", "lines", "LPromiseWheel$Lines;", true)
  | 2 => ("PromiseWheel$Wheel", "diary", "LPromiseWheel$Diary;", true)
  | 3 => ("PromiseWheel$Wheel", "now", "I", false)
  | 4 => ("PromiseWheel$Wheel", "room", "I", false)
  | 5 => ("PromiseWheel$Wheel", "bound", "I", false)
  | 6 => ("PromiseWheel$Wheel", "drift", "I", false)
  | 7 => ("PromiseWheel$Wheel", "brokenStanding", "I", false)
  | 8 => ("PromiseWheel$Wheel", "lateCalls", "I", false)
  | 9 => ("PromiseWheel$Wheel", "falls", "I", false)
  | 10 => ("PromiseWheel$Wheel", "swept", "I", false)
  | 11 => ("PromiseWheel$Wheel", "passedOver", "I", false)
  | _ => ("PromiseWheel$Wheel", "longestQueue", "I", false)
def tyX8 : Nat → FieldType := fun k => match k with
  | 0 => .object "PromiseWheel$Promises"
  | 1 => .object "PromiseWheel$Lines"
  | 2 => .object "PromiseWheel$Diary"
  | 3 => .int
  | 4 => .int
  | 5 => .int
  | 6 => .int
  | 7 => .int
  | 8 => .int
  | 9 => .int
  | 10 => .int
  | 11 => .int
  | _ => .int
abbrev wsX80 : List Cond := u_ws RX8 TX8 13
theorem nmX8 : ∀ a, a < 13 → ∀ b, b < 13 → a ≠ b → (TX8 a).2.1 ≠ (TX8 b).2.1 := by decide +kernel
theorem tyX8_ok : ∀ k, k < 13 → parseFieldDescriptor (TX8 k).2.2.1 = some (tyX8 k) := by decide +kernel
abbrev cX8_init : ByteArray := prog_10_method_1_code
def yX8_init : MethodName := ⟨RX8, "<init>", "()V"⟩
abbrev cX8_copyFrom : ByteArray := prog_10_method_2_code
def yX8_copyFrom : MethodName := ⟨RX8, "copyFrom", "(LPromiseWheel$Wheel;)V"⟩
abbrev cX8_addPromise : ByteArray := prog_10_method_3_code
def yX8_addPromise : MethodName := ⟨RX8, "addPromise", "(III)I"⟩
abbrev cX8_breakPromise : ByteArray := prog_10_method_4_code
def yX8_breakPromise : MethodName := ⟨RX8, "breakPromise", "(I)I"⟩
abbrev cX8_movePromise : ByteArray := prog_10_method_5_code
def yX8_movePromise : MethodName := ⟨RX8, "movePromise", "(II)I"⟩
abbrev cX8_passTicks : ByteArray := prog_10_method_6_code
def yX8_passTicks : MethodName := ⟨RX8, "passTicks", "(I)I"⟩
abbrev cX8_sweepAll : ByteArray := prog_10_method_7_code
def yX8_sweepAll : MethodName := ⟨RX8, "sweepAll", "()I"⟩
abbrev cX8_changeSetting : ByteArray := prog_10_method_8_code
def yX8_changeSetting : MethodName := ⟨RX8, "changeSetting", "(II)I"⟩
abbrev cX8_setting : ByteArray := prog_10_method_9_code
def yX8_setting : MethodName := ⟨RX8, "setting", "(I)I"⟩
abbrev cX8_passTick : ByteArray := prog_10_method_10_code
def yX8_passTick : MethodName := ⟨RX8, "passTick", "()V"⟩
abbrev cX8_letFall : ByteArray := prog_10_method_11_code
def yX8_letFall : MethodName := ⟨RX8, "letFall", "(I)V"⟩
abbrev cX8_letArrive : ByteArray := prog_10_method_12_code
def yX8_letArrive : MethodName := ⟨RX8, "letArrive", "()V"⟩
abbrev cX8_serveQueue : ByteArray := prog_10_method_13_code
def yX8_serveQueue : MethodName := ⟨RX8, "serveQueue", "()V"⟩
abbrev cX8_callPromise : ByteArray := prog_10_method_14_code
def yX8_callPromise : MethodName := ⟨RX8, "callPromise", "(I)V"⟩
abbrev cX8_dueOfRepetition : ByteArray := prog_10_method_15_code
def yX8_dueOfRepetition : MethodName := ⟨RX8, "dueOfRepetition", "(II)I"⟩
abbrev cX8_noteSwept : ByteArray := prog_10_method_16_code
def yX8_noteSwept : MethodName := ⟨RX8, "noteSwept", "(I)V"⟩
abbrev cX8_lineFor : ByteArray := prog_10_method_17_code
def yX8_lineFor : MethodName := ⟨RX8, "lineFor", "(I)I"⟩
abbrev cX8_presentSlot : ByteArray := prog_10_method_18_code
def yX8_presentSlot : MethodName := ⟨RX8, "presentSlot", "(I)I"⟩
abbrev cX8_figure : ByteArray := prog_10_method_19_code
def yX8_figure : MethodName := ⟨RX8, "figure", "(I)I"⟩
abbrev cX8_tellPromise : ByteArray := prog_10_method_20_code
def yX8_tellPromise : MethodName := ⟨RX8, "tellPromise", "(II)I"⟩
abbrev cX8_tellLine : ByteArray := prog_10_method_21_code
def yX8_tellLine : MethodName := ⟨RX8, "tellLine", "(II)I"⟩
abbrev cX8_brokenIn : ByteArray := prog_10_method_22_code
def yX8_brokenIn : MethodName := ⟨RX8, "brokenIn", "(I)I"⟩
abbrev cX8_earliestIn : ByteArray := prog_10_method_23_code
def yX8_earliestIn : MethodName := ⟨RX8, "earliestIn", "(I)I"⟩
abbrev cX8_earliestOfAll : ByteArray := prog_10_method_24_code
def yX8_earliestOfAll : MethodName := ⟨RX8, "earliestOfAll", "()I"⟩
abbrev cX8_earliestByRings : ByteArray := prog_10_method_25_code
def yX8_earliestByRings : MethodName := ⟨RX8, "earliestByRings", "()I"⟩
abbrev cX8_earliestInRing : ByteArray := prog_10_method_26_code
def yX8_earliestInRing : MethodName := ⟨RX8, "earliestInRing", "(I)I"⟩
def RX9 : String := "PromiseWheel"
def TX9 : u_T := fun k => match k with
  | 0 => ("PromiseWheel", "state", "LPromiseWheel$State;", true)
  | 1 => ("PromiseWheel", "history", "LPromiseWheel$History;", true)
  | 2 => ("PromiseWheel", "program", "LPromiseWheel$Program;", true)
  | _ => ("PromiseWheel", "forecast", "LPromiseWheel$Forecast;", true)
def tyX9 : Nat → FieldType := fun k => match k with
  | 0 => .object "PromiseWheel$State"
  | 1 => .object "PromiseWheel$History"
  | 2 => .object "PromiseWheel$Program"
  | _ => .object "PromiseWheel$Forecast"
abbrev wsX90 : List Cond := u_ws RX9 TX9 4
theorem nmX9 : ∀ a, a < 4 → ∀ b, b < 4 → a ≠ b → (TX9 a).2.1 ≠ (TX9 b).2.1 := by decide +kernel
theorem tyX9_ok : ∀ k, k < 4 → parseFieldDescriptor (TX9 k).2.2.1 = some (tyX9 k) := by decide +kernel
abbrev cX9_init : ByteArray := prog_1_method_1_code
def yX9_init : MethodName := ⟨RX9, "<init>", "()V"⟩
abbrev cX9_give : ByteArray := prog_1_method_2_code
def yX9_give : MethodName := ⟨RX9, "give", "(III)I"⟩
abbrev cX9_breakOff : ByteArray := prog_1_method_3_code
def yX9_breakOff : MethodName := ⟨RX9, "breakOff", "(I)I"⟩
abbrev cX9_move : ByteArray := prog_1_method_4_code
def yX9_move : MethodName := ⟨RX9, "move", "(II)I"⟩
abbrev cX9_pass : ByteArray := prog_1_method_5_code
def yX9_pass : MethodName := ⟨RX9, "pass", "(I)I"⟩
abbrev cX9_sweep : ByteArray := prog_1_method_6_code
def yX9_sweep : MethodName := ⟨RX9, "sweep", "()I"⟩
abbrev cX9_set : ByteArray := prog_1_method_7_code
def yX9_set : MethodName := ⟨RX9, "set", "(II)I"⟩
abbrev cX9_take : ByteArray := prog_1_method_8_code
def yX9_take : MethodName := ⟨RX9, "take", "(I)I"⟩
abbrev cX9_restore : ByteArray := prog_1_method_9_code
def yX9_restore : MethodName := ⟨RX9, "restore", "(I)I"⟩
abbrev cX9_undo : ByteArray := prog_1_method_10_code
def yX9_undo : MethodName := ⟨RX9, "undo", "()I"⟩
abbrev cX9_append : ByteArray := prog_1_method_11_code
def yX9_append : MethodName := ⟨RX9, "append", "(I)I"⟩
abbrev cX9_clearText : ByteArray := prog_1_method_12_code
def yX9_clearText : MethodName := ⟨RX9, "clearText", "()I"⟩
abbrev cX9_run : ByteArray := prog_1_method_13_code
def yX9_run : MethodName := ⟨RX9, "run", "()I"⟩
abbrev cX9_failure : ByteArray := prog_1_method_14_code
def yX9_failure : MethodName := ⟨RX9, "failure", "(I)I"⟩
abbrev cX9_count : ByteArray := prog_1_method_15_code
def yX9_count : MethodName := ⟨RX9, "count", "(I)I"⟩
abbrev cX9_promise : ByteArray := prog_1_method_16_code
def yX9_promise : MethodName := ⟨RX9, "promise", "(II)I"⟩
abbrev cX9_slot : ByteArray := prog_1_method_17_code
def yX9_slot : MethodName := ⟨RX9, "slot", "(III)I"⟩
abbrev cX9_stands : ByteArray := prog_1_method_18_code
def yX9_stands : MethodName := ⟨RX9, "stands", "(III)I"⟩
abbrev cX9_call : ByteArray := prog_1_method_19_code
def yX9_call : MethodName := ⟨RX9, "call", "(II)I"⟩
abbrev cX9_next : ByteArray := prog_1_method_20_code
def yX9_next : MethodName := ⟨RX9, "next", "(II)I"⟩
abbrev cX9_when : ByteArray := prog_1_method_21_code
def yX9_when : MethodName := ⟨RX9, "when", "(I)I"⟩
abbrev cX9_would : ByteArray := prog_1_method_22_code
def yX9_would : MethodName := ⟨RX9, "would", "(II)I"⟩
abbrev cX9_leastRoom : ByteArray := prog_1_method_23_code
def yX9_leastRoom : MethodName := ⟨RX9, "leastRoom", "(I)I"⟩
abbrev cX9_recorded : ByteArray := prog_1_method_24_code
def yX9_recorded : MethodName := ⟨RX9, "recorded", "(I)I"⟩
abbrev cX9_performCommand : ByteArray := prog_1_method_25_code
def yX9_performCommand : MethodName := ⟨RX9, "performCommand", "()I"⟩
def RX10 : String := "PromiseWheelModel"
def TX10 : u_T := fun k => match k with
  | 0 => ("PromiseWheelModel", "z", "[I", true)
  | 1 => ("PromiseWheelModel", "snaps", "[I", true)
  | 2 => ("PromiseWheelModel", "hasSnap", "[Z", true)
  | 3 => ("PromiseWheelModel", "past", "[I", true)
  | 4 => ("PromiseWheelModel", "pastHas", "[Z", true)
  | 5 => ("PromiseWheelModel", "pastMany", "I", false)
  | 6 => ("PromiseWheelModel", "before", "[I", true)
  | 7 => ("PromiseWheelModel", "spare", "[I", true)
  | 8 => ("PromiseWheelModel", "text", "[C", true)
  | 9 => ("PromiseWheelModel", "typed", "I", false)
  | 10 => ("PromiseWheelModel", "failure", "[I", true)
  | 11 => ("PromiseWheelModel", "hasFailed", "Z", false)
  | 12 => ("PromiseWheelModel", "isQuiet", "Z", false)
  | 13 => ("PromiseWheelModel", "from", "I", false)
  | 14 => ("PromiseWheelModel", "end", "I", false)
  | _ => ("PromiseWheelModel", "numbers", "[I", true)
def tyX10 : Nat → FieldType := fun k => match k with
  | 0 => .array .int
  | 1 => .array .int
  | 2 => .array .boolean
  | 3 => .array .int
  | 4 => .array .boolean
  | 5 => .int
  | 6 => .array .int
  | 7 => .array .int
  | 8 => .array .char
  | 9 => .int
  | 10 => .array .int
  | 11 => .boolean
  | 12 => .boolean
  | 13 => .int
  | 14 => .int
  | _ => .array .int
abbrev wsX100 : List Cond := u_ws RX10 TX10 16
theorem nmX10 : ∀ a, a < 16 → ∀ b, b < 16 → a ≠ b → (TX10 a).2.1 ≠ (TX10 b).2.1 := by decide +kernel
theorem tyX10_ok : ∀ k, k < 16 → parseFieldDescriptor (TX10 k).2.2.1 = some (tyX10 k) := by decide +kernel
abbrev cX10_init : ByteArray := prog_12_method_1_code
def yX10_init : MethodName := ⟨RX10, "<init>", "()V"⟩
abbrev cX10_push : ByteArray := prog_12_method_2_code
def yX10_push : MethodName := ⟨RX10, "push", "(Z)V"⟩
abbrev cX10_record : ByteArray := prog_12_method_3_code
def yX10_record : MethodName := ⟨RX10, "record", "()V"⟩
abbrev cX10_undo : ByteArray := prog_12_method_4_code
def yX10_undo : MethodName := ⟨RX10, "undo", "()I"⟩
abbrev cX10_take : ByteArray := prog_12_method_5_code
def yX10_take : MethodName := ⟨RX10, "take", "(I)I"⟩
abbrev cX10_restore : ByteArray := prog_12_method_6_code
def yX10_restore : MethodName := ⟨RX10, "restore", "(I)I"⟩
abbrev cX10_isPromise : ByteArray := prog_12_method_7_code
def yX10_isPromise : MethodName := ⟨RX10, "isPromise", "(I)Z"⟩
abbrev cX10_stand : ByteArray := prog_12_method_8_code
def yX10_stand : MethodName := ⟨RX10, "stand", "(II)V"⟩
abbrev cX10_standByDistance : ByteArray := prog_12_method_9_code
def yX10_standByDistance : MethodName := ⟨RX10, "standByDistance", "(I)V"⟩
abbrev cX10_front : ByteArray := prog_12_method_10_code
def yX10_front : MethodName := ⟨RX10, "front", "(I)I"⟩
abbrev cX10_manyAt : ByteArray := prog_12_method_11_code
def yX10_manyAt : MethodName := ⟨RX10, "manyAt", "(I)I"⟩
abbrev cX10_placeOf : ByteArray := prog_12_method_12_code
def yX10_placeOf : MethodName := ⟨RX10, "placeOf", "(I)I"⟩
abbrev cX10_sweepOne : ByteArray := prog_12_method_13_code
def yX10_sweepOne : MethodName := ⟨RX10, "sweepOne", "(I)V"⟩
abbrev cX10_inState : ByteArray := prog_12_method_14_code
def yX10_inState : MethodName := ⟨RX10, "inState", "(I)I"⟩
abbrev cX10_sweepAll : ByteArray := prog_12_method_15_code
def yX10_sweepAll : MethodName := ⟨RX10, "sweepAll", "()I"⟩
abbrev cX10_fall : ByteArray := prog_12_method_16_code
def yX10_fall : MethodName := ⟨RX10, "fall", "(I)V"⟩
abbrev cX10_getReady : ByteArray := prog_12_method_17_code
def yX10_getReady : MethodName := ⟨RX10, "getReady", "(I)V"⟩
abbrev cX10_noteCall : ByteArray := prog_12_method_18_code
def yX10_noteCall : MethodName := ⟨RX10, "noteCall", "(I)V"⟩
abbrev cX10_callOne : ByteArray := prog_12_method_19_code
def yX10_callOne : MethodName := ⟨RX10, "callOne", "(I)V"⟩
abbrev cX10_callSome : ByteArray := prog_12_method_20_code
def yX10_callSome : MethodName := ⟨RX10, "callSome", "()V"⟩
abbrev cX10_tick : ByteArray := prog_12_method_21_code
def yX10_tick : MethodName := ⟨RX10, "tick", "()V"⟩
abbrev cX10_give : ByteArray := prog_12_method_22_code
def yX10_give : MethodName := ⟨RX10, "give", "(III)I"⟩
abbrev cX10_breakOff : ByteArray := prog_12_method_23_code
def yX10_breakOff : MethodName := ⟨RX10, "breakOff", "(I)I"⟩
abbrev cX10_move : ByteArray := prog_12_method_24_code
def yX10_move : MethodName := ⟨RX10, "move", "(II)I"⟩
abbrev cX10_pass : ByteArray := prog_12_method_25_code
def yX10_pass : MethodName := ⟨RX10, "pass", "(I)I"⟩
abbrev cX10_sweep : ByteArray := prog_12_method_26_code
def yX10_sweep : MethodName := ⟨RX10, "sweep", "()I"⟩
abbrev cX10_set : ByteArray := prog_12_method_27_code
def yX10_set : MethodName := ⟨RX10, "set", "(II)I"⟩
abbrev cX10_append : ByteArray := prog_12_method_28_code
def yX10_append : MethodName := ⟨RX10, "append", "(I)I"⟩
abbrev cX10_clearText : ByteArray := prog_12_method_29_code
def yX10_clearText : MethodName := ⟨RX10, "clearText", "()I"⟩
abbrev cX10_isSmall : ByteArray := prog_12_method_30_code
def yX10_isSmall : MethodName := ⟨RX10, "isSmall", "(I)Z"⟩
abbrev cX10_isDigit : ByteArray := prog_12_method_31_code
def yX10_isDigit : MethodName := ⟨RX10, "isDigit", "(I)Z"⟩
abbrev cX10_readToken : ByteArray := prog_12_method_32_code
def yX10_readToken : MethodName := ⟨RX10, "readToken", "()V"⟩
abbrev cX10_spells : ByteArray := prog_12_method_33_code
def yX10_spells : MethodName := ⟨RX10, "spells", "(III)Z"⟩
abbrev cX10_command : ByteArray := prog_12_method_34_code
def yX10_command : MethodName := ⟨RX10, "command", "()I"⟩
abbrev cX10_isNumber : ByteArray := prog_12_method_35_code
def yX10_isNumber : MethodName := ⟨RX10, "isNumber", "()Z"⟩
abbrev cX10_number : ByteArray := prog_12_method_36_code
def yX10_number : MethodName := ⟨RX10, "number", "()I"⟩
abbrev cX10_readNumbers : ByteArray := prog_12_method_37_code
def yX10_readNumbers : MethodName := ⟨RX10, "readNumbers", "(I)Z"⟩
abbrev cX10_does : ByteArray := prog_12_method_38_code
def yX10_does : MethodName := ⟨RX10, "does", "(I)I"⟩
abbrev cX10_numbersOf : ByteArray := prog_12_method_39_code
def yX10_numbersOf : MethodName := ⟨RX10, "numbersOf", "(I)I"⟩
abbrev cX10_fail : ByteArray := prog_12_method_40_code
def yX10_fail : MethodName := ⟨RX10, "fail", "(IIII)I"⟩
abbrev cX10_run : ByteArray := prog_12_method_41_code
def yX10_run : MethodName := ⟨RX10, "run", "()I"⟩
abbrev cX10_failure : ByteArray := prog_12_method_42_code
def yX10_failure : MethodName := ⟨RX10, "failure", "(I)I"⟩
abbrev cX10_snapshots : ByteArray := prog_12_method_43_code
def yX10_snapshots : MethodName := ⟨RX10, "snapshots", "()I"⟩
abbrev cX10_count : ByteArray := prog_12_method_44_code
def yX10_count : MethodName := ⟨RX10, "count", "(I)I"⟩
abbrev cX10_promise : ByteArray := prog_12_method_45_code
def yX10_promise : MethodName := ⟨RX10, "promise", "(II)I"⟩
abbrev cX10_slot : ByteArray := prog_12_method_46_code
def yX10_slot : MethodName := ⟨RX10, "slot", "(III)I"⟩
abbrev cX10_stands : ByteArray := prog_12_method_47_code
def yX10_stands : MethodName := ⟨RX10, "stands", "(III)I"⟩
abbrev cX10_call : ByteArray := prog_12_method_48_code
def yX10_call : MethodName := ⟨RX10, "call", "(II)I"⟩
abbrev cX10_better : ByteArray := prog_12_method_49_code
def yX10_better : MethodName := ⟨RX10, "better", "(II)I"⟩
abbrev cX10_bestAt : ByteArray := prog_12_method_50_code
def yX10_bestAt : MethodName := ⟨RX10, "bestAt", "(I)I"⟩
abbrev cX10_bestOfRing : ByteArray := prog_12_method_51_code
def yX10_bestOfRing : MethodName := ⟨RX10, "bestOfRing", "(I)I"⟩
abbrev cX10_next : ByteArray := prog_12_method_52_code
def yX10_next : MethodName := ⟨RX10, "next", "(II)I"⟩
abbrev cX10_keepAside : ByteArray := prog_12_method_53_code
def yX10_keepAside : MethodName := ⟨RX10, "keepAside", "()V"⟩
abbrev cX10_bringBack : ByteArray := prog_12_method_54_code
def yX10_bringBack : MethodName := ⟨RX10, "bringBack", "()V"⟩
abbrev cX10_when : ByteArray := prog_12_method_55_code
def yX10_when : MethodName := ⟨RX10, "when", "(I)I"⟩
abbrev cX10_would : ByteArray := prog_12_method_56_code
def yX10_would : MethodName := ⟨RX10, "would", "(II)I"⟩
abbrev cX10_isNeverLate : ByteArray := prog_12_method_57_code
def yX10_isNeverLate : MethodName := ⟨RX10, "isNeverLate", "(II)Z"⟩
abbrev cX10_leastRoom : ByteArray := prog_12_method_58_code
def yX10_leastRoom : MethodName := ⟨RX10, "leastRoom", "(I)I"⟩
def RJx145de : String := "java/io/Serializable"
def TJx145de : u_T := fun k => match k with
  | _ => ("", "", "", false)
def tyJx145de : Nat → FieldType := fun k => match k with
  | _ => .int
abbrev wsJx145de0 : List Cond := u_ws RJx145de TJx145de 0
theorem nmJx145de : ∀ a, a < 0 → ∀ b, b < 0 → a ≠ b → (TJx145de a).2.1 ≠ (TJx145de b).2.1 := by decide +kernel
theorem tyJx145de_ok : ∀ k, k < 0 → parseFieldDescriptor (TJx145de k).2.2.1 = some (tyJx145de k) := by decide +kernel
def RJx9f9b0 : String := "java/lang/CharSequence"
def TJx9f9b0 : u_T := fun k => match k with
  | _ => ("", "", "", false)
def tyJx9f9b0 : Nat → FieldType := fun k => match k with
  | _ => .int
abbrev wsJx9f9b00 : List Cond := u_ws RJx9f9b0 TJx9f9b0 0
theorem nmJx9f9b0 : ∀ a, a < 0 → ∀ b, b < 0 → a ≠ b → (TJx9f9b0 a).2.1 ≠ (TJx9f9b0 b).2.1 := by decide +kernel
theorem tyJx9f9b0_ok : ∀ k, k < 0 → parseFieldDescriptor (TJx9f9b0 k).2.2.1 = some (tyJx9f9b0 k) := by decide +kernel
def RJxb160c : String := "java/lang/Comparable"
def TJxb160c : u_T := fun k => match k with
  | _ => ("", "", "", false)
def tyJxb160c : Nat → FieldType := fun k => match k with
  | _ => .int
abbrev wsJxb160c0 : List Cond := u_ws RJxb160c TJxb160c 0
theorem nmJxb160c : ∀ a, a < 0 → ∀ b, b < 0 → a ≠ b → (TJxb160c a).2.1 ≠ (TJxb160c b).2.1 := by decide +kernel
theorem tyJxb160c_ok : ∀ k, k < 0 → parseFieldDescriptor (TJxb160c k).2.2.1 = some (tyJxb160c k) := by decide +kernel
def RJ9 : String := "java/lang/Math"
def TJ9 : u_T := fun k => match k with
  | _ => ("", "", "", false)
def tyJ9 : Nat → FieldType := fun k => match k with
  | _ => .int
abbrev wsJ90 : List Cond := u_ws RJ9 TJ9 0
theorem nmJ9 : ∀ a, a < 0 → ∀ b, b < 0 → a ≠ b → (TJ9 a).2.1 ≠ (TJ9 b).2.1 := by decide +kernel
theorem tyJ9_ok : ∀ k, k < 0 → parseFieldDescriptor (TJ9 k).2.2.1 = some (tyJ9 k) := by decide +kernel
abbrev cJ9_floorMod_7cf53 : ByteArray := prog_13_method_50_code
def yJ9_floorMod_7cf53 : MethodName := ⟨RJ9, "floorMod", "(II)I"⟩
abbrev cJ9_max_7cf53 : ByteArray := prog_13_method_65_code
def yJ9_max_7cf53 : MethodName := ⟨RJ9, "max", "(II)I"⟩
abbrev cJ9_min_7cf53 : ByteArray := prog_13_method_69_code
def yJ9_min_7cf53 : MethodName := ⟨RJ9, "min", "(II)I"⟩
def RJ0 : String := "java/lang/String"
def TJ0 : u_T := fun k => match k with
  | _ => ("", "", "", false)
def tyJ0 : Nat → FieldType := fun k => match k with
  | _ => .int
abbrev wsJ00 : List Cond := u_ws RJ0 TJ0 0
theorem nmJ0 : ∀ a, a < 0 → ∀ b, b < 0 → a ≠ b → (TJ0 a).2.1 ≠ (TJ0 b).2.1 := by decide +kernel
theorem tyJ0_ok : ∀ k, k < 0 → parseFieldDescriptor (TJ0 k).2.2.1 = some (tyJ0 k) := by decide +kernel
abbrev cJ0_length_8abf5 : ByteArray := prog_14_method_54_code
def yJ0_length_8abf5 : MethodName := ⟨RJ0, "length", "()I"⟩
abbrev cJ0_charAt_5068e : ByteArray := prog_14_method_56_code
def yJ0_charAt_5068e : MethodName := ⟨RJ0, "charAt", "(I)C"⟩
abbrev cJ0_coder_7d493 : ByteArray := prog_14_method_152_code
def yJ0_coder_7d493 : MethodName := ⟨RJ0, "coder", "()B"⟩
abbrev cJ0_isLatin1_aae02 : ByteArray := prog_14_method_154_code
def yJ0_isLatin1_aae02 : MethodName := ⟨RJ0, "isLatin1", "()Z"⟩
abbrev cJ0_checkIndex_df160 : ByteArray := prog_14_method_155_code
def yJ0_checkIndex_df160 : MethodName := ⟨RJ0, "checkIndex", "(II)V"⟩
def RJ1 : String := "java/lang/StringLatin1"
def TJ1 : u_T := fun k => match k with
  | _ => ("", "", "", false)
def tyJ1 : Nat → FieldType := fun k => match k with
  | _ => .int
abbrev wsJ10 : List Cond := u_ws RJ1 TJ1 0
theorem nmJ1 : ∀ a, a < 0 → ∀ b, b < 0 → a ≠ b → (TJ1 a).2.1 ≠ (TJ1 b).2.1 := by decide +kernel
theorem tyJ1_ok : ∀ k, k < 0 → parseFieldDescriptor (TJ1 k).2.2.1 = some (tyJ1 k) := by decide +kernel
abbrev cJ1_charAt_3b067 : ByteArray := prog_15_method_2_code
def yJ1_charAt_3b067 : MethodName := ⟨RJ1, "charAt", "([BI)C"⟩
def RJ2 : String := "java/lang/StringUTF16"
def TJ2 : u_T := fun k => match k with
  | _ => ("", "", "", false)
def tyJ2 : Nat → FieldType := fun k => match k with
  | _ => .int
abbrev wsJ20 : List Cond := u_ws RJ2 TJ2 0
theorem nmJ2 : ∀ a, a < 0 → ∀ b, b < 0 → a ≠ b → (TJ2 a).2.1 ≠ (TJ2 b).2.1 := by decide +kernel
theorem tyJ2_ok : ∀ k, k < 0 → parseFieldDescriptor (TJ2 k).2.2.1 = some (tyJ2 k) := by decide +kernel
abbrev cJ2_getChar_3b067 : ByteArray := prog_16_method_5_code
def yJ2_getChar_3b067 : MethodName := ⟨RJ2, "getChar", "([BI)C"⟩
abbrev cJ2_length_9d52b : ByteArray := prog_16_method_6_code
def yJ2_length_9d52b : MethodName := ⟨RJ2, "length", "([B)I"⟩
abbrev cJ2_charAt_3b067 : ByteArray := prog_16_method_83_code
def yJ2_charAt_3b067 : MethodName := ⟨RJ2, "charAt", "([BI)C"⟩
abbrev cJ2_checkIndex_2214a : ByteArray := prog_16_method_91_code
def yJ2_checkIndex_2214a : MethodName := ⟨RJ2, "checkIndex", "(I[B)V"⟩
def RJ10 : String := "java/lang/System"
def TJ10 : u_T := fun k => match k with
  | _ => ("", "", "", false)
def tyJ10 : Nat → FieldType := fun k => match k with
  | _ => .int
abbrev wsJ100 : List Cond := u_ws RJ10 TJ10 0
theorem nmJ10 : ∀ a, a < 0 → ∀ b, b < 0 → a ≠ b → (TJ10 a).2.1 ≠ (TJ10 b).2.1 := by decide +kernel
theorem tyJ10_ok : ∀ k, k < 0 → parseFieldDescriptor (TJ10 k).2.2.1 = some (tyJ10 k) := by decide +kernel
def RJxfd54e : String := "java/lang/constant/Constable"
def TJxfd54e : u_T := fun k => match k with
  | _ => ("", "", "", false)
def tyJxfd54e : Nat → FieldType := fun k => match k with
  | _ => .int
abbrev wsJxfd54e0 : List Cond := u_ws RJxfd54e TJxfd54e 0
theorem nmJxfd54e : ∀ a, a < 0 → ∀ b, b < 0 → a ≠ b → (TJxfd54e a).2.1 ≠ (TJxfd54e b).2.1 := by decide +kernel
theorem tyJxfd54e_ok : ∀ k, k < 0 → parseFieldDescriptor (TJxfd54e k).2.2.1 = some (tyJxfd54e k) := by decide +kernel
def RJx3cf43 : String := "java/lang/constant/ConstantDesc"
def TJx3cf43 : u_T := fun k => match k with
  | _ => ("", "", "", false)
def tyJx3cf43 : Nat → FieldType := fun k => match k with
  | _ => .int
abbrev wsJx3cf430 : List Cond := u_ws RJx3cf43 TJx3cf43 0
theorem nmJx3cf43 : ∀ a, a < 0 → ∀ b, b < 0 → a ≠ b → (TJx3cf43 a).2.1 ≠ (TJx3cf43 b).2.1 := by decide +kernel
theorem tyJx3cf43_ok : ∀ k, k < 0 → parseFieldDescriptor (TJx3cf43 k).2.2.1 = some (tyJx3cf43 k) := by decide +kernel
def RJ7 : String := "java/util/Arrays"
def TJ7 : u_T := fun k => match k with
  | _ => ("", "", "", false)
def tyJ7 : Nat → FieldType := fun k => match k with
  | _ => .int
abbrev wsJ70 : List Cond := u_ws RJ7 TJ7 0
theorem nmJ7 : ∀ a, a < 0 → ∀ b, b < 0 → a ≠ b → (TJ7 a).2.1 ≠ (TJ7 b).2.1 := by decide +kernel
theorem tyJ7_ok : ∀ k, k < 0 → parseFieldDescriptor (TJ7 k).2.2.1 = some (tyJ7 k) := by decide +kernel
abbrev cJ7_fill_53178 : ByteArray := prog_18_method_103_code
def yJ7_fill_53178 : MethodName := ⟨RJ7, "fill", "([II)V"⟩
def RJ3 : String := "jdk/internal/util/Preconditions"
def TJ3 : u_T := fun k => match k with
  | _ => ("", "", "", false)
def tyJ3 : Nat → FieldType := fun k => match k with
  | _ => .int
abbrev wsJ30 : List Cond := u_ws RJ3 TJ3 0
theorem nmJ3 : ∀ a, a < 0 → ∀ b, b < 0 → a ≠ b → (TJ3 a).2.1 ≠ (TJ3 b).2.1 := by decide +kernel
theorem tyJ3_ok : ∀ k, k < 0 → parseFieldDescriptor (TJ3 k).2.2.1 = some (tyJ3 k) := by decide +kernel
abbrev cJ3_checkIndex_8e157 : ByteArray := prog_19_method_11_code
def yJ3_checkIndex_8e157 : MethodName := ⟨RJ3, "checkIndex", "(IILjava/util/function/BiFunction;)I"⟩
def RL : String := "PromiseWheelLaw"
abbrev cL_law : ByteArray := code
def yL_law : MethodName := ⟨RL, "law", "([I)Z"⟩
def wsX0_init : List Cond := .code yX0_init cX0_init 1 none :: ([.methodLink RX0 3 objectInit, .instanceMethod objectInit, .code objectInit ⟨#[0xb1]⟩ 1 none, .arrayClass .int, .fieldLink RX0 11 "PromiseWheel$Diary" "facts" "[I"] ++ wsX00)
def wsX0_copyFrom : List Cond := .code yX0_copyFrom cX0_copyFrom 2 none :: ([.fieldLink RX0 11 "PromiseWheel$Diary" "facts" "[I", .methodLink RX0 15 arraycopyName, .native arraycopyName, .static arraycopyName, .initialized "java/lang/System", .fieldLink RX0 21 "PromiseWheel$Diary" "calls" "I"] ++ wsX00)
def wsX0_calls : List Cond := .code yX0_calls cX0_calls 1 (some .int) :: ([.fieldLink RX0 21 "PromiseWheel$Diary" "calls" "I"] ++ wsX00)
def wsJ9_floorMod_7cf53 : List Cond := .code yJ9_floorMod_7cf53 cJ9_floorMod_7cf53 3 (some .int) :: ([])
def wsX0_write : List Cond := .code yX0_write cX0_write 5 none :: ([.fieldLink RX0 21 "PromiseWheel$Diary" "calls" "I", .fieldLink RX0 11 "PromiseWheel$Diary" "facts" "[I", .methodLink RX0 25 yJ9_floorMod_7cf53, .static yJ9_floorMod_7cf53, .initialized RJ9, .code yJ9_floorMod_7cf53 cJ9_floorMod_7cf53 3 (some .int)] ++ wsX00)
def wsX0_read : List Cond := .code yX0_read cX0_read 3 (some .int) :: ([.fieldLink RX0 21 "PromiseWheel$Diary" "calls" "I", .methodLink RX0 31 Lib.Math.min.name, .static Lib.Math.min.name, .initialized "java/lang/Math", .code Lib.Math.min.name Lib.Math.min.code 2 (some .int), .fieldLink RX0 11 "PromiseWheel$Diary" "facts" "[I", .methodLink RX0 25 yJ9_floorMod_7cf53, .static yJ9_floorMod_7cf53, .initialized RJ9, .code yJ9_floorMod_7cf53 cJ9_floorMod_7cf53 3 (some .int)] ++ wsX00)
def wsX5_init : List Cond := .code yX5_init cX5_init 1 none :: ([.methodLink RX5 3 objectInit, .instanceMethod objectInit, .code objectInit ⟨#[0xb1]⟩ 1 none, .arrayClass .int, .fieldLink RX5 11 "PromiseWheel$Promises" "facts" "[I"] ++ wsX50)
def wsJ7_fill_53178 : List Cond := .code yJ7_fill_53178 cJ7_fill_53178 4 none :: ([])
def wsX3_init : List Cond := .code yX3_init cX3_init 1 none :: ([.methodLink RX3 3 objectInit, .instanceMethod objectInit, .code objectInit ⟨#[0xb1]⟩ 1 none, .arrayClass .int, .fieldLink RX3 9 "PromiseWheel$Lines" "first" "[I", .fieldLink RX3 15 "PromiseWheel$Lines" "last" "[I", .fieldLink RX3 18 "PromiseWheel$Lines" "length" "[I", .fieldLink RX3 21 "PromiseWheel$Lines" "line" "[I", .fieldLink RX3 24 "PromiseWheel$Lines" "behind" "[I", .methodLink RX3 27 yJ7_fill_53178, .static yJ7_fill_53178, .initialized RJ7, .code yJ7_fill_53178 cJ7_fill_53178 4 none] ++ wsX30)
def wsX8_init_r1 : List Cond := [Cond.methodLink RX8 3 objectInit, Cond.instanceMethod objectInit, Cond.code objectInit ⟨#[0xb1]⟩ 1 none, Cond.classLink RX8 9 RX5, Cond.instantiable RX5 2, Cond.initialized RX5, Cond.fieldLink RX8 12 "PromiseWheel$Wheel" "promises" "LPromiseWheel$Promises;", Cond.classLink RX8 18 RX3, Cond.instantiable RX3 5, Cond.initialized RX3, Cond.fieldLink RX8 21 "PromiseWheel$Wheel" "lines" "LPromiseWheel$Lines;", Cond.classLink RX8 25 RX0, Cond.instantiable RX0 2, Cond.initialized RX0, Cond.fieldLink RX8 28 "PromiseWheel$Wheel" "diary" "LPromiseWheel$Diary;", Cond.fieldLink RX8 32 "PromiseWheel$Wheel" "room" "I", Cond.fieldLink RX8 36 "PromiseWheel$Wheel" "bound" "I", Cond.instanceMethod yX5_init, Cond.code yX5_init cX5_init 1 none, Cond.methodLink RX5 3 objectInit, Cond.arrayClass .int, Cond.fieldLink RX5 11 "PromiseWheel$Promises" "facts" "[I", Cond.methodLink RX8 20 yX3_init, Cond.instanceMethod yX3_init]
def wsX8_init_r2 : List Cond := [Cond.code yX3_init cX3_init 1 none, Cond.methodLink RX3 3 objectInit, Cond.fieldLink RX3 9 "PromiseWheel$Lines" "first" "[I", Cond.fieldLink RX3 15 "PromiseWheel$Lines" "last" "[I", Cond.fieldLink RX3 18 "PromiseWheel$Lines" "length" "[I", Cond.fieldLink RX3 21 "PromiseWheel$Lines" "line" "[I", Cond.fieldLink RX3 24 "PromiseWheel$Lines" "behind" "[I", Cond.methodLink RX3 27 yJ7_fill_53178, Cond.static yJ7_fill_53178, Cond.initialized RJ7, Cond.code yJ7_fill_53178 cJ7_fill_53178 4 none, Cond.instanceMethod yX0_init, Cond.code yX0_init cX0_init 1 none, Cond.methodLink RX0 3 objectInit, Cond.fieldLink RX0 11 "PromiseWheel$Diary" "facts" "[I"]
def wsX8_init : List Cond := .code yX8_init cX8_init 1 none :: ((wsX8_init_r1 ++ wsX8_init_r2) ++ wsX50 ++ wsX80 ++ wsX30 ++ wsX00)
def wsX1_init_r1 : List Cond := [Cond.methodLink RX1 3 objectInit, Cond.instanceMethod objectInit, Cond.code objectInit ⟨#[0xb1]⟩ 1 none, Cond.classLink RX1 9 RX8, Cond.instantiable RX8 13, Cond.initialized RX8, Cond.fieldLink RX1 12 "PromiseWheel$Forecast" "imagined" "LPromiseWheel$Wheel;", Cond.instanceMethod yX8_init, Cond.code yX8_init cX8_init 1 none, Cond.methodLink RX8 3 objectInit, Cond.classLink RX8 9 RX5, Cond.instantiable RX5 2, Cond.initialized RX5, Cond.fieldLink RX8 12 "PromiseWheel$Wheel" "promises" "LPromiseWheel$Promises;", Cond.classLink RX8 18 RX3, Cond.instantiable RX3 5, Cond.initialized RX3, Cond.fieldLink RX8 21 "PromiseWheel$Wheel" "lines" "LPromiseWheel$Lines;", Cond.classLink RX8 25 RX0, Cond.instantiable RX0 2, Cond.initialized RX0, Cond.fieldLink RX8 28 "PromiseWheel$Wheel" "diary" "LPromiseWheel$Diary;", Cond.fieldLink RX8 32 "PromiseWheel$Wheel" "room" "I", Cond.fieldLink RX8 36 "PromiseWheel$Wheel" "bound" "I"]
def wsX1_init_r2 : List Cond := [Cond.instanceMethod yX5_init, Cond.code yX5_init cX5_init 1 none, Cond.methodLink RX5 3 objectInit, Cond.arrayClass .int, Cond.fieldLink RX5 11 "PromiseWheel$Promises" "facts" "[I", Cond.methodLink RX8 20 yX3_init, Cond.instanceMethod yX3_init, Cond.code yX3_init cX3_init 1 none, Cond.methodLink RX3 3 objectInit, Cond.fieldLink RX3 9 "PromiseWheel$Lines" "first" "[I", Cond.fieldLink RX3 15 "PromiseWheel$Lines" "last" "[I", Cond.fieldLink RX3 18 "PromiseWheel$Lines" "length" "[I", Cond.fieldLink RX3 21 "PromiseWheel$Lines" "line" "[I", Cond.fieldLink RX3 24 "PromiseWheel$Lines" "behind" "[I", Cond.methodLink RX3 27 yJ7_fill_53178, Cond.static yJ7_fill_53178, Cond.initialized RJ7, Cond.code yJ7_fill_53178 cJ7_fill_53178 4 none, Cond.instanceMethod yX0_init, Cond.code yX0_init cX0_init 1 none, Cond.methodLink RX0 3 objectInit, Cond.fieldLink RX0 11 "PromiseWheel$Diary" "facts" "[I"]
def wsX1_init : List Cond := .code yX1_init cX1_init 1 none :: ((wsX1_init_r1 ++ wsX1_init_r2) ++ wsX80 ++ wsX10 ++ wsX50 ++ wsX30 ++ wsX00)
def wsX5_copyFrom : List Cond := .code yX5_copyFrom cX5_copyFrom 2 none :: ([.fieldLink RX5 11 "PromiseWheel$Promises" "facts" "[I", .methodLink RX5 15 arraycopyName, .native arraycopyName, .static arraycopyName, .initialized "java/lang/System", .fieldLink RX5 21 "PromiseWheel$Promises" "given" "I"] ++ wsX50)
def wsX3_copyFrom : List Cond := .code yX3_copyFrom cX3_copyFrom 2 none :: ([.fieldLink RX3 9 "PromiseWheel$Lines" "first" "[I", .methodLink RX3 33 arraycopyName, .native arraycopyName, .static arraycopyName, .initialized "java/lang/System", .fieldLink RX3 15 "PromiseWheel$Lines" "last" "[I", .fieldLink RX3 18 "PromiseWheel$Lines" "length" "[I", .fieldLink RX3 21 "PromiseWheel$Lines" "line" "[I", .fieldLink RX3 24 "PromiseWheel$Lines" "behind" "[I"] ++ wsX30)
def wsX8_copyFrom_r1 : List Cond := [Cond.fieldLink RX8 12 "PromiseWheel$Wheel" "promises" "LPromiseWheel$Promises;", Cond.fieldLink RX8 21 "PromiseWheel$Wheel" "lines" "LPromiseWheel$Lines;", Cond.fieldLink RX8 28 "PromiseWheel$Wheel" "diary" "LPromiseWheel$Diary;", Cond.fieldLink RX8 49 "PromiseWheel$Wheel" "now" "I", Cond.fieldLink RX8 32 "PromiseWheel$Wheel" "room" "I", Cond.fieldLink RX8 36 "PromiseWheel$Wheel" "bound" "I", Cond.fieldLink RX8 52 "PromiseWheel$Wheel" "drift" "I", Cond.fieldLink RX8 55 "PromiseWheel$Wheel" "brokenStanding" "I", Cond.fieldLink RX8 58 "PromiseWheel$Wheel" "lateCalls" "I", Cond.fieldLink RX8 61 "PromiseWheel$Wheel" "falls" "I", Cond.fieldLink RX8 64 "PromiseWheel$Wheel" "swept" "I", Cond.fieldLink RX8 67 "PromiseWheel$Wheel" "passedOver" "I", Cond.fieldLink RX8 70 "PromiseWheel$Wheel" "longestQueue" "I", Cond.methodLink RX8 39 yX5_copyFrom, Cond.instanceMethod yX5_copyFrom, Cond.selects RX5 yX5_copyFrom yX5_copyFrom, Cond.initialized RX5, Cond.code yX5_copyFrom cX5_copyFrom 2 none, Cond.fieldLink RX5 11 "PromiseWheel$Promises" "facts" "[I", Cond.methodLink RX5 15 arraycopyName, Cond.native arraycopyName, Cond.static arraycopyName, Cond.initialized "java/lang/System", Cond.fieldLink RX5 21 "PromiseWheel$Promises" "given" "I"]
def wsX8_copyFrom_r2 : List Cond := [Cond.methodLink RX8 43 yX3_copyFrom, Cond.instanceMethod yX3_copyFrom, Cond.selects RX3 yX3_copyFrom yX3_copyFrom, Cond.initialized RX3, Cond.code yX3_copyFrom cX3_copyFrom 2 none, Cond.fieldLink RX3 9 "PromiseWheel$Lines" "first" "[I", Cond.methodLink RX3 33 arraycopyName, Cond.fieldLink RX3 15 "PromiseWheel$Lines" "last" "[I", Cond.fieldLink RX3 18 "PromiseWheel$Lines" "length" "[I", Cond.fieldLink RX3 21 "PromiseWheel$Lines" "line" "[I", Cond.fieldLink RX3 24 "PromiseWheel$Lines" "behind" "[I", Cond.methodLink RX8 46 yX0_copyFrom, Cond.instanceMethod yX0_copyFrom, Cond.selects RX0 yX0_copyFrom yX0_copyFrom, Cond.initialized RX0, Cond.code yX0_copyFrom cX0_copyFrom 2 none, Cond.fieldLink RX0 11 "PromiseWheel$Diary" "facts" "[I", Cond.methodLink RX0 15 arraycopyName, Cond.fieldLink RX0 21 "PromiseWheel$Diary" "calls" "I"]
def wsX8_copyFrom : List Cond := .code yX8_copyFrom cX8_copyFrom 2 none :: ((wsX8_copyFrom_r1 ++ wsX8_copyFrom_r2) ++ wsX80 ++ wsX50 ++ wsX30 ++ wsX00)
def wsX5_fact : List Cond := .code yX5_fact cX5_fact 3 (some .int) :: ([.fieldLink RX5 11 "PromiseWheel$Promises" "facts" "[I"] ++ wsX50)
def wsX8_presentSlot : List Cond := .code yX8_presentSlot cX8_presentSlot 2 (some .int) :: ([.fieldLink RX8 49 "PromiseWheel$Wheel" "now" "I"] ++ wsX80)
def wsX3_lengthOf : List Cond := .code yX3_lengthOf cX3_lengthOf 2 (some .int) :: ([.fieldLink RX3 18 "PromiseWheel$Lines" "length" "[I"] ++ wsX30)
def wsX3_frontOf : List Cond := .code yX3_frontOf cX3_frontOf 2 (some .int) :: ([.fieldLink RX3 9 "PromiseWheel$Lines" "first" "[I"] ++ wsX30)
def wsX3_lineOf : List Cond := .code yX3_lineOf cX3_lineOf 2 (some .int) :: ([.fieldLink RX3 21 "PromiseWheel$Lines" "line" "[I"] ++ wsX30)
def wsX3_follower : List Cond := .code yX3_follower cX3_follower 2 (some .int) :: ([.fieldLink RX3 24 "PromiseWheel$Lines" "behind" "[I"] ++ wsX30)
def wsX3_leave : List Cond := .code yX3_leave cX3_leave 6 none :: ([.fieldLink RX3 9 "PromiseWheel$Lines" "first" "[I", .fieldLink RX3 24 "PromiseWheel$Lines" "behind" "[I", .fieldLink RX3 15 "PromiseWheel$Lines" "last" "[I", .fieldLink RX3 21 "PromiseWheel$Lines" "line" "[I", .fieldLink RX3 18 "PromiseWheel$Lines" "length" "[I", .methodLink RX3 49 yX3_lineOf, .instanceMethod yX3_lineOf, .selects RX3 yX3_lineOf yX3_lineOf, .initialized RX3, .code yX3_lineOf cX3_lineOf 2 (some .int), .methodLink RX3 46 yX3_follower, .instanceMethod yX3_follower, .selects RX3 yX3_follower yX3_follower, .code yX3_follower cX3_follower 2 (some .int)] ++ wsX30)
def wsX5_isIn : List Cond := .code yX5_isIn cX5_isIn 3 (some .boolean) :: ([.methodLink RX5 25 yX5_fact, .instanceMethod yX5_fact, .selects RX5 yX5_fact yX5_fact, .initialized RX5, .code yX5_fact cX5_fact 3 (some .int), .fieldLink RX5 11 "PromiseWheel$Promises" "facts" "[I"] ++ wsX50)
def wsX5_write : List Cond := .code yX5_write cX5_write 4 none :: ([.fieldLink RX5 11 "PromiseWheel$Promises" "facts" "[I"] ++ wsX50)
def wsX8_noteSwept : List Cond := .code yX8_noteSwept cX8_noteSwept 2 none :: ([.fieldLink RX8 12 "PromiseWheel$Wheel" "promises" "LPromiseWheel$Promises;", .fieldLink RX8 55 "PromiseWheel$Wheel" "brokenStanding" "I", .fieldLink RX8 64 "PromiseWheel$Wheel" "swept" "I", .methodLink RX8 96 yX5_write, .instanceMethod yX5_write, .selects RX5 yX5_write yX5_write, .initialized RX5, .code yX5_write cX5_write 4 none, .fieldLink RX5 11 "PromiseWheel$Promises" "facts" "[I"] ++ wsX80 ++ wsX50)
def wsX8_lineFor : List Cond := .code yX8_lineFor cX8_lineFor 3 (some .int) :: ([.fieldLink RX8 49 "PromiseWheel$Wheel" "now" "I"] ++ wsX80)
def wsX3_join : List Cond := .code yX3_join cX3_join 4 none :: ([.fieldLink RX3 15 "PromiseWheel$Lines" "last" "[I", .fieldLink RX3 9 "PromiseWheel$Lines" "first" "[I", .fieldLink RX3 24 "PromiseWheel$Lines" "behind" "[I", .fieldLink RX3 21 "PromiseWheel$Lines" "line" "[I", .fieldLink RX3 18 "PromiseWheel$Lines" "length" "[I"] ++ wsX30)
def wsX8_letFall_r1 : List Cond := [Cond.fieldLink RX8 21 "PromiseWheel$Wheel" "lines" "LPromiseWheel$Lines;", Cond.fieldLink RX8 12 "PromiseWheel$Wheel" "promises" "LPromiseWheel$Promises;", Cond.fieldLink RX8 61 "PromiseWheel$Wheel" "falls" "I", Cond.methodLink RX8 144 yX8_presentSlot, Cond.instanceMethod yX8_presentSlot, Cond.selects RX8 yX8_presentSlot yX8_presentSlot, Cond.initialized RX8, Cond.code yX8_presentSlot cX8_presentSlot 2 (some .int), Cond.fieldLink RX8 49 "PromiseWheel$Wheel" "now" "I", Cond.methodLink RX8 136 yX3_lengthOf, Cond.instanceMethod yX3_lengthOf, Cond.selects RX3 yX3_lengthOf yX3_lengthOf, Cond.initialized RX3, Cond.code yX3_lengthOf cX3_lengthOf 2 (some .int), Cond.fieldLink RX3 18 "PromiseWheel$Lines" "length" "[I", Cond.methodLink RX8 147 yX3_frontOf, Cond.instanceMethod yX3_frontOf, Cond.selects RX3 yX3_frontOf yX3_frontOf, Cond.code yX3_frontOf cX3_frontOf 2 (some .int), Cond.fieldLink RX3 9 "PromiseWheel$Lines" "first" "[I", Cond.methodLink RX8 108 yX3_leave, Cond.instanceMethod yX3_leave, Cond.selects RX3 yX3_leave yX3_leave, Cond.code yX3_leave cX3_leave 6 none]
def wsX8_letFall_r2 : List Cond := [Cond.fieldLink RX3 24 "PromiseWheel$Lines" "behind" "[I", Cond.fieldLink RX3 15 "PromiseWheel$Lines" "last" "[I", Cond.fieldLink RX3 21 "PromiseWheel$Lines" "line" "[I", Cond.methodLink RX3 49 yX3_lineOf, Cond.instanceMethod yX3_lineOf, Cond.selects RX3 yX3_lineOf yX3_lineOf, Cond.code yX3_lineOf cX3_lineOf 2 (some .int), Cond.methodLink RX3 46 yX3_follower, Cond.instanceMethod yX3_follower, Cond.selects RX3 yX3_follower yX3_follower, Cond.code yX3_follower cX3_follower 2 (some .int), Cond.methodLink RX8 100 yX5_isIn, Cond.instanceMethod yX5_isIn, Cond.selects RX5 yX5_isIn yX5_isIn, Cond.initialized RX5, Cond.code yX5_isIn cX5_isIn 3 (some .boolean), Cond.methodLink RX5 25 yX5_fact, Cond.instanceMethod yX5_fact, Cond.selects RX5 yX5_fact yX5_fact, Cond.code yX5_fact cX5_fact 3 (some .int), Cond.fieldLink RX5 11 "PromiseWheel$Promises" "facts" "[I", Cond.methodLink RX8 118 yX8_noteSwept, Cond.instanceMethod yX8_noteSwept, Cond.selects RX8 yX8_noteSwept yX8_noteSwept]
def wsX8_letFall_r3 : List Cond := [Cond.code yX8_noteSwept cX8_noteSwept 2 none, Cond.fieldLink RX8 55 "PromiseWheel$Wheel" "brokenStanding" "I", Cond.fieldLink RX8 64 "PromiseWheel$Wheel" "swept" "I", Cond.methodLink RX8 96 yX5_write, Cond.instanceMethod yX5_write, Cond.selects RX5 yX5_write yX5_write, Cond.code yX5_write cX5_write 4 none, Cond.methodLink RX8 104 yX5_fact, Cond.methodLink RX8 81 yX8_lineFor, Cond.instanceMethod yX8_lineFor, Cond.selects RX8 yX8_lineFor yX8_lineFor, Cond.code yX8_lineFor cX8_lineFor 3 (some .int), Cond.methodLink RX8 85 yX3_join, Cond.instanceMethod yX3_join, Cond.selects RX3 yX3_join yX3_join, Cond.code yX3_join cX3_join 4 none]
def wsX8_letFall : List Cond := .code yX8_letFall cX8_letFall 6 none :: ((wsX8_letFall_r1 ++ (wsX8_letFall_r2 ++ wsX8_letFall_r3)) ++ wsX80 ++ wsX30 ++ wsX50)
def wsX8_letArrive_r1 : List Cond := [Cond.fieldLink RX8 21 "PromiseWheel$Wheel" "lines" "LPromiseWheel$Lines;", Cond.fieldLink RX8 12 "PromiseWheel$Wheel" "promises" "LPromiseWheel$Promises;", Cond.methodLink RX8 144 yX8_presentSlot, Cond.instanceMethod yX8_presentSlot, Cond.selects RX8 yX8_presentSlot yX8_presentSlot, Cond.initialized RX8, Cond.code yX8_presentSlot cX8_presentSlot 2 (some .int), Cond.fieldLink RX8 49 "PromiseWheel$Wheel" "now" "I", Cond.methodLink RX8 136 yX3_lengthOf, Cond.instanceMethod yX3_lengthOf, Cond.selects RX3 yX3_lengthOf yX3_lengthOf, Cond.initialized RX3, Cond.code yX3_lengthOf cX3_lengthOf 2 (some .int), Cond.fieldLink RX3 18 "PromiseWheel$Lines" "length" "[I", Cond.methodLink RX8 147 yX3_frontOf, Cond.instanceMethod yX3_frontOf, Cond.selects RX3 yX3_frontOf yX3_frontOf, Cond.code yX3_frontOf cX3_frontOf 2 (some .int), Cond.fieldLink RX3 9 "PromiseWheel$Lines" "first" "[I", Cond.methodLink RX8 108 yX3_leave, Cond.instanceMethod yX3_leave, Cond.selects RX3 yX3_leave yX3_leave, Cond.code yX3_leave cX3_leave 6 none, Cond.fieldLink RX3 24 "PromiseWheel$Lines" "behind" "[I"]
def wsX8_letArrive_r2 : List Cond := [Cond.fieldLink RX3 15 "PromiseWheel$Lines" "last" "[I", Cond.fieldLink RX3 21 "PromiseWheel$Lines" "line" "[I", Cond.methodLink RX3 49 yX3_lineOf, Cond.instanceMethod yX3_lineOf, Cond.selects RX3 yX3_lineOf yX3_lineOf, Cond.code yX3_lineOf cX3_lineOf 2 (some .int), Cond.methodLink RX3 46 yX3_follower, Cond.instanceMethod yX3_follower, Cond.selects RX3 yX3_follower yX3_follower, Cond.code yX3_follower cX3_follower 2 (some .int), Cond.methodLink RX8 100 yX5_isIn, Cond.instanceMethod yX5_isIn, Cond.selects RX5 yX5_isIn yX5_isIn, Cond.initialized RX5, Cond.code yX5_isIn cX5_isIn 3 (some .boolean), Cond.methodLink RX5 25 yX5_fact, Cond.instanceMethod yX5_fact, Cond.selects RX5 yX5_fact yX5_fact, Cond.code yX5_fact cX5_fact 3 (some .int), Cond.fieldLink RX5 11 "PromiseWheel$Promises" "facts" "[I", Cond.methodLink RX8 118 yX8_noteSwept, Cond.instanceMethod yX8_noteSwept, Cond.selects RX8 yX8_noteSwept yX8_noteSwept, Cond.code yX8_noteSwept cX8_noteSwept 2 none]
def wsX8_letArrive_r3 : List Cond := [Cond.fieldLink RX8 55 "PromiseWheel$Wheel" "brokenStanding" "I", Cond.fieldLink RX8 64 "PromiseWheel$Wheel" "swept" "I", Cond.methodLink RX8 96 yX5_write, Cond.instanceMethod yX5_write, Cond.selects RX5 yX5_write yX5_write, Cond.code yX5_write cX5_write 4 none, Cond.methodLink RX8 85 yX3_join, Cond.instanceMethod yX3_join, Cond.selects RX3 yX3_join yX3_join, Cond.code yX3_join cX3_join 4 none]
def wsX8_letArrive : List Cond := .code yX8_letArrive cX8_letArrive 5 none :: ((wsX8_letArrive_r1 ++ (wsX8_letArrive_r2 ++ wsX8_letArrive_r3)) ++ wsX80 ++ wsX30 ++ wsX50)
def wsX8_dueOfRepetition : List Cond := .code yX8_dueOfRepetition cX8_dueOfRepetition 4 (some .int) :: ([.fieldLink RX8 52 "PromiseWheel$Wheel" "drift" "I", .fieldLink RX8 49 "PromiseWheel$Wheel" "now" "I", .fieldLink RX8 67 "PromiseWheel$Wheel" "passedOver" "I"] ++ wsX80)
def wsX8_callPromise_r1 : List Cond := [Cond.fieldLink RX8 12 "PromiseWheel$Wheel" "promises" "LPromiseWheel$Promises;", Cond.fieldLink RX8 49 "PromiseWheel$Wheel" "now" "I", Cond.fieldLink RX8 58 "PromiseWheel$Wheel" "lateCalls" "I", Cond.fieldLink RX8 28 "PromiseWheel$Wheel" "diary" "LPromiseWheel$Diary;", Cond.fieldLink RX8 21 "PromiseWheel$Wheel" "lines" "LPromiseWheel$Lines;", Cond.methodLink RX8 104 yX5_fact, Cond.instanceMethod yX5_fact, Cond.selects RX5 yX5_fact yX5_fact, Cond.initialized RX5, Cond.code yX5_fact cX5_fact 3 (some .int), Cond.fieldLink RX5 11 "PromiseWheel$Promises" "facts" "[I", Cond.methodLink RX8 96 yX5_write, Cond.instanceMethod yX5_write, Cond.selects RX5 yX5_write yX5_write, Cond.code yX5_write cX5_write 4 none, Cond.methodLink RX8 153 yX0_write, Cond.instanceMethod yX0_write, Cond.selects RX0 yX0_write yX0_write, Cond.initialized RX0, Cond.code yX0_write cX0_write 5 none, Cond.fieldLink RX0 21 "PromiseWheel$Diary" "calls" "I", Cond.fieldLink RX0 11 "PromiseWheel$Diary" "facts" "[I", Cond.methodLink RX0 25 yJ9_floorMod_7cf53, Cond.static yJ9_floorMod_7cf53]
def wsX8_callPromise_r2 : List Cond := [Cond.initialized RJ9, Cond.code yJ9_floorMod_7cf53 cJ9_floorMod_7cf53 3 (some .int), Cond.methodLink RX8 154 yX8_dueOfRepetition, Cond.instanceMethod yX8_dueOfRepetition, Cond.selects RX8 yX8_dueOfRepetition yX8_dueOfRepetition, Cond.initialized RX8, Cond.code yX8_dueOfRepetition cX8_dueOfRepetition 4 (some .int), Cond.fieldLink RX8 52 "PromiseWheel$Wheel" "drift" "I", Cond.fieldLink RX8 67 "PromiseWheel$Wheel" "passedOver" "I", Cond.methodLink RX8 81 yX8_lineFor, Cond.instanceMethod yX8_lineFor, Cond.selects RX8 yX8_lineFor yX8_lineFor, Cond.code yX8_lineFor cX8_lineFor 3 (some .int), Cond.methodLink RX8 85 yX3_join, Cond.instanceMethod yX3_join, Cond.selects RX3 yX3_join yX3_join, Cond.initialized RX3, Cond.code yX3_join cX3_join 4 none, Cond.fieldLink RX3 15 "PromiseWheel$Lines" "last" "[I", Cond.fieldLink RX3 9 "PromiseWheel$Lines" "first" "[I", Cond.fieldLink RX3 24 "PromiseWheel$Lines" "behind" "[I", Cond.fieldLink RX3 21 "PromiseWheel$Lines" "line" "[I", Cond.fieldLink RX3 18 "PromiseWheel$Lines" "length" "[I"]
def wsX8_callPromise : List Cond := .code yX8_callPromise cX8_callPromise 6 none :: ((wsX8_callPromise_r1 ++ wsX8_callPromise_r2) ++ wsX80 ++ wsX50 ++ wsX00 ++ wsX30)
def wsX8_serveQueue_r1 : List Cond := [Cond.fieldLink RX8 21 "PromiseWheel$Wheel" "lines" "LPromiseWheel$Lines;", Cond.fieldLink RX8 32 "PromiseWheel$Wheel" "room" "I", Cond.fieldLink RX8 12 "PromiseWheel$Wheel" "promises" "LPromiseWheel$Promises;", Cond.methodLink RX8 136 yX3_lengthOf, Cond.instanceMethod yX3_lengthOf, Cond.selects RX3 yX3_lengthOf yX3_lengthOf, Cond.initialized RX3, Cond.code yX3_lengthOf cX3_lengthOf 2 (some .int), Cond.fieldLink RX3 18 "PromiseWheel$Lines" "length" "[I", Cond.methodLink RX8 147 yX3_frontOf, Cond.instanceMethod yX3_frontOf, Cond.selects RX3 yX3_frontOf yX3_frontOf, Cond.code yX3_frontOf cX3_frontOf 2 (some .int), Cond.fieldLink RX3 9 "PromiseWheel$Lines" "first" "[I", Cond.methodLink RX8 108 yX3_leave, Cond.instanceMethod yX3_leave, Cond.selects RX3 yX3_leave yX3_leave, Cond.code yX3_leave cX3_leave 6 none, Cond.fieldLink RX3 24 "PromiseWheel$Lines" "behind" "[I", Cond.fieldLink RX3 15 "PromiseWheel$Lines" "last" "[I", Cond.fieldLink RX3 21 "PromiseWheel$Lines" "line" "[I", Cond.methodLink RX3 49 yX3_lineOf, Cond.instanceMethod yX3_lineOf, Cond.selects RX3 yX3_lineOf yX3_lineOf]
def wsX8_serveQueue_r2 : List Cond := [Cond.code yX3_lineOf cX3_lineOf 2 (some .int), Cond.methodLink RX3 46 yX3_follower, Cond.instanceMethod yX3_follower, Cond.selects RX3 yX3_follower yX3_follower, Cond.code yX3_follower cX3_follower 2 (some .int), Cond.methodLink RX8 100 yX5_isIn, Cond.instanceMethod yX5_isIn, Cond.selects RX5 yX5_isIn yX5_isIn, Cond.initialized RX5, Cond.code yX5_isIn cX5_isIn 3 (some .boolean), Cond.methodLink RX5 25 yX5_fact, Cond.instanceMethod yX5_fact, Cond.selects RX5 yX5_fact yX5_fact, Cond.code yX5_fact cX5_fact 3 (some .int), Cond.fieldLink RX5 11 "PromiseWheel$Promises" "facts" "[I", Cond.methodLink RX8 118 yX8_noteSwept, Cond.instanceMethod yX8_noteSwept, Cond.selects RX8 yX8_noteSwept yX8_noteSwept, Cond.initialized RX8, Cond.code yX8_noteSwept cX8_noteSwept 2 none, Cond.fieldLink RX8 55 "PromiseWheel$Wheel" "brokenStanding" "I", Cond.fieldLink RX8 64 "PromiseWheel$Wheel" "swept" "I", Cond.methodLink RX8 96 yX5_write, Cond.instanceMethod yX5_write]
def wsX8_serveQueue_r3 : List Cond := [Cond.selects RX5 yX5_write yX5_write, Cond.code yX5_write cX5_write 4 none, Cond.methodLink RX8 150 yX8_callPromise, Cond.instanceMethod yX8_callPromise, Cond.selects RX8 yX8_callPromise yX8_callPromise, Cond.code yX8_callPromise cX8_callPromise 6 none, Cond.fieldLink RX8 49 "PromiseWheel$Wheel" "now" "I", Cond.fieldLink RX8 58 "PromiseWheel$Wheel" "lateCalls" "I", Cond.fieldLink RX8 28 "PromiseWheel$Wheel" "diary" "LPromiseWheel$Diary;", Cond.methodLink RX8 104 yX5_fact, Cond.methodLink RX8 153 yX0_write, Cond.instanceMethod yX0_write, Cond.selects RX0 yX0_write yX0_write, Cond.initialized RX0, Cond.code yX0_write cX0_write 5 none, Cond.fieldLink RX0 21 "PromiseWheel$Diary" "calls" "I", Cond.fieldLink RX0 11 "PromiseWheel$Diary" "facts" "[I", Cond.methodLink RX0 25 yJ9_floorMod_7cf53, Cond.static yJ9_floorMod_7cf53, Cond.initialized RJ9, Cond.code yJ9_floorMod_7cf53 cJ9_floorMod_7cf53 3 (some .int), Cond.methodLink RX8 154 yX8_dueOfRepetition, Cond.instanceMethod yX8_dueOfRepetition, Cond.selects RX8 yX8_dueOfRepetition yX8_dueOfRepetition]
def wsX8_serveQueue_r4 : List Cond := [Cond.code yX8_dueOfRepetition cX8_dueOfRepetition 4 (some .int), Cond.fieldLink RX8 52 "PromiseWheel$Wheel" "drift" "I", Cond.fieldLink RX8 67 "PromiseWheel$Wheel" "passedOver" "I", Cond.methodLink RX8 81 yX8_lineFor, Cond.instanceMethod yX8_lineFor, Cond.selects RX8 yX8_lineFor yX8_lineFor, Cond.code yX8_lineFor cX8_lineFor 3 (some .int), Cond.methodLink RX8 85 yX3_join, Cond.instanceMethod yX3_join, Cond.selects RX3 yX3_join yX3_join, Cond.code yX3_join cX3_join 4 none]
def wsX8_serveQueue : List Cond := .code yX8_serveQueue cX8_serveQueue 5 none :: ((wsX8_serveQueue_r1 ++ (wsX8_serveQueue_r2 ++ (wsX8_serveQueue_r3 ++ wsX8_serveQueue_r4))) ++ wsX80 ++ wsX30 ++ wsX50 ++ wsX00)
def wsX5_given : List Cond := .code yX5_given cX5_given 1 (some .int) :: ([.fieldLink RX5 21 "PromiseWheel$Promises" "given" "I"] ++ wsX50)
def wsX8_sweepAll_r1 : List Cond := [Cond.fieldLink RX8 64 "PromiseWheel$Wheel" "swept" "I", Cond.fieldLink RX8 12 "PromiseWheel$Wheel" "promises" "LPromiseWheel$Promises;", Cond.fieldLink RX8 21 "PromiseWheel$Wheel" "lines" "LPromiseWheel$Lines;", Cond.methodLink RX8 73 yX5_given, Cond.instanceMethod yX5_given, Cond.selects RX5 yX5_given yX5_given, Cond.initialized RX5, Cond.code yX5_given cX5_given 1 (some .int), Cond.fieldLink RX5 21 "PromiseWheel$Promises" "given" "I", Cond.methodLink RX8 100 yX5_isIn, Cond.instanceMethod yX5_isIn, Cond.selects RX5 yX5_isIn yX5_isIn, Cond.code yX5_isIn cX5_isIn 3 (some .boolean), Cond.methodLink RX5 25 yX5_fact, Cond.instanceMethod yX5_fact, Cond.selects RX5 yX5_fact yX5_fact, Cond.code yX5_fact cX5_fact 3 (some .int), Cond.fieldLink RX5 11 "PromiseWheel$Promises" "facts" "[I", Cond.methodLink RX8 108 yX3_leave, Cond.instanceMethod yX3_leave, Cond.selects RX3 yX3_leave yX3_leave, Cond.initialized RX3, Cond.code yX3_leave cX3_leave 6 none, Cond.fieldLink RX3 9 "PromiseWheel$Lines" "first" "[I"]
def wsX8_sweepAll_r2 : List Cond := [Cond.fieldLink RX3 24 "PromiseWheel$Lines" "behind" "[I", Cond.fieldLink RX3 15 "PromiseWheel$Lines" "last" "[I", Cond.fieldLink RX3 21 "PromiseWheel$Lines" "line" "[I", Cond.fieldLink RX3 18 "PromiseWheel$Lines" "length" "[I", Cond.methodLink RX3 49 yX3_lineOf, Cond.instanceMethod yX3_lineOf, Cond.selects RX3 yX3_lineOf yX3_lineOf, Cond.code yX3_lineOf cX3_lineOf 2 (some .int), Cond.methodLink RX3 46 yX3_follower, Cond.instanceMethod yX3_follower, Cond.selects RX3 yX3_follower yX3_follower, Cond.code yX3_follower cX3_follower 2 (some .int), Cond.methodLink RX8 118 yX8_noteSwept, Cond.instanceMethod yX8_noteSwept, Cond.selects RX8 yX8_noteSwept yX8_noteSwept, Cond.initialized RX8, Cond.code yX8_noteSwept cX8_noteSwept 2 none, Cond.fieldLink RX8 55 "PromiseWheel$Wheel" "brokenStanding" "I", Cond.methodLink RX8 96 yX5_write, Cond.instanceMethod yX5_write, Cond.selects RX5 yX5_write yX5_write, Cond.code yX5_write cX5_write 4 none]
def wsX8_sweepAll : List Cond := .code yX8_sweepAll cX8_sweepAll 3 (some .int) :: ((wsX8_sweepAll_r1 ++ wsX8_sweepAll_r2) ++ wsX80 ++ wsX50 ++ wsX30)
def wsX8_passTick_r1 : List Cond := [Cond.fieldLink RX8 49 "PromiseWheel$Wheel" "now" "I", Cond.fieldLink RX8 55 "PromiseWheel$Wheel" "brokenStanding" "I", Cond.fieldLink RX8 36 "PromiseWheel$Wheel" "bound" "I", Cond.fieldLink RX8 70 "PromiseWheel$Wheel" "longestQueue" "I", Cond.fieldLink RX8 21 "PromiseWheel$Wheel" "lines" "LPromiseWheel$Lines;", Cond.methodLink RX8 139 Lib.Math.max.name, Cond.static Lib.Math.max.name, Cond.initialized "java/lang/Math", Cond.code Lib.Math.max.name Lib.Math.max.code 2 (some .int), Cond.methodLink RX8 124 yX8_letFall, Cond.instanceMethod yX8_letFall, Cond.selects RX8 yX8_letFall yX8_letFall, Cond.initialized RX8, Cond.code yX8_letFall cX8_letFall 6 none, Cond.fieldLink RX8 12 "PromiseWheel$Wheel" "promises" "LPromiseWheel$Promises;", Cond.fieldLink RX8 61 "PromiseWheel$Wheel" "falls" "I", Cond.methodLink RX8 144 yX8_presentSlot, Cond.instanceMethod yX8_presentSlot, Cond.selects RX8 yX8_presentSlot yX8_presentSlot, Cond.code yX8_presentSlot cX8_presentSlot 2 (some .int), Cond.methodLink RX8 136 yX3_lengthOf, Cond.instanceMethod yX3_lengthOf, Cond.selects RX3 yX3_lengthOf yX3_lengthOf, Cond.initialized RX3]
def wsX8_passTick_r2 : List Cond := [Cond.code yX3_lengthOf cX3_lengthOf 2 (some .int), Cond.fieldLink RX3 18 "PromiseWheel$Lines" "length" "[I", Cond.methodLink RX8 147 yX3_frontOf, Cond.instanceMethod yX3_frontOf, Cond.selects RX3 yX3_frontOf yX3_frontOf, Cond.code yX3_frontOf cX3_frontOf 2 (some .int), Cond.fieldLink RX3 9 "PromiseWheel$Lines" "first" "[I", Cond.methodLink RX8 108 yX3_leave, Cond.instanceMethod yX3_leave, Cond.selects RX3 yX3_leave yX3_leave, Cond.code yX3_leave cX3_leave 6 none, Cond.fieldLink RX3 24 "PromiseWheel$Lines" "behind" "[I", Cond.fieldLink RX3 15 "PromiseWheel$Lines" "last" "[I", Cond.fieldLink RX3 21 "PromiseWheel$Lines" "line" "[I", Cond.methodLink RX3 49 yX3_lineOf, Cond.instanceMethod yX3_lineOf, Cond.selects RX3 yX3_lineOf yX3_lineOf, Cond.code yX3_lineOf cX3_lineOf 2 (some .int), Cond.methodLink RX3 46 yX3_follower, Cond.instanceMethod yX3_follower, Cond.selects RX3 yX3_follower yX3_follower, Cond.code yX3_follower cX3_follower 2 (some .int), Cond.methodLink RX8 100 yX5_isIn, Cond.instanceMethod yX5_isIn]
def wsX8_passTick_r3 : List Cond := [Cond.selects RX5 yX5_isIn yX5_isIn, Cond.initialized RX5, Cond.code yX5_isIn cX5_isIn 3 (some .boolean), Cond.methodLink RX5 25 yX5_fact, Cond.instanceMethod yX5_fact, Cond.selects RX5 yX5_fact yX5_fact, Cond.code yX5_fact cX5_fact 3 (some .int), Cond.fieldLink RX5 11 "PromiseWheel$Promises" "facts" "[I", Cond.methodLink RX8 118 yX8_noteSwept, Cond.instanceMethod yX8_noteSwept, Cond.selects RX8 yX8_noteSwept yX8_noteSwept, Cond.code yX8_noteSwept cX8_noteSwept 2 none, Cond.fieldLink RX8 64 "PromiseWheel$Wheel" "swept" "I", Cond.methodLink RX8 96 yX5_write, Cond.instanceMethod yX5_write, Cond.selects RX5 yX5_write yX5_write, Cond.code yX5_write cX5_write 4 none, Cond.methodLink RX8 104 yX5_fact, Cond.methodLink RX8 81 yX8_lineFor, Cond.instanceMethod yX8_lineFor, Cond.selects RX8 yX8_lineFor yX8_lineFor, Cond.code yX8_lineFor cX8_lineFor 3 (some .int), Cond.methodLink RX8 85 yX3_join, Cond.instanceMethod yX3_join]
def wsX8_passTick_r4 : List Cond := [Cond.selects RX3 yX3_join yX3_join, Cond.code yX3_join cX3_join 4 none, Cond.methodLink RX8 127 yX8_letArrive, Cond.instanceMethod yX8_letArrive, Cond.selects RX8 yX8_letArrive yX8_letArrive, Cond.code yX8_letArrive cX8_letArrive 5 none, Cond.methodLink RX8 130 yX8_serveQueue, Cond.instanceMethod yX8_serveQueue, Cond.selects RX8 yX8_serveQueue yX8_serveQueue, Cond.code yX8_serveQueue cX8_serveQueue 5 none, Cond.fieldLink RX8 32 "PromiseWheel$Wheel" "room" "I", Cond.methodLink RX8 150 yX8_callPromise, Cond.instanceMethod yX8_callPromise, Cond.selects RX8 yX8_callPromise yX8_callPromise, Cond.code yX8_callPromise cX8_callPromise 6 none, Cond.fieldLink RX8 58 "PromiseWheel$Wheel" "lateCalls" "I", Cond.fieldLink RX8 28 "PromiseWheel$Wheel" "diary" "LPromiseWheel$Diary;", Cond.methodLink RX8 153 yX0_write, Cond.instanceMethod yX0_write, Cond.selects RX0 yX0_write yX0_write, Cond.initialized RX0, Cond.code yX0_write cX0_write 5 none, Cond.fieldLink RX0 21 "PromiseWheel$Diary" "calls" "I", Cond.fieldLink RX0 11 "PromiseWheel$Diary" "facts" "[I"]
def wsX8_passTick_r5 : List Cond := [Cond.methodLink RX0 25 yJ9_floorMod_7cf53, Cond.static yJ9_floorMod_7cf53, Cond.initialized RJ9, Cond.code yJ9_floorMod_7cf53 cJ9_floorMod_7cf53 3 (some .int), Cond.methodLink RX8 154 yX8_dueOfRepetition, Cond.instanceMethod yX8_dueOfRepetition, Cond.selects RX8 yX8_dueOfRepetition yX8_dueOfRepetition, Cond.code yX8_dueOfRepetition cX8_dueOfRepetition 4 (some .int), Cond.fieldLink RX8 52 "PromiseWheel$Wheel" "drift" "I", Cond.fieldLink RX8 67 "PromiseWheel$Wheel" "passedOver" "I", Cond.methodLink RX8 133 yX8_sweepAll, Cond.instanceMethod yX8_sweepAll, Cond.selects RX8 yX8_sweepAll yX8_sweepAll, Cond.code yX8_sweepAll cX8_sweepAll 3 (some .int), Cond.methodLink RX8 73 yX5_given, Cond.instanceMethod yX5_given, Cond.selects RX5 yX5_given yX5_given, Cond.code yX5_given cX5_given 1 (some .int), Cond.fieldLink RX5 21 "PromiseWheel$Promises" "given" "I"]
def wsX8_passTick : List Cond := .code yX8_passTick cX8_passTick 1 none :: ((wsX8_passTick_r1 ++ (wsX8_passTick_r2 ++ (wsX8_passTick_r3 ++ (wsX8_passTick_r4 ++ wsX8_passTick_r5)))) ++ wsX80 ++ wsX30 ++ wsX50 ++ wsX00)
def wsX1_tickOfCall_r1 : List Cond := [Cond.fieldLink RX1 12 "PromiseWheel$Forecast" "imagined" "LPromiseWheel$Wheel;", Cond.methodLink RX1 18 yX8_copyFrom, Cond.instanceMethod yX8_copyFrom, Cond.selects RX8 yX8_copyFrom yX8_copyFrom, Cond.initialized RX8, Cond.code yX8_copyFrom cX8_copyFrom 2 none, Cond.fieldLink RX8 12 "PromiseWheel$Wheel" "promises" "LPromiseWheel$Promises;", Cond.fieldLink RX8 21 "PromiseWheel$Wheel" "lines" "LPromiseWheel$Lines;", Cond.fieldLink RX8 28 "PromiseWheel$Wheel" "diary" "LPromiseWheel$Diary;", Cond.fieldLink RX8 49 "PromiseWheel$Wheel" "now" "I", Cond.fieldLink RX8 32 "PromiseWheel$Wheel" "room" "I", Cond.fieldLink RX8 36 "PromiseWheel$Wheel" "bound" "I", Cond.fieldLink RX8 52 "PromiseWheel$Wheel" "drift" "I", Cond.fieldLink RX8 55 "PromiseWheel$Wheel" "brokenStanding" "I", Cond.fieldLink RX8 58 "PromiseWheel$Wheel" "lateCalls" "I", Cond.fieldLink RX8 61 "PromiseWheel$Wheel" "falls" "I", Cond.fieldLink RX8 64 "PromiseWheel$Wheel" "swept" "I", Cond.fieldLink RX8 67 "PromiseWheel$Wheel" "passedOver" "I", Cond.fieldLink RX8 70 "PromiseWheel$Wheel" "longestQueue" "I", Cond.methodLink RX8 39 yX5_copyFrom, Cond.instanceMethod yX5_copyFrom, Cond.selects RX5 yX5_copyFrom yX5_copyFrom, Cond.initialized RX5, Cond.code yX5_copyFrom cX5_copyFrom 2 none]
def wsX1_tickOfCall_r2 : List Cond := [Cond.fieldLink RX5 11 "PromiseWheel$Promises" "facts" "[I", Cond.methodLink RX5 15 arraycopyName, Cond.native arraycopyName, Cond.static arraycopyName, Cond.initialized "java/lang/System", Cond.fieldLink RX5 21 "PromiseWheel$Promises" "given" "I", Cond.methodLink RX8 43 yX3_copyFrom, Cond.instanceMethod yX3_copyFrom, Cond.selects RX3 yX3_copyFrom yX3_copyFrom, Cond.initialized RX3, Cond.code yX3_copyFrom cX3_copyFrom 2 none, Cond.fieldLink RX3 9 "PromiseWheel$Lines" "first" "[I", Cond.methodLink RX3 33 arraycopyName, Cond.fieldLink RX3 15 "PromiseWheel$Lines" "last" "[I", Cond.fieldLink RX3 18 "PromiseWheel$Lines" "length" "[I", Cond.fieldLink RX3 21 "PromiseWheel$Lines" "line" "[I", Cond.fieldLink RX3 24 "PromiseWheel$Lines" "behind" "[I", Cond.methodLink RX8 46 yX0_copyFrom, Cond.instanceMethod yX0_copyFrom, Cond.selects RX0 yX0_copyFrom yX0_copyFrom, Cond.initialized RX0, Cond.code yX0_copyFrom cX0_copyFrom 2 none, Cond.fieldLink RX0 11 "PromiseWheel$Diary" "facts" "[I", Cond.methodLink RX0 15 arraycopyName]
def wsX1_tickOfCall_r3 : List Cond := [Cond.fieldLink RX0 21 "PromiseWheel$Diary" "calls" "I", Cond.methodLink RX1 28 yX5_fact, Cond.instanceMethod yX5_fact, Cond.selects RX5 yX5_fact yX5_fact, Cond.code yX5_fact cX5_fact 3 (some .int), Cond.methodLink RX1 32 yX8_passTick, Cond.instanceMethod yX8_passTick, Cond.selects RX8 yX8_passTick yX8_passTick, Cond.code yX8_passTick cX8_passTick 1 none, Cond.methodLink RX8 139 Lib.Math.max.name, Cond.static Lib.Math.max.name, Cond.initialized "java/lang/Math", Cond.code Lib.Math.max.name Lib.Math.max.code 2 (some .int), Cond.methodLink RX8 124 yX8_letFall, Cond.instanceMethod yX8_letFall, Cond.selects RX8 yX8_letFall yX8_letFall, Cond.code yX8_letFall cX8_letFall 6 none, Cond.methodLink RX8 144 yX8_presentSlot, Cond.instanceMethod yX8_presentSlot, Cond.selects RX8 yX8_presentSlot yX8_presentSlot, Cond.code yX8_presentSlot cX8_presentSlot 2 (some .int), Cond.methodLink RX8 136 yX3_lengthOf, Cond.instanceMethod yX3_lengthOf, Cond.selects RX3 yX3_lengthOf yX3_lengthOf]
def wsX1_tickOfCall_r4 : List Cond := [Cond.code yX3_lengthOf cX3_lengthOf 2 (some .int), Cond.methodLink RX8 147 yX3_frontOf, Cond.instanceMethod yX3_frontOf, Cond.selects RX3 yX3_frontOf yX3_frontOf, Cond.code yX3_frontOf cX3_frontOf 2 (some .int), Cond.methodLink RX8 108 yX3_leave, Cond.instanceMethod yX3_leave, Cond.selects RX3 yX3_leave yX3_leave, Cond.code yX3_leave cX3_leave 6 none, Cond.methodLink RX3 49 yX3_lineOf, Cond.instanceMethod yX3_lineOf, Cond.selects RX3 yX3_lineOf yX3_lineOf, Cond.code yX3_lineOf cX3_lineOf 2 (some .int), Cond.methodLink RX3 46 yX3_follower, Cond.instanceMethod yX3_follower, Cond.selects RX3 yX3_follower yX3_follower, Cond.code yX3_follower cX3_follower 2 (some .int), Cond.methodLink RX8 100 yX5_isIn, Cond.instanceMethod yX5_isIn, Cond.selects RX5 yX5_isIn yX5_isIn, Cond.code yX5_isIn cX5_isIn 3 (some .boolean), Cond.methodLink RX5 25 yX5_fact, Cond.methodLink RX8 118 yX8_noteSwept, Cond.instanceMethod yX8_noteSwept]
def wsX1_tickOfCall_r5 : List Cond := [Cond.selects RX8 yX8_noteSwept yX8_noteSwept, Cond.code yX8_noteSwept cX8_noteSwept 2 none, Cond.methodLink RX8 96 yX5_write, Cond.instanceMethod yX5_write, Cond.selects RX5 yX5_write yX5_write, Cond.code yX5_write cX5_write 4 none, Cond.methodLink RX8 104 yX5_fact, Cond.methodLink RX8 81 yX8_lineFor, Cond.instanceMethod yX8_lineFor, Cond.selects RX8 yX8_lineFor yX8_lineFor, Cond.code yX8_lineFor cX8_lineFor 3 (some .int), Cond.methodLink RX8 85 yX3_join, Cond.instanceMethod yX3_join, Cond.selects RX3 yX3_join yX3_join, Cond.code yX3_join cX3_join 4 none, Cond.methodLink RX8 127 yX8_letArrive, Cond.instanceMethod yX8_letArrive, Cond.selects RX8 yX8_letArrive yX8_letArrive, Cond.code yX8_letArrive cX8_letArrive 5 none, Cond.methodLink RX8 130 yX8_serveQueue, Cond.instanceMethod yX8_serveQueue, Cond.selects RX8 yX8_serveQueue yX8_serveQueue, Cond.code yX8_serveQueue cX8_serveQueue 5 none, Cond.methodLink RX8 150 yX8_callPromise]
def wsX1_tickOfCall_r6 : List Cond := [Cond.instanceMethod yX8_callPromise, Cond.selects RX8 yX8_callPromise yX8_callPromise, Cond.code yX8_callPromise cX8_callPromise 6 none, Cond.methodLink RX8 153 yX0_write, Cond.instanceMethod yX0_write, Cond.selects RX0 yX0_write yX0_write, Cond.code yX0_write cX0_write 5 none, Cond.methodLink RX0 25 yJ9_floorMod_7cf53, Cond.static yJ9_floorMod_7cf53, Cond.initialized RJ9, Cond.code yJ9_floorMod_7cf53 cJ9_floorMod_7cf53 3 (some .int), Cond.methodLink RX8 154 yX8_dueOfRepetition, Cond.instanceMethod yX8_dueOfRepetition, Cond.selects RX8 yX8_dueOfRepetition yX8_dueOfRepetition, Cond.code yX8_dueOfRepetition cX8_dueOfRepetition 4 (some .int), Cond.methodLink RX8 133 yX8_sweepAll, Cond.instanceMethod yX8_sweepAll, Cond.selects RX8 yX8_sweepAll yX8_sweepAll, Cond.code yX8_sweepAll cX8_sweepAll 3 (some .int), Cond.methodLink RX8 73 yX5_given, Cond.instanceMethod yX5_given, Cond.selects RX5 yX5_given yX5_given, Cond.code yX5_given cX5_given 1 (some .int)]
def wsX1_tickOfCall : List Cond := .code yX1_tickOfCall cX1_tickOfCall 5 (some .int) :: ((wsX1_tickOfCall_r1 ++ (wsX1_tickOfCall_r2 ++ (wsX1_tickOfCall_r3 ++ (wsX1_tickOfCall_r4 ++ (wsX1_tickOfCall_r5 ++ wsX1_tickOfCall_r6))))) ++ wsX10 ++ wsX80 ++ wsX50 ++ wsX30 ++ wsX00)
def wsX5_howManyIn : List Cond := .code yX5_howManyIn cX5_howManyIn 4 (some .int) :: ([.fieldLink RX5 21 "PromiseWheel$Promises" "given" "I", .methodLink RX5 33 yX5_isIn, .instanceMethod yX5_isIn, .selects RX5 yX5_isIn yX5_isIn, .initialized RX5, .code yX5_isIn cX5_isIn 3 (some .boolean), .methodLink RX5 25 yX5_fact, .instanceMethod yX5_fact, .selects RX5 yX5_fact yX5_fact, .code yX5_fact cX5_fact 3 (some .int), .fieldLink RX5 11 "PromiseWheel$Promises" "facts" "[I"] ++ wsX50)
def wsX1_outcome_r1 : List Cond := [Cond.fieldLink RX1 12 "PromiseWheel$Forecast" "imagined" "LPromiseWheel$Wheel;", Cond.methodLink RX1 43 Lib.Math.max.name, Cond.static Lib.Math.max.name, Cond.initialized "java/lang/Math", Cond.code Lib.Math.max.name Lib.Math.max.code 2 (some .int), Cond.methodLink RX1 18 yX8_copyFrom, Cond.instanceMethod yX8_copyFrom, Cond.selects RX8 yX8_copyFrom yX8_copyFrom, Cond.initialized RX8, Cond.code yX8_copyFrom cX8_copyFrom 2 none, Cond.fieldLink RX8 12 "PromiseWheel$Wheel" "promises" "LPromiseWheel$Promises;", Cond.fieldLink RX8 21 "PromiseWheel$Wheel" "lines" "LPromiseWheel$Lines;", Cond.fieldLink RX8 28 "PromiseWheel$Wheel" "diary" "LPromiseWheel$Diary;", Cond.fieldLink RX8 49 "PromiseWheel$Wheel" "now" "I", Cond.fieldLink RX8 32 "PromiseWheel$Wheel" "room" "I", Cond.fieldLink RX8 36 "PromiseWheel$Wheel" "bound" "I", Cond.fieldLink RX8 52 "PromiseWheel$Wheel" "drift" "I", Cond.fieldLink RX8 55 "PromiseWheel$Wheel" "brokenStanding" "I", Cond.fieldLink RX8 58 "PromiseWheel$Wheel" "lateCalls" "I", Cond.fieldLink RX8 61 "PromiseWheel$Wheel" "falls" "I", Cond.fieldLink RX8 64 "PromiseWheel$Wheel" "swept" "I", Cond.fieldLink RX8 67 "PromiseWheel$Wheel" "passedOver" "I", Cond.fieldLink RX8 70 "PromiseWheel$Wheel" "longestQueue" "I", Cond.methodLink RX8 39 yX5_copyFrom]
def wsX1_outcome_r2 : List Cond := [Cond.instanceMethod yX5_copyFrom, Cond.selects RX5 yX5_copyFrom yX5_copyFrom, Cond.initialized RX5, Cond.code yX5_copyFrom cX5_copyFrom 2 none, Cond.fieldLink RX5 11 "PromiseWheel$Promises" "facts" "[I", Cond.methodLink RX5 15 arraycopyName, Cond.native arraycopyName, Cond.static arraycopyName, Cond.initialized "java/lang/System", Cond.fieldLink RX5 21 "PromiseWheel$Promises" "given" "I", Cond.methodLink RX8 43 yX3_copyFrom, Cond.instanceMethod yX3_copyFrom, Cond.selects RX3 yX3_copyFrom yX3_copyFrom, Cond.initialized RX3, Cond.code yX3_copyFrom cX3_copyFrom 2 none, Cond.fieldLink RX3 9 "PromiseWheel$Lines" "first" "[I", Cond.methodLink RX3 33 arraycopyName, Cond.fieldLink RX3 15 "PromiseWheel$Lines" "last" "[I", Cond.fieldLink RX3 18 "PromiseWheel$Lines" "length" "[I", Cond.fieldLink RX3 21 "PromiseWheel$Lines" "line" "[I", Cond.fieldLink RX3 24 "PromiseWheel$Lines" "behind" "[I", Cond.methodLink RX8 46 yX0_copyFrom, Cond.instanceMethod yX0_copyFrom, Cond.selects RX0 yX0_copyFrom yX0_copyFrom]
def wsX1_outcome_r3 : List Cond := [Cond.initialized RX0, Cond.code yX0_copyFrom cX0_copyFrom 2 none, Cond.fieldLink RX0 11 "PromiseWheel$Diary" "facts" "[I", Cond.methodLink RX0 15 arraycopyName, Cond.fieldLink RX0 21 "PromiseWheel$Diary" "calls" "I", Cond.methodLink RX1 32 yX8_passTick, Cond.instanceMethod yX8_passTick, Cond.selects RX8 yX8_passTick yX8_passTick, Cond.code yX8_passTick cX8_passTick 1 none, Cond.methodLink RX8 139 Lib.Math.max.name, Cond.methodLink RX8 124 yX8_letFall, Cond.instanceMethod yX8_letFall, Cond.selects RX8 yX8_letFall yX8_letFall, Cond.code yX8_letFall cX8_letFall 6 none, Cond.methodLink RX8 144 yX8_presentSlot, Cond.instanceMethod yX8_presentSlot, Cond.selects RX8 yX8_presentSlot yX8_presentSlot, Cond.code yX8_presentSlot cX8_presentSlot 2 (some .int), Cond.methodLink RX8 136 yX3_lengthOf, Cond.instanceMethod yX3_lengthOf, Cond.selects RX3 yX3_lengthOf yX3_lengthOf, Cond.code yX3_lengthOf cX3_lengthOf 2 (some .int), Cond.methodLink RX8 147 yX3_frontOf, Cond.instanceMethod yX3_frontOf]
def wsX1_outcome_r4 : List Cond := [Cond.selects RX3 yX3_frontOf yX3_frontOf, Cond.code yX3_frontOf cX3_frontOf 2 (some .int), Cond.methodLink RX8 108 yX3_leave, Cond.instanceMethod yX3_leave, Cond.selects RX3 yX3_leave yX3_leave, Cond.code yX3_leave cX3_leave 6 none, Cond.methodLink RX3 49 yX3_lineOf, Cond.instanceMethod yX3_lineOf, Cond.selects RX3 yX3_lineOf yX3_lineOf, Cond.code yX3_lineOf cX3_lineOf 2 (some .int), Cond.methodLink RX3 46 yX3_follower, Cond.instanceMethod yX3_follower, Cond.selects RX3 yX3_follower yX3_follower, Cond.code yX3_follower cX3_follower 2 (some .int), Cond.methodLink RX8 100 yX5_isIn, Cond.instanceMethod yX5_isIn, Cond.selects RX5 yX5_isIn yX5_isIn, Cond.code yX5_isIn cX5_isIn 3 (some .boolean), Cond.methodLink RX5 25 yX5_fact, Cond.instanceMethod yX5_fact, Cond.selects RX5 yX5_fact yX5_fact, Cond.code yX5_fact cX5_fact 3 (some .int), Cond.methodLink RX8 118 yX8_noteSwept, Cond.instanceMethod yX8_noteSwept]
def wsX1_outcome_r5 : List Cond := [Cond.selects RX8 yX8_noteSwept yX8_noteSwept, Cond.code yX8_noteSwept cX8_noteSwept 2 none, Cond.methodLink RX8 96 yX5_write, Cond.instanceMethod yX5_write, Cond.selects RX5 yX5_write yX5_write, Cond.code yX5_write cX5_write 4 none, Cond.methodLink RX8 104 yX5_fact, Cond.methodLink RX8 81 yX8_lineFor, Cond.instanceMethod yX8_lineFor, Cond.selects RX8 yX8_lineFor yX8_lineFor, Cond.code yX8_lineFor cX8_lineFor 3 (some .int), Cond.methodLink RX8 85 yX3_join, Cond.instanceMethod yX3_join, Cond.selects RX3 yX3_join yX3_join, Cond.code yX3_join cX3_join 4 none, Cond.methodLink RX8 127 yX8_letArrive, Cond.instanceMethod yX8_letArrive, Cond.selects RX8 yX8_letArrive yX8_letArrive, Cond.code yX8_letArrive cX8_letArrive 5 none, Cond.methodLink RX8 130 yX8_serveQueue, Cond.instanceMethod yX8_serveQueue, Cond.selects RX8 yX8_serveQueue yX8_serveQueue, Cond.code yX8_serveQueue cX8_serveQueue 5 none, Cond.methodLink RX8 150 yX8_callPromise]
def wsX1_outcome_r6 : List Cond := [Cond.instanceMethod yX8_callPromise, Cond.selects RX8 yX8_callPromise yX8_callPromise, Cond.code yX8_callPromise cX8_callPromise 6 none, Cond.methodLink RX8 153 yX0_write, Cond.instanceMethod yX0_write, Cond.selects RX0 yX0_write yX0_write, Cond.code yX0_write cX0_write 5 none, Cond.methodLink RX0 25 yJ9_floorMod_7cf53, Cond.static yJ9_floorMod_7cf53, Cond.initialized RJ9, Cond.code yJ9_floorMod_7cf53 cJ9_floorMod_7cf53 3 (some .int), Cond.methodLink RX8 154 yX8_dueOfRepetition, Cond.instanceMethod yX8_dueOfRepetition, Cond.selects RX8 yX8_dueOfRepetition yX8_dueOfRepetition, Cond.code yX8_dueOfRepetition cX8_dueOfRepetition 4 (some .int), Cond.methodLink RX8 133 yX8_sweepAll, Cond.instanceMethod yX8_sweepAll, Cond.selects RX8 yX8_sweepAll yX8_sweepAll, Cond.code yX8_sweepAll cX8_sweepAll 3 (some .int), Cond.methodLink RX8 73 yX5_given, Cond.instanceMethod yX5_given, Cond.selects RX5 yX5_given yX5_given, Cond.code yX5_given cX5_given 1 (some .int), Cond.methodLink RX1 39 yX5_howManyIn]
def wsX1_outcome_r7 : List Cond := [Cond.instanceMethod yX5_howManyIn, Cond.selects RX5 yX5_howManyIn yX5_howManyIn, Cond.code yX5_howManyIn cX5_howManyIn 4 (some .int), Cond.methodLink RX5 33 yX5_isIn, Cond.methodLink RX1 52 yX0_calls, Cond.instanceMethod yX0_calls, Cond.selects RX0 yX0_calls yX0_calls, Cond.code yX0_calls cX0_calls 1 (some .int)]
def wsX1_outcome : List Cond := .code yX1_outcome cX1_outcome 6 (some .int) :: ((wsX1_outcome_r1 ++ (wsX1_outcome_r2 ++ (wsX1_outcome_r3 ++ (wsX1_outcome_r4 ++ (wsX1_outcome_r5 ++ (wsX1_outcome_r6 ++ wsX1_outcome_r7)))))) ++ wsX10 ++ wsX80 ++ wsX50 ++ wsX30 ++ wsX00)
def wsX1_isTimely_r1 : List Cond := [Cond.fieldLink RX1 12 "PromiseWheel$Forecast" "imagined" "LPromiseWheel$Wheel;", Cond.methodLink RX1 32 yX8_passTick, Cond.instanceMethod yX8_passTick, Cond.selects RX8 yX8_passTick yX8_passTick, Cond.initialized RX8, Cond.code yX8_passTick cX8_passTick 1 none, Cond.fieldLink RX8 49 "PromiseWheel$Wheel" "now" "I", Cond.fieldLink RX8 55 "PromiseWheel$Wheel" "brokenStanding" "I", Cond.fieldLink RX8 36 "PromiseWheel$Wheel" "bound" "I", Cond.fieldLink RX8 70 "PromiseWheel$Wheel" "longestQueue" "I", Cond.fieldLink RX8 21 "PromiseWheel$Wheel" "lines" "LPromiseWheel$Lines;", Cond.methodLink RX8 139 Lib.Math.max.name, Cond.static Lib.Math.max.name, Cond.initialized "java/lang/Math", Cond.code Lib.Math.max.name Lib.Math.max.code 2 (some .int), Cond.methodLink RX8 124 yX8_letFall, Cond.instanceMethod yX8_letFall, Cond.selects RX8 yX8_letFall yX8_letFall, Cond.code yX8_letFall cX8_letFall 6 none, Cond.fieldLink RX8 12 "PromiseWheel$Wheel" "promises" "LPromiseWheel$Promises;", Cond.fieldLink RX8 61 "PromiseWheel$Wheel" "falls" "I", Cond.methodLink RX8 144 yX8_presentSlot, Cond.instanceMethod yX8_presentSlot, Cond.selects RX8 yX8_presentSlot yX8_presentSlot]
def wsX1_isTimely_r2 : List Cond := [Cond.code yX8_presentSlot cX8_presentSlot 2 (some .int), Cond.methodLink RX8 136 yX3_lengthOf, Cond.instanceMethod yX3_lengthOf, Cond.selects RX3 yX3_lengthOf yX3_lengthOf, Cond.initialized RX3, Cond.code yX3_lengthOf cX3_lengthOf 2 (some .int), Cond.fieldLink RX3 18 "PromiseWheel$Lines" "length" "[I", Cond.methodLink RX8 147 yX3_frontOf, Cond.instanceMethod yX3_frontOf, Cond.selects RX3 yX3_frontOf yX3_frontOf, Cond.code yX3_frontOf cX3_frontOf 2 (some .int), Cond.fieldLink RX3 9 "PromiseWheel$Lines" "first" "[I", Cond.methodLink RX8 108 yX3_leave, Cond.instanceMethod yX3_leave, Cond.selects RX3 yX3_leave yX3_leave, Cond.code yX3_leave cX3_leave 6 none, Cond.fieldLink RX3 24 "PromiseWheel$Lines" "behind" "[I", Cond.fieldLink RX3 15 "PromiseWheel$Lines" "last" "[I", Cond.fieldLink RX3 21 "PromiseWheel$Lines" "line" "[I", Cond.methodLink RX3 49 yX3_lineOf, Cond.instanceMethod yX3_lineOf, Cond.selects RX3 yX3_lineOf yX3_lineOf, Cond.code yX3_lineOf cX3_lineOf 2 (some .int), Cond.methodLink RX3 46 yX3_follower]
def wsX1_isTimely_r3 : List Cond := [Cond.instanceMethod yX3_follower, Cond.selects RX3 yX3_follower yX3_follower, Cond.code yX3_follower cX3_follower 2 (some .int), Cond.methodLink RX8 100 yX5_isIn, Cond.instanceMethod yX5_isIn, Cond.selects RX5 yX5_isIn yX5_isIn, Cond.initialized RX5, Cond.code yX5_isIn cX5_isIn 3 (some .boolean), Cond.methodLink RX5 25 yX5_fact, Cond.instanceMethod yX5_fact, Cond.selects RX5 yX5_fact yX5_fact, Cond.code yX5_fact cX5_fact 3 (some .int), Cond.fieldLink RX5 11 "PromiseWheel$Promises" "facts" "[I", Cond.methodLink RX8 118 yX8_noteSwept, Cond.instanceMethod yX8_noteSwept, Cond.selects RX8 yX8_noteSwept yX8_noteSwept, Cond.code yX8_noteSwept cX8_noteSwept 2 none, Cond.fieldLink RX8 64 "PromiseWheel$Wheel" "swept" "I", Cond.methodLink RX8 96 yX5_write, Cond.instanceMethod yX5_write, Cond.selects RX5 yX5_write yX5_write, Cond.code yX5_write cX5_write 4 none, Cond.methodLink RX8 104 yX5_fact, Cond.methodLink RX8 81 yX8_lineFor]
def wsX1_isTimely_r4 : List Cond := [Cond.instanceMethod yX8_lineFor, Cond.selects RX8 yX8_lineFor yX8_lineFor, Cond.code yX8_lineFor cX8_lineFor 3 (some .int), Cond.methodLink RX8 85 yX3_join, Cond.instanceMethod yX3_join, Cond.selects RX3 yX3_join yX3_join, Cond.code yX3_join cX3_join 4 none, Cond.methodLink RX8 127 yX8_letArrive, Cond.instanceMethod yX8_letArrive, Cond.selects RX8 yX8_letArrive yX8_letArrive, Cond.code yX8_letArrive cX8_letArrive 5 none, Cond.methodLink RX8 130 yX8_serveQueue, Cond.instanceMethod yX8_serveQueue, Cond.selects RX8 yX8_serveQueue yX8_serveQueue, Cond.code yX8_serveQueue cX8_serveQueue 5 none, Cond.fieldLink RX8 32 "PromiseWheel$Wheel" "room" "I", Cond.methodLink RX8 150 yX8_callPromise, Cond.instanceMethod yX8_callPromise, Cond.selects RX8 yX8_callPromise yX8_callPromise, Cond.code yX8_callPromise cX8_callPromise 6 none, Cond.fieldLink RX8 58 "PromiseWheel$Wheel" "lateCalls" "I", Cond.fieldLink RX8 28 "PromiseWheel$Wheel" "diary" "LPromiseWheel$Diary;", Cond.methodLink RX8 153 yX0_write, Cond.instanceMethod yX0_write]
def wsX1_isTimely_r5 : List Cond := [Cond.selects RX0 yX0_write yX0_write, Cond.initialized RX0, Cond.code yX0_write cX0_write 5 none, Cond.fieldLink RX0 21 "PromiseWheel$Diary" "calls" "I", Cond.fieldLink RX0 11 "PromiseWheel$Diary" "facts" "[I", Cond.methodLink RX0 25 yJ9_floorMod_7cf53, Cond.static yJ9_floorMod_7cf53, Cond.initialized RJ9, Cond.code yJ9_floorMod_7cf53 cJ9_floorMod_7cf53 3 (some .int), Cond.methodLink RX8 154 yX8_dueOfRepetition, Cond.instanceMethod yX8_dueOfRepetition, Cond.selects RX8 yX8_dueOfRepetition yX8_dueOfRepetition, Cond.code yX8_dueOfRepetition cX8_dueOfRepetition 4 (some .int), Cond.fieldLink RX8 52 "PromiseWheel$Wheel" "drift" "I", Cond.fieldLink RX8 67 "PromiseWheel$Wheel" "passedOver" "I", Cond.methodLink RX8 133 yX8_sweepAll, Cond.instanceMethod yX8_sweepAll, Cond.selects RX8 yX8_sweepAll yX8_sweepAll, Cond.code yX8_sweepAll cX8_sweepAll 3 (some .int), Cond.methodLink RX8 73 yX5_given, Cond.instanceMethod yX5_given, Cond.selects RX5 yX5_given yX5_given, Cond.code yX5_given cX5_given 1 (some .int), Cond.fieldLink RX5 21 "PromiseWheel$Promises" "given" "I"]
def wsX1_isTimely : List Cond := .code yX1_isTimely cX1_isTimely 4 (some .boolean) :: ((wsX1_isTimely_r1 ++ (wsX1_isTimely_r2 ++ (wsX1_isTimely_r3 ++ (wsX1_isTimely_r4 ++ wsX1_isTimely_r5)))) ++ wsX10 ++ wsX80 ++ wsX30 ++ wsX50 ++ wsX00)
def wsX1_leastTimelyRoom_r1 : List Cond := [Cond.fieldLink RX1 12 "PromiseWheel$Forecast" "imagined" "LPromiseWheel$Wheel;", Cond.methodLink RX1 18 yX8_copyFrom, Cond.instanceMethod yX8_copyFrom, Cond.selects RX8 yX8_copyFrom yX8_copyFrom, Cond.initialized RX8, Cond.code yX8_copyFrom cX8_copyFrom 2 none, Cond.fieldLink RX8 12 "PromiseWheel$Wheel" "promises" "LPromiseWheel$Promises;", Cond.fieldLink RX8 21 "PromiseWheel$Wheel" "lines" "LPromiseWheel$Lines;", Cond.fieldLink RX8 28 "PromiseWheel$Wheel" "diary" "LPromiseWheel$Diary;", Cond.fieldLink RX8 49 "PromiseWheel$Wheel" "now" "I", Cond.fieldLink RX8 32 "PromiseWheel$Wheel" "room" "I", Cond.fieldLink RX8 36 "PromiseWheel$Wheel" "bound" "I", Cond.fieldLink RX8 52 "PromiseWheel$Wheel" "drift" "I", Cond.fieldLink RX8 55 "PromiseWheel$Wheel" "brokenStanding" "I", Cond.fieldLink RX8 58 "PromiseWheel$Wheel" "lateCalls" "I", Cond.fieldLink RX8 61 "PromiseWheel$Wheel" "falls" "I", Cond.fieldLink RX8 64 "PromiseWheel$Wheel" "swept" "I", Cond.fieldLink RX8 67 "PromiseWheel$Wheel" "passedOver" "I", Cond.fieldLink RX8 70 "PromiseWheel$Wheel" "longestQueue" "I", Cond.methodLink RX8 39 yX5_copyFrom, Cond.instanceMethod yX5_copyFrom, Cond.selects RX5 yX5_copyFrom yX5_copyFrom, Cond.initialized RX5, Cond.code yX5_copyFrom cX5_copyFrom 2 none]
def wsX1_leastTimelyRoom_r2 : List Cond := [Cond.fieldLink RX5 11 "PromiseWheel$Promises" "facts" "[I", Cond.methodLink RX5 15 arraycopyName, Cond.native arraycopyName, Cond.static arraycopyName, Cond.initialized "java/lang/System", Cond.fieldLink RX5 21 "PromiseWheel$Promises" "given" "I", Cond.methodLink RX8 43 yX3_copyFrom, Cond.instanceMethod yX3_copyFrom, Cond.selects RX3 yX3_copyFrom yX3_copyFrom, Cond.initialized RX3, Cond.code yX3_copyFrom cX3_copyFrom 2 none, Cond.fieldLink RX3 9 "PromiseWheel$Lines" "first" "[I", Cond.methodLink RX3 33 arraycopyName, Cond.fieldLink RX3 15 "PromiseWheel$Lines" "last" "[I", Cond.fieldLink RX3 18 "PromiseWheel$Lines" "length" "[I", Cond.fieldLink RX3 21 "PromiseWheel$Lines" "line" "[I", Cond.fieldLink RX3 24 "PromiseWheel$Lines" "behind" "[I", Cond.methodLink RX8 46 yX0_copyFrom, Cond.instanceMethod yX0_copyFrom, Cond.selects RX0 yX0_copyFrom yX0_copyFrom, Cond.initialized RX0, Cond.code yX0_copyFrom cX0_copyFrom 2 none, Cond.fieldLink RX0 11 "PromiseWheel$Diary" "facts" "[I", Cond.methodLink RX0 15 arraycopyName]
def wsX1_leastTimelyRoom_r3 : List Cond := [Cond.fieldLink RX0 21 "PromiseWheel$Diary" "calls" "I", Cond.methodLink RX1 64 yX1_isTimely, Cond.instanceMethod yX1_isTimely, Cond.selects RX1 yX1_isTimely yX1_isTimely, Cond.initialized RX1, Cond.code yX1_isTimely cX1_isTimely 4 (some .boolean), Cond.methodLink RX1 32 yX8_passTick, Cond.instanceMethod yX8_passTick, Cond.selects RX8 yX8_passTick yX8_passTick, Cond.code yX8_passTick cX8_passTick 1 none, Cond.methodLink RX8 139 Lib.Math.max.name, Cond.static Lib.Math.max.name, Cond.initialized "java/lang/Math", Cond.code Lib.Math.max.name Lib.Math.max.code 2 (some .int), Cond.methodLink RX8 124 yX8_letFall, Cond.instanceMethod yX8_letFall, Cond.selects RX8 yX8_letFall yX8_letFall, Cond.code yX8_letFall cX8_letFall 6 none, Cond.methodLink RX8 144 yX8_presentSlot, Cond.instanceMethod yX8_presentSlot, Cond.selects RX8 yX8_presentSlot yX8_presentSlot, Cond.code yX8_presentSlot cX8_presentSlot 2 (some .int), Cond.methodLink RX8 136 yX3_lengthOf, Cond.instanceMethod yX3_lengthOf]
def wsX1_leastTimelyRoom_r4 : List Cond := [Cond.selects RX3 yX3_lengthOf yX3_lengthOf, Cond.code yX3_lengthOf cX3_lengthOf 2 (some .int), Cond.methodLink RX8 147 yX3_frontOf, Cond.instanceMethod yX3_frontOf, Cond.selects RX3 yX3_frontOf yX3_frontOf, Cond.code yX3_frontOf cX3_frontOf 2 (some .int), Cond.methodLink RX8 108 yX3_leave, Cond.instanceMethod yX3_leave, Cond.selects RX3 yX3_leave yX3_leave, Cond.code yX3_leave cX3_leave 6 none, Cond.methodLink RX3 49 yX3_lineOf, Cond.instanceMethod yX3_lineOf, Cond.selects RX3 yX3_lineOf yX3_lineOf, Cond.code yX3_lineOf cX3_lineOf 2 (some .int), Cond.methodLink RX3 46 yX3_follower, Cond.instanceMethod yX3_follower, Cond.selects RX3 yX3_follower yX3_follower, Cond.code yX3_follower cX3_follower 2 (some .int), Cond.methodLink RX8 100 yX5_isIn, Cond.instanceMethod yX5_isIn, Cond.selects RX5 yX5_isIn yX5_isIn, Cond.code yX5_isIn cX5_isIn 3 (some .boolean), Cond.methodLink RX5 25 yX5_fact, Cond.instanceMethod yX5_fact]
def wsX1_leastTimelyRoom_r5 : List Cond := [Cond.selects RX5 yX5_fact yX5_fact, Cond.code yX5_fact cX5_fact 3 (some .int), Cond.methodLink RX8 118 yX8_noteSwept, Cond.instanceMethod yX8_noteSwept, Cond.selects RX8 yX8_noteSwept yX8_noteSwept, Cond.code yX8_noteSwept cX8_noteSwept 2 none, Cond.methodLink RX8 96 yX5_write, Cond.instanceMethod yX5_write, Cond.selects RX5 yX5_write yX5_write, Cond.code yX5_write cX5_write 4 none, Cond.methodLink RX8 104 yX5_fact, Cond.methodLink RX8 81 yX8_lineFor, Cond.instanceMethod yX8_lineFor, Cond.selects RX8 yX8_lineFor yX8_lineFor, Cond.code yX8_lineFor cX8_lineFor 3 (some .int), Cond.methodLink RX8 85 yX3_join, Cond.instanceMethod yX3_join, Cond.selects RX3 yX3_join yX3_join, Cond.code yX3_join cX3_join 4 none, Cond.methodLink RX8 127 yX8_letArrive, Cond.instanceMethod yX8_letArrive, Cond.selects RX8 yX8_letArrive yX8_letArrive, Cond.code yX8_letArrive cX8_letArrive 5 none, Cond.methodLink RX8 130 yX8_serveQueue]
def wsX1_leastTimelyRoom_r6 : List Cond := [Cond.instanceMethod yX8_serveQueue, Cond.selects RX8 yX8_serveQueue yX8_serveQueue, Cond.code yX8_serveQueue cX8_serveQueue 5 none, Cond.methodLink RX8 150 yX8_callPromise, Cond.instanceMethod yX8_callPromise, Cond.selects RX8 yX8_callPromise yX8_callPromise, Cond.code yX8_callPromise cX8_callPromise 6 none, Cond.methodLink RX8 153 yX0_write, Cond.instanceMethod yX0_write, Cond.selects RX0 yX0_write yX0_write, Cond.code yX0_write cX0_write 5 none, Cond.methodLink RX0 25 yJ9_floorMod_7cf53, Cond.static yJ9_floorMod_7cf53, Cond.initialized RJ9, Cond.code yJ9_floorMod_7cf53 cJ9_floorMod_7cf53 3 (some .int), Cond.methodLink RX8 154 yX8_dueOfRepetition, Cond.instanceMethod yX8_dueOfRepetition, Cond.selects RX8 yX8_dueOfRepetition yX8_dueOfRepetition, Cond.code yX8_dueOfRepetition cX8_dueOfRepetition 4 (some .int), Cond.methodLink RX8 133 yX8_sweepAll, Cond.instanceMethod yX8_sweepAll, Cond.selects RX8 yX8_sweepAll yX8_sweepAll, Cond.code yX8_sweepAll cX8_sweepAll 3 (some .int), Cond.methodLink RX8 73 yX5_given]
def wsX1_leastTimelyRoom_r7 : List Cond := [Cond.instanceMethod yX5_given, Cond.selects RX5 yX5_given yX5_given, Cond.code yX5_given cX5_given 1 (some .int)]
def wsX1_leastTimelyRoom : List Cond := .code yX1_leastTimelyRoom cX1_leastTimelyRoom 4 (some .int) :: ((wsX1_leastTimelyRoom_r1 ++ (wsX1_leastTimelyRoom_r2 ++ (wsX1_leastTimelyRoom_r3 ++ (wsX1_leastTimelyRoom_r4 ++ (wsX1_leastTimelyRoom_r5 ++ (wsX1_leastTimelyRoom_r6 ++ wsX1_leastTimelyRoom_r7)))))) ++ wsX10 ++ wsX80 ++ wsX50 ++ wsX30 ++ wsX00)
def wsX6_init_r1 : List Cond := [Cond.methodLink RX6 3 objectInit, Cond.instanceMethod objectInit, Cond.code objectInit ⟨#[0xb1]⟩ 1 none, Cond.classLink RX6 9 RX8, Cond.instantiable RX8 13, Cond.initialized RX8, Cond.fieldLink RX6 12 "PromiseWheel$State" "wheel" "LPromiseWheel$Wheel;", Cond.fieldLink RX6 18 "PromiseWheel$State" "snapshots" "[LPromiseWheel$Wheel;", Cond.arrayClass .boolean, Cond.fieldLink RX6 22 "PromiseWheel$State" "taken" "[Z", Cond.instanceMethod yX8_init, Cond.code yX8_init cX8_init 1 none, Cond.methodLink RX8 3 objectInit, Cond.classLink RX8 9 RX5, Cond.instantiable RX5 2, Cond.initialized RX5, Cond.fieldLink RX8 12 "PromiseWheel$Wheel" "promises" "LPromiseWheel$Promises;", Cond.classLink RX8 18 RX3, Cond.instantiable RX3 5, Cond.initialized RX3, Cond.fieldLink RX8 21 "PromiseWheel$Wheel" "lines" "LPromiseWheel$Lines;", Cond.classLink RX8 25 RX0, Cond.instantiable RX0 2, Cond.initialized RX0]
def wsX6_init_r2 : List Cond := [Cond.fieldLink RX8 28 "PromiseWheel$Wheel" "diary" "LPromiseWheel$Diary;", Cond.fieldLink RX8 32 "PromiseWheel$Wheel" "room" "I", Cond.fieldLink RX8 36 "PromiseWheel$Wheel" "bound" "I", Cond.instanceMethod yX5_init, Cond.code yX5_init cX5_init 1 none, Cond.methodLink RX5 3 objectInit, Cond.arrayClass .int, Cond.fieldLink RX5 11 "PromiseWheel$Promises" "facts" "[I", Cond.methodLink RX8 20 yX3_init, Cond.instanceMethod yX3_init, Cond.code yX3_init cX3_init 1 none, Cond.methodLink RX3 3 objectInit, Cond.fieldLink RX3 9 "PromiseWheel$Lines" "first" "[I", Cond.fieldLink RX3 15 "PromiseWheel$Lines" "last" "[I", Cond.fieldLink RX3 18 "PromiseWheel$Lines" "length" "[I", Cond.fieldLink RX3 21 "PromiseWheel$Lines" "line" "[I", Cond.fieldLink RX3 24 "PromiseWheel$Lines" "behind" "[I", Cond.methodLink RX3 27 yJ7_fill_53178, Cond.static yJ7_fill_53178, Cond.initialized RJ7, Cond.code yJ7_fill_53178 cJ7_fill_53178 4 none, Cond.instanceMethod yX0_init, Cond.code yX0_init cX0_init 1 none, Cond.methodLink RX0 3 objectInit]
def wsX6_init_r3 : List Cond := [Cond.fieldLink RX0 11 "PromiseWheel$Diary" "facts" "[I"]
def wsX6_init : List Cond := .code yX6_init cX6_init 2 none :: ((wsX6_init_r1 ++ (wsX6_init_r2 ++ wsX6_init_r3)) ++ wsX80 ++ wsX60 ++ wsX50 ++ wsX30 ++ wsX00)
def wsX2_init_r1 : List Cond := [Cond.methodLink RX2 5 objectInit, Cond.instanceMethod objectInit, Cond.code objectInit ⟨#[0xb1]⟩ 1 none, Cond.classLink RX2 11 RX6, Cond.fieldLink RX2 13 "PromiseWheel$History" "rows" "[LPromiseWheel$State;", Cond.instantiable RX6 3, Cond.initialized RX6, Cond.methodLink RX2 17 yX6_init, Cond.instanceMethod yX6_init, Cond.code yX6_init cX6_init 2 none, Cond.methodLink RX6 3 objectInit, Cond.classLink RX6 9 RX8, Cond.instantiable RX8 13, Cond.initialized RX8, Cond.fieldLink RX6 12 "PromiseWheel$State" "wheel" "LPromiseWheel$Wheel;", Cond.fieldLink RX6 18 "PromiseWheel$State" "snapshots" "[LPromiseWheel$Wheel;", Cond.arrayClass .boolean, Cond.fieldLink RX6 22 "PromiseWheel$State" "taken" "[Z", Cond.instanceMethod yX8_init, Cond.code yX8_init cX8_init 1 none, Cond.methodLink RX8 3 objectInit, Cond.classLink RX8 9 RX5, Cond.instantiable RX5 2, Cond.initialized RX5]
def wsX2_init_r2 : List Cond := [Cond.fieldLink RX8 12 "PromiseWheel$Wheel" "promises" "LPromiseWheel$Promises;", Cond.classLink RX8 18 RX3, Cond.instantiable RX3 5, Cond.initialized RX3, Cond.fieldLink RX8 21 "PromiseWheel$Wheel" "lines" "LPromiseWheel$Lines;", Cond.classLink RX8 25 RX0, Cond.instantiable RX0 2, Cond.initialized RX0, Cond.fieldLink RX8 28 "PromiseWheel$Wheel" "diary" "LPromiseWheel$Diary;", Cond.fieldLink RX8 32 "PromiseWheel$Wheel" "room" "I", Cond.fieldLink RX8 36 "PromiseWheel$Wheel" "bound" "I", Cond.instanceMethod yX5_init, Cond.code yX5_init cX5_init 1 none, Cond.methodLink RX5 3 objectInit, Cond.arrayClass .int, Cond.fieldLink RX5 11 "PromiseWheel$Promises" "facts" "[I", Cond.methodLink RX8 20 yX3_init, Cond.instanceMethod yX3_init, Cond.code yX3_init cX3_init 1 none, Cond.methodLink RX3 3 objectInit, Cond.fieldLink RX3 9 "PromiseWheel$Lines" "first" "[I", Cond.fieldLink RX3 15 "PromiseWheel$Lines" "last" "[I", Cond.fieldLink RX3 18 "PromiseWheel$Lines" "length" "[I", Cond.fieldLink RX3 21 "PromiseWheel$Lines" "line" "[I"]
def wsX2_init_r3 : List Cond := [Cond.fieldLink RX3 24 "PromiseWheel$Lines" "behind" "[I", Cond.methodLink RX3 27 yJ7_fill_53178, Cond.static yJ7_fill_53178, Cond.initialized RJ7, Cond.code yJ7_fill_53178 cJ7_fill_53178 4 none, Cond.instanceMethod yX0_init, Cond.code yX0_init cX0_init 1 none, Cond.methodLink RX0 3 objectInit, Cond.fieldLink RX0 11 "PromiseWheel$Diary" "facts" "[I"]
def wsX2_init : List Cond := .code yX2_init cX2_init 2 none :: ((wsX2_init_r1 ++ (wsX2_init_r2 ++ wsX2_init_r3)) ++ wsX20 ++ wsX60 ++ wsX80 ++ wsX50 ++ wsX30 ++ wsX00)
def wsX2_size : List Cond := .code yX2_size cX2_size 1 (some .int) :: ([.fieldLink RX2 18 "PromiseWheel$History" "states" "I"] ++ wsX20)
def wsX2_rowAt : List Cond := .code yX2_rowAt cX2_rowAt 2 (some (.object "PromiseWheel$State")) :: ([.fieldLink RX2 13 "PromiseWheel$History" "rows" "[LPromiseWheel$State;"] ++ wsX20)
def wsX6_copyFrom_r1 : List Cond := [Cond.fieldLink RX6 12 "PromiseWheel$State" "wheel" "LPromiseWheel$Wheel;", Cond.fieldLink RX6 22 "PromiseWheel$State" "taken" "[Z", Cond.fieldLink RX6 18 "PromiseWheel$State" "snapshots" "[LPromiseWheel$Wheel;", Cond.methodLink RX6 26 yX8_copyFrom, Cond.instanceMethod yX8_copyFrom, Cond.selects RX8 yX8_copyFrom yX8_copyFrom, Cond.initialized RX8, Cond.code yX8_copyFrom cX8_copyFrom 2 none, Cond.fieldLink RX8 12 "PromiseWheel$Wheel" "promises" "LPromiseWheel$Promises;", Cond.fieldLink RX8 21 "PromiseWheel$Wheel" "lines" "LPromiseWheel$Lines;", Cond.fieldLink RX8 28 "PromiseWheel$Wheel" "diary" "LPromiseWheel$Diary;", Cond.fieldLink RX8 49 "PromiseWheel$Wheel" "now" "I", Cond.fieldLink RX8 32 "PromiseWheel$Wheel" "room" "I", Cond.fieldLink RX8 36 "PromiseWheel$Wheel" "bound" "I", Cond.fieldLink RX8 52 "PromiseWheel$Wheel" "drift" "I", Cond.fieldLink RX8 55 "PromiseWheel$Wheel" "brokenStanding" "I", Cond.fieldLink RX8 58 "PromiseWheel$Wheel" "lateCalls" "I", Cond.fieldLink RX8 61 "PromiseWheel$Wheel" "falls" "I", Cond.fieldLink RX8 64 "PromiseWheel$Wheel" "swept" "I", Cond.fieldLink RX8 67 "PromiseWheel$Wheel" "passedOver" "I", Cond.fieldLink RX8 70 "PromiseWheel$Wheel" "longestQueue" "I", Cond.methodLink RX8 39 yX5_copyFrom, Cond.instanceMethod yX5_copyFrom, Cond.selects RX5 yX5_copyFrom yX5_copyFrom]
def wsX6_copyFrom_r2 : List Cond := [Cond.initialized RX5, Cond.code yX5_copyFrom cX5_copyFrom 2 none, Cond.fieldLink RX5 11 "PromiseWheel$Promises" "facts" "[I", Cond.methodLink RX5 15 arraycopyName, Cond.native arraycopyName, Cond.static arraycopyName, Cond.initialized "java/lang/System", Cond.fieldLink RX5 21 "PromiseWheel$Promises" "given" "I", Cond.methodLink RX8 43 yX3_copyFrom, Cond.instanceMethod yX3_copyFrom, Cond.selects RX3 yX3_copyFrom yX3_copyFrom, Cond.initialized RX3, Cond.code yX3_copyFrom cX3_copyFrom 2 none, Cond.fieldLink RX3 9 "PromiseWheel$Lines" "first" "[I", Cond.methodLink RX3 33 arraycopyName, Cond.fieldLink RX3 15 "PromiseWheel$Lines" "last" "[I", Cond.fieldLink RX3 18 "PromiseWheel$Lines" "length" "[I", Cond.fieldLink RX3 21 "PromiseWheel$Lines" "line" "[I", Cond.fieldLink RX3 24 "PromiseWheel$Lines" "behind" "[I", Cond.methodLink RX8 46 yX0_copyFrom, Cond.instanceMethod yX0_copyFrom, Cond.selects RX0 yX0_copyFrom yX0_copyFrom, Cond.initialized RX0, Cond.code yX0_copyFrom cX0_copyFrom 2 none]
def wsX6_copyFrom_r3 : List Cond := [Cond.fieldLink RX0 11 "PromiseWheel$Diary" "facts" "[I", Cond.methodLink RX0 15 arraycopyName, Cond.fieldLink RX0 21 "PromiseWheel$Diary" "calls" "I"]
def wsX6_copyFrom : List Cond := .code yX6_copyFrom cX6_copyFrom 5 none :: ((wsX6_copyFrom_r1 ++ (wsX6_copyFrom_r2 ++ wsX6_copyFrom_r3)) ++ wsX60 ++ wsX80 ++ wsX50 ++ wsX30 ++ wsX00)
def wsX2_note_r1 : List Cond := [Cond.fieldLink RX2 22 "PromiseWheel$History" "noted" "I", Cond.methodLink RX2 25 yX2_rowAt, Cond.instanceMethod yX2_rowAt, Cond.selects RX2 yX2_rowAt yX2_rowAt, Cond.initialized RX2, Cond.code yX2_rowAt cX2_rowAt 2 (some (.object "PromiseWheel$State")), Cond.fieldLink RX2 13 "PromiseWheel$History" "rows" "[LPromiseWheel$State;", Cond.methodLink RX2 29 yX6_copyFrom, Cond.instanceMethod yX6_copyFrom, Cond.selects RX6 yX6_copyFrom yX6_copyFrom, Cond.initialized RX6, Cond.code yX6_copyFrom cX6_copyFrom 5 none, Cond.fieldLink RX6 12 "PromiseWheel$State" "wheel" "LPromiseWheel$Wheel;", Cond.fieldLink RX6 22 "PromiseWheel$State" "taken" "[Z", Cond.fieldLink RX6 18 "PromiseWheel$State" "snapshots" "[LPromiseWheel$Wheel;", Cond.methodLink RX6 26 yX8_copyFrom, Cond.instanceMethod yX8_copyFrom, Cond.selects RX8 yX8_copyFrom yX8_copyFrom, Cond.initialized RX8, Cond.code yX8_copyFrom cX8_copyFrom 2 none, Cond.fieldLink RX8 12 "PromiseWheel$Wheel" "promises" "LPromiseWheel$Promises;", Cond.fieldLink RX8 21 "PromiseWheel$Wheel" "lines" "LPromiseWheel$Lines;", Cond.fieldLink RX8 28 "PromiseWheel$Wheel" "diary" "LPromiseWheel$Diary;", Cond.fieldLink RX8 49 "PromiseWheel$Wheel" "now" "I"]
def wsX2_note_r2 : List Cond := [Cond.fieldLink RX8 32 "PromiseWheel$Wheel" "room" "I", Cond.fieldLink RX8 36 "PromiseWheel$Wheel" "bound" "I", Cond.fieldLink RX8 52 "PromiseWheel$Wheel" "drift" "I", Cond.fieldLink RX8 55 "PromiseWheel$Wheel" "brokenStanding" "I", Cond.fieldLink RX8 58 "PromiseWheel$Wheel" "lateCalls" "I", Cond.fieldLink RX8 61 "PromiseWheel$Wheel" "falls" "I", Cond.fieldLink RX8 64 "PromiseWheel$Wheel" "swept" "I", Cond.fieldLink RX8 67 "PromiseWheel$Wheel" "passedOver" "I", Cond.fieldLink RX8 70 "PromiseWheel$Wheel" "longestQueue" "I", Cond.methodLink RX8 39 yX5_copyFrom, Cond.instanceMethod yX5_copyFrom, Cond.selects RX5 yX5_copyFrom yX5_copyFrom, Cond.initialized RX5, Cond.code yX5_copyFrom cX5_copyFrom 2 none, Cond.fieldLink RX5 11 "PromiseWheel$Promises" "facts" "[I", Cond.methodLink RX5 15 arraycopyName, Cond.native arraycopyName, Cond.static arraycopyName, Cond.initialized "java/lang/System", Cond.fieldLink RX5 21 "PromiseWheel$Promises" "given" "I", Cond.methodLink RX8 43 yX3_copyFrom, Cond.instanceMethod yX3_copyFrom, Cond.selects RX3 yX3_copyFrom yX3_copyFrom, Cond.initialized RX3]
def wsX2_note_r3 : List Cond := [Cond.code yX3_copyFrom cX3_copyFrom 2 none, Cond.fieldLink RX3 9 "PromiseWheel$Lines" "first" "[I", Cond.methodLink RX3 33 arraycopyName, Cond.fieldLink RX3 15 "PromiseWheel$Lines" "last" "[I", Cond.fieldLink RX3 18 "PromiseWheel$Lines" "length" "[I", Cond.fieldLink RX3 21 "PromiseWheel$Lines" "line" "[I", Cond.fieldLink RX3 24 "PromiseWheel$Lines" "behind" "[I", Cond.methodLink RX8 46 yX0_copyFrom, Cond.instanceMethod yX0_copyFrom, Cond.selects RX0 yX0_copyFrom yX0_copyFrom, Cond.initialized RX0, Cond.code yX0_copyFrom cX0_copyFrom 2 none, Cond.fieldLink RX0 11 "PromiseWheel$Diary" "facts" "[I", Cond.methodLink RX0 15 arraycopyName, Cond.fieldLink RX0 21 "PromiseWheel$Diary" "calls" "I"]
def wsX2_note : List Cond := .code yX2_note cX2_note 3 none :: ((wsX2_note_r1 ++ (wsX2_note_r2 ++ wsX2_note_r3)) ++ wsX20 ++ wsX60 ++ wsX80 ++ wsX50 ++ wsX30 ++ wsX00)
def wsX2_keepNoted : List Cond := .code yX2_keepNoted cX2_keepNoted 1 none :: ([.fieldLink RX2 22 "PromiseWheel$History" "noted" "I", .fieldLink RX2 18 "PromiseWheel$History" "states" "I", .methodLink RX2 33 Lib.Math.min.name, .static Lib.Math.min.name, .initialized "java/lang/Math", .code Lib.Math.min.name Lib.Math.min.code 2 (some .int)] ++ wsX20)
def wsX2_copyNotedInto_r1 : List Cond := [Cond.fieldLink RX2 22 "PromiseWheel$History" "noted" "I", Cond.methodLink RX2 25 yX2_rowAt, Cond.instanceMethod yX2_rowAt, Cond.selects RX2 yX2_rowAt yX2_rowAt, Cond.initialized RX2, Cond.code yX2_rowAt cX2_rowAt 2 (some (.object "PromiseWheel$State")), Cond.fieldLink RX2 13 "PromiseWheel$History" "rows" "[LPromiseWheel$State;", Cond.methodLink RX2 29 yX6_copyFrom, Cond.instanceMethod yX6_copyFrom, Cond.selects RX6 yX6_copyFrom yX6_copyFrom, Cond.initialized RX6, Cond.code yX6_copyFrom cX6_copyFrom 5 none, Cond.fieldLink RX6 12 "PromiseWheel$State" "wheel" "LPromiseWheel$Wheel;", Cond.fieldLink RX6 22 "PromiseWheel$State" "taken" "[Z", Cond.fieldLink RX6 18 "PromiseWheel$State" "snapshots" "[LPromiseWheel$Wheel;", Cond.methodLink RX6 26 yX8_copyFrom, Cond.instanceMethod yX8_copyFrom, Cond.selects RX8 yX8_copyFrom yX8_copyFrom, Cond.initialized RX8, Cond.code yX8_copyFrom cX8_copyFrom 2 none, Cond.fieldLink RX8 12 "PromiseWheel$Wheel" "promises" "LPromiseWheel$Promises;", Cond.fieldLink RX8 21 "PromiseWheel$Wheel" "lines" "LPromiseWheel$Lines;", Cond.fieldLink RX8 28 "PromiseWheel$Wheel" "diary" "LPromiseWheel$Diary;", Cond.fieldLink RX8 49 "PromiseWheel$Wheel" "now" "I"]
def wsX2_copyNotedInto_r2 : List Cond := [Cond.fieldLink RX8 32 "PromiseWheel$Wheel" "room" "I", Cond.fieldLink RX8 36 "PromiseWheel$Wheel" "bound" "I", Cond.fieldLink RX8 52 "PromiseWheel$Wheel" "drift" "I", Cond.fieldLink RX8 55 "PromiseWheel$Wheel" "brokenStanding" "I", Cond.fieldLink RX8 58 "PromiseWheel$Wheel" "lateCalls" "I", Cond.fieldLink RX8 61 "PromiseWheel$Wheel" "falls" "I", Cond.fieldLink RX8 64 "PromiseWheel$Wheel" "swept" "I", Cond.fieldLink RX8 67 "PromiseWheel$Wheel" "passedOver" "I", Cond.fieldLink RX8 70 "PromiseWheel$Wheel" "longestQueue" "I", Cond.methodLink RX8 39 yX5_copyFrom, Cond.instanceMethod yX5_copyFrom, Cond.selects RX5 yX5_copyFrom yX5_copyFrom, Cond.initialized RX5, Cond.code yX5_copyFrom cX5_copyFrom 2 none, Cond.fieldLink RX5 11 "PromiseWheel$Promises" "facts" "[I", Cond.methodLink RX5 15 arraycopyName, Cond.native arraycopyName, Cond.static arraycopyName, Cond.initialized "java/lang/System", Cond.fieldLink RX5 21 "PromiseWheel$Promises" "given" "I", Cond.methodLink RX8 43 yX3_copyFrom, Cond.instanceMethod yX3_copyFrom, Cond.selects RX3 yX3_copyFrom yX3_copyFrom, Cond.initialized RX3]
def wsX2_copyNotedInto_r3 : List Cond := [Cond.code yX3_copyFrom cX3_copyFrom 2 none, Cond.fieldLink RX3 9 "PromiseWheel$Lines" "first" "[I", Cond.methodLink RX3 33 arraycopyName, Cond.fieldLink RX3 15 "PromiseWheel$Lines" "last" "[I", Cond.fieldLink RX3 18 "PromiseWheel$Lines" "length" "[I", Cond.fieldLink RX3 21 "PromiseWheel$Lines" "line" "[I", Cond.fieldLink RX3 24 "PromiseWheel$Lines" "behind" "[I", Cond.methodLink RX8 46 yX0_copyFrom, Cond.instanceMethod yX0_copyFrom, Cond.selects RX0 yX0_copyFrom yX0_copyFrom, Cond.initialized RX0, Cond.code yX0_copyFrom cX0_copyFrom 2 none, Cond.fieldLink RX0 11 "PromiseWheel$Diary" "facts" "[I", Cond.methodLink RX0 15 arraycopyName, Cond.fieldLink RX0 21 "PromiseWheel$Diary" "calls" "I"]
def wsX2_copyNotedInto : List Cond := .code yX2_copyNotedInto cX2_copyNotedInto 3 none :: ((wsX2_copyNotedInto_r1 ++ (wsX2_copyNotedInto_r2 ++ wsX2_copyNotedInto_r3)) ++ wsX20 ++ wsX60 ++ wsX80 ++ wsX50 ++ wsX30 ++ wsX00)
def wsX2_stepBack_r1 : List Cond := [Cond.fieldLink RX2 18 "PromiseWheel$History" "states" "I", Cond.fieldLink RX2 22 "PromiseWheel$History" "noted" "I", Cond.methodLink RX2 39 yX2_copyNotedInto, Cond.instanceMethod yX2_copyNotedInto, Cond.selects RX2 yX2_copyNotedInto yX2_copyNotedInto, Cond.initialized RX2, Cond.code yX2_copyNotedInto cX2_copyNotedInto 3 none, Cond.methodLink RX2 25 yX2_rowAt, Cond.instanceMethod yX2_rowAt, Cond.selects RX2 yX2_rowAt yX2_rowAt, Cond.code yX2_rowAt cX2_rowAt 2 (some (.object "PromiseWheel$State")), Cond.fieldLink RX2 13 "PromiseWheel$History" "rows" "[LPromiseWheel$State;", Cond.methodLink RX2 29 yX6_copyFrom, Cond.instanceMethod yX6_copyFrom, Cond.selects RX6 yX6_copyFrom yX6_copyFrom, Cond.initialized RX6, Cond.code yX6_copyFrom cX6_copyFrom 5 none, Cond.fieldLink RX6 12 "PromiseWheel$State" "wheel" "LPromiseWheel$Wheel;", Cond.fieldLink RX6 22 "PromiseWheel$State" "taken" "[Z", Cond.fieldLink RX6 18 "PromiseWheel$State" "snapshots" "[LPromiseWheel$Wheel;", Cond.methodLink RX6 26 yX8_copyFrom, Cond.instanceMethod yX8_copyFrom, Cond.selects RX8 yX8_copyFrom yX8_copyFrom, Cond.initialized RX8]
def wsX2_stepBack_r2 : List Cond := [Cond.code yX8_copyFrom cX8_copyFrom 2 none, Cond.fieldLink RX8 12 "PromiseWheel$Wheel" "promises" "LPromiseWheel$Promises;", Cond.fieldLink RX8 21 "PromiseWheel$Wheel" "lines" "LPromiseWheel$Lines;", Cond.fieldLink RX8 28 "PromiseWheel$Wheel" "diary" "LPromiseWheel$Diary;", Cond.fieldLink RX8 49 "PromiseWheel$Wheel" "now" "I", Cond.fieldLink RX8 32 "PromiseWheel$Wheel" "room" "I", Cond.fieldLink RX8 36 "PromiseWheel$Wheel" "bound" "I", Cond.fieldLink RX8 52 "PromiseWheel$Wheel" "drift" "I", Cond.fieldLink RX8 55 "PromiseWheel$Wheel" "brokenStanding" "I", Cond.fieldLink RX8 58 "PromiseWheel$Wheel" "lateCalls" "I", Cond.fieldLink RX8 61 "PromiseWheel$Wheel" "falls" "I", Cond.fieldLink RX8 64 "PromiseWheel$Wheel" "swept" "I", Cond.fieldLink RX8 67 "PromiseWheel$Wheel" "passedOver" "I", Cond.fieldLink RX8 70 "PromiseWheel$Wheel" "longestQueue" "I", Cond.methodLink RX8 39 yX5_copyFrom, Cond.instanceMethod yX5_copyFrom, Cond.selects RX5 yX5_copyFrom yX5_copyFrom, Cond.initialized RX5, Cond.code yX5_copyFrom cX5_copyFrom 2 none, Cond.fieldLink RX5 11 "PromiseWheel$Promises" "facts" "[I", Cond.methodLink RX5 15 arraycopyName, Cond.native arraycopyName, Cond.static arraycopyName, Cond.initialized "java/lang/System"]
def wsX2_stepBack_r3 : List Cond := [Cond.fieldLink RX5 21 "PromiseWheel$Promises" "given" "I", Cond.methodLink RX8 43 yX3_copyFrom, Cond.instanceMethod yX3_copyFrom, Cond.selects RX3 yX3_copyFrom yX3_copyFrom, Cond.initialized RX3, Cond.code yX3_copyFrom cX3_copyFrom 2 none, Cond.fieldLink RX3 9 "PromiseWheel$Lines" "first" "[I", Cond.methodLink RX3 33 arraycopyName, Cond.fieldLink RX3 15 "PromiseWheel$Lines" "last" "[I", Cond.fieldLink RX3 18 "PromiseWheel$Lines" "length" "[I", Cond.fieldLink RX3 21 "PromiseWheel$Lines" "line" "[I", Cond.fieldLink RX3 24 "PromiseWheel$Lines" "behind" "[I", Cond.methodLink RX8 46 yX0_copyFrom, Cond.instanceMethod yX0_copyFrom, Cond.selects RX0 yX0_copyFrom yX0_copyFrom, Cond.initialized RX0, Cond.code yX0_copyFrom cX0_copyFrom 2 none, Cond.fieldLink RX0 11 "PromiseWheel$Diary" "facts" "[I", Cond.methodLink RX0 15 arraycopyName, Cond.fieldLink RX0 21 "PromiseWheel$Diary" "calls" "I"]
def wsX2_stepBack : List Cond := .code yX2_stepBack cX2_stepBack 2 (some .int) :: ((wsX2_stepBack_r1 ++ (wsX2_stepBack_r2 ++ wsX2_stepBack_r3)) ++ wsX20 ++ wsX60 ++ wsX80 ++ wsX50 ++ wsX30 ++ wsX00)
def wsX3_at : List Cond := .code yX3_at cX3_at 5 (some .int) :: ([.methodLink RX3 39 yX3_lengthOf, .instanceMethod yX3_lengthOf, .selects RX3 yX3_lengthOf yX3_lengthOf, .initialized RX3, .code yX3_lengthOf cX3_lengthOf 2 (some .int), .fieldLink RX3 18 "PromiseWheel$Lines" "length" "[I", .methodLink RX3 43 yX3_frontOf, .instanceMethod yX3_frontOf, .selects RX3 yX3_frontOf yX3_frontOf, .code yX3_frontOf cX3_frontOf 2 (some .int), .fieldLink RX3 9 "PromiseWheel$Lines" "first" "[I", .methodLink RX3 46 yX3_follower, .instanceMethod yX3_follower, .selects RX3 yX3_follower yX3_follower, .code yX3_follower cX3_follower 2 (some .int), .fieldLink RX3 24 "PromiseWheel$Lines" "behind" "[I"] ++ wsX30)
def wsX3_placeOf : List Cond := .code yX3_placeOf cX3_placeOf 6 (some .int) :: ([.methodLink RX3 49 yX3_lineOf, .instanceMethod yX3_lineOf, .selects RX3 yX3_lineOf yX3_lineOf, .initialized RX3, .code yX3_lineOf cX3_lineOf 2 (some .int), .fieldLink RX3 21 "PromiseWheel$Lines" "line" "[I", .methodLink RX3 39 yX3_lengthOf, .instanceMethod yX3_lengthOf, .selects RX3 yX3_lengthOf yX3_lengthOf, .code yX3_lengthOf cX3_lengthOf 2 (some .int), .fieldLink RX3 18 "PromiseWheel$Lines" "length" "[I", .methodLink RX3 43 yX3_frontOf, .instanceMethod yX3_frontOf, .selects RX3 yX3_frontOf yX3_frontOf, .code yX3_frontOf cX3_frontOf 2 (some .int), .fieldLink RX3 9 "PromiseWheel$Lines" "first" "[I", .methodLink RX3 46 yX3_follower, .instanceMethod yX3_follower, .selects RX3 yX3_follower yX3_follower, .code yX3_follower cX3_follower 2 (some .int), .fieldLink RX3 24 "PromiseWheel$Lines" "behind" "[I"] ++ wsX30)
def wsX7_init : List Cond := .code yX7_init cX7_init 1 none :: ([.methodLink RX7 3 objectInit, .instanceMethod objectInit, .code objectInit ⟨#[0xb1]⟩ 1 none, .arrayClass .int, .fieldLink RX7 9 "PromiseWheel$Text" "characters" "[I"] ++ wsX70)
def wsX4_init : List Cond := .code yX4_init cX4_init 1 none :: ([.methodLink RX4 3 objectInit, .instanceMethod objectInit, .code objectInit ⟨#[0xb1]⟩ 1 none, .classLink RX4 9 RX7, .instantiable RX7 5, .initialized RX7, .fieldLink RX4 12 "PromiseWheel$Program" "text" "LPromiseWheel$Text;", .arrayClass .int, .fieldLink RX4 18 "PromiseWheel$Program" "numbers" "[I", .fieldLink RX4 22 "PromiseWheel$Program" "failureParts" "[I", .instanceMethod yX7_init, .code yX7_init cX7_init 1 none, .methodLink RX7 3 objectInit, .fieldLink RX7 9 "PromiseWheel$Text" "characters" "[I"] ++ wsX70 ++ wsX40)
def wsX7_beginReading : List Cond := .code yX7_beginReading cX7_beginReading 1 none :: ([.fieldLink RX7 19 "PromiseWheel$Text" "start" "I", .fieldLink RX7 22 "PromiseWheel$Text" "end" "I", .fieldLink RX7 25 "PromiseWheel$Text" "kind" "I"] ++ wsX70)
def wsX4_begin : List Cond := .code yX4_begin cX4_begin 1 none :: ([.fieldLink RX4 12 "PromiseWheel$Program" "text" "LPromiseWheel$Text;", .fieldLink RX4 28 "PromiseWheel$Program" "failed" "Z", .fieldLink RX4 32 "PromiseWheel$Program" "command" "I", .fieldLink RX4 36 "PromiseWheel$Program" "commandPlace" "I", .fieldLink RX4 39 "PromiseWheel$Program" "commandsDone" "I", .methodLink RX4 25 yX7_beginReading, .instanceMethod yX7_beginReading, .selects RX7 yX7_beginReading yX7_beginReading, .initialized RX7, .code yX7_beginReading cX7_beginReading 1 none, .fieldLink RX7 19 "PromiseWheel$Text" "start" "I", .fieldLink RX7 22 "PromiseWheel$Text" "end" "I", .fieldLink RX7 25 "PromiseWheel$Text" "kind" "I"] ++ wsX40 ++ wsX70)
def wsX4_hasFailed : List Cond := .code yX4_hasFailed cX4_hasFailed 1 (some .boolean) :: ([.fieldLink RX4 28 "PromiseWheel$Program" "failed" "Z"] ++ wsX40)
def wsX4_command : List Cond := .code yX4_command cX4_command 1 (some .int) :: ([.fieldLink RX4 32 "PromiseWheel$Program" "command" "I"] ++ wsX40)
def wsX4_commandsDone : List Cond := .code yX4_commandsDone cX4_commandsDone 1 (some .int) :: ([.fieldLink RX4 39 "PromiseWheel$Program" "commandsDone" "I"] ++ wsX40)
def wsX4_number : List Cond := .code yX4_number cX4_number 2 (some .int) :: ([.fieldLink RX4 18 "PromiseWheel$Program" "numbers" "[I"] ++ wsX40)
def wsX4_part : List Cond := .code yX4_part cX4_part 2 (some .int) :: ([.fieldLink RX4 42 "PromiseWheel$Program" "everFailed" "Z", .fieldLink RX4 22 "PromiseWheel$Program" "failureParts" "[I"] ++ wsX40)
def wsX7_at : List Cond := .code yX7_at cX7_at 2 (some .int) :: ([.fieldLink RX7 15 "PromiseWheel$Text" "length" "I", .fieldLink RX7 9 "PromiseWheel$Text" "characters" "[I"] ++ wsX70)
def wsX7_kindOf : List Cond := .code yX7_kindOf cX7_kindOf 1 (some .int) :: ([])
def wsX7_readToken : List Cond := .code yX7_readToken cX7_readToken 2 none :: ([.fieldLink RX7 22 "PromiseWheel$Text" "end" "I", .fieldLink RX7 19 "PromiseWheel$Text" "start" "I", .fieldLink RX7 25 "PromiseWheel$Text" "kind" "I", .methodLink RX7 28 yX7_at, .instanceMethod yX7_at, .selects RX7 yX7_at yX7_at, .initialized RX7, .code yX7_at cX7_at 2 (some .int), .fieldLink RX7 15 "PromiseWheel$Text" "length" "I", .fieldLink RX7 9 "PromiseWheel$Text" "characters" "[I", .methodLink RX7 32 yX7_kindOf, .static yX7_kindOf, .code yX7_kindOf cX7_kindOf 1 (some .int)] ++ wsX70)
def wsX7_isAtEnd : List Cond := .code yX7_isAtEnd cX7_isAtEnd 1 (some .boolean) :: ([.fieldLink RX7 25 "PromiseWheel$Text" "kind" "I"] ++ wsX70)
def wsJ0_coder_7d493 : List Cond := .code yJ0_coder_7d493 cJ0_coder_7d493 1 (some .byte) :: ([.fieldLink RJ0 38 "java/lang/String" "COMPACT_STRINGS" "Z", .fieldLink RJ0 15 "java/lang/String" "coder" "B"])
def wsJ0_length_8abf5 : List Cond := .code yJ0_length_8abf5 cJ0_length_8abf5 1 (some .int) :: ([.fieldLink RJ0 9 "java/lang/String" "value" "[B", .methodLink RJ0 335 yJ0_coder_7d493, .instanceMethod yJ0_coder_7d493, .selects RJ0 yJ0_coder_7d493 yJ0_coder_7d493, .initialized RJ0, .code yJ0_coder_7d493 cJ0_coder_7d493 1 (some .byte), .fieldLink RJ0 38 "java/lang/String" "COMPACT_STRINGS" "Z", .fieldLink RJ0 15 "java/lang/String" "coder" "B"])
def wsJ0_isLatin1_aae02 : List Cond := .code yJ0_isLatin1_aae02 cJ0_isLatin1_aae02 1 (some .boolean) :: ([.fieldLink RJ0 38 "java/lang/String" "COMPACT_STRINGS" "Z", .fieldLink RJ0 15 "java/lang/String" "coder" "B"])
def wsJ3_checkIndex_8e157 : List Cond := .code yJ3_checkIndex_8e157 cJ3_checkIndex_8e157 3 (some .int) :: ([])
def wsJ0_checkIndex_df160 : List Cond := .code yJ0_checkIndex_df160 cJ0_checkIndex_df160 2 none :: ([.fieldLink RJ0 1053 "jdk/internal/util/Preconditions" "SIOOBE_FORMATTER" "Ljava/util/function/BiFunction;", .methodLink RJ0 1059 yJ3_checkIndex_8e157, .static yJ3_checkIndex_8e157, .initialized RJ3, .code yJ3_checkIndex_8e157 cJ3_checkIndex_8e157 3 (some .int)])
def wsJ1_charAt_3b067 : List Cond := .code yJ1_charAt_3b067 cJ1_charAt_3b067 2 (some .char) :: ([.methodLink RJ1 9 yJ0_checkIndex_df160, .static yJ0_checkIndex_df160, .initialized RJ0, .code yJ0_checkIndex_df160 cJ0_checkIndex_df160 2 none, .fieldLink RJ0 1053 "jdk/internal/util/Preconditions" "SIOOBE_FORMATTER" "Ljava/util/function/BiFunction;", .methodLink RJ0 1059 yJ3_checkIndex_8e157, .static yJ3_checkIndex_8e157, .initialized RJ3, .code yJ3_checkIndex_8e157 cJ3_checkIndex_8e157 3 (some .int)])
def wsJ2_length_9d52b : List Cond := .code yJ2_length_9d52b cJ2_length_9d52b 1 (some .int) :: ([])
def wsJ2_checkIndex_2214a : List Cond := .code yJ2_checkIndex_2214a cJ2_checkIndex_2214a 2 none :: ([.methodLink RJ2 48 yJ2_length_9d52b, .static yJ2_length_9d52b, .initialized RJ2, .code yJ2_length_9d52b cJ2_length_9d52b 1 (some .int), .methodLink RJ2 414 yJ0_checkIndex_df160, .static yJ0_checkIndex_df160, .initialized RJ0, .code yJ0_checkIndex_df160 cJ0_checkIndex_df160 2 none, .fieldLink RJ0 1053 "jdk/internal/util/Preconditions" "SIOOBE_FORMATTER" "Ljava/util/function/BiFunction;", .methodLink RJ0 1059 yJ3_checkIndex_8e157, .static yJ3_checkIndex_8e157, .initialized RJ3, .code yJ3_checkIndex_8e157 cJ3_checkIndex_8e157 3 (some .int)])
def wsJ2_getChar_3b067 : List Cond := .code yJ2_getChar_3b067 cJ2_getChar_3b067 2 (some .char) :: ([.fieldLink RJ2 44 "java/lang/StringUTF16" "$assertionsDisabled" "Z", .fieldLink RJ2 59 "java/lang/StringUTF16" "HI_BYTE_SHIFT" "I", .fieldLink RJ2 63 "java/lang/StringUTF16" "LO_BYTE_SHIFT" "I", .methodLink RJ2 48 yJ2_length_9d52b, .static yJ2_length_9d52b, .initialized RJ2, .code yJ2_length_9d52b cJ2_length_9d52b 1 (some .int)])
def wsJ2_charAt_3b067 : List Cond := .code yJ2_charAt_3b067 cJ2_charAt_3b067 2 (some .char) :: ([.methodLink RJ2 67 yJ2_checkIndex_2214a, .static yJ2_checkIndex_2214a, .initialized RJ2, .code yJ2_checkIndex_2214a cJ2_checkIndex_2214a 2 none, .methodLink RJ2 48 yJ2_length_9d52b, .static yJ2_length_9d52b, .code yJ2_length_9d52b cJ2_length_9d52b 1 (some .int), .methodLink RJ2 414 yJ0_checkIndex_df160, .static yJ0_checkIndex_df160, .initialized RJ0, .code yJ0_checkIndex_df160 cJ0_checkIndex_df160 2 none, .fieldLink RJ0 1053 "jdk/internal/util/Preconditions" "SIOOBE_FORMATTER" "Ljava/util/function/BiFunction;", .methodLink RJ0 1059 yJ3_checkIndex_8e157, .static yJ3_checkIndex_8e157, .initialized RJ3, .code yJ3_checkIndex_8e157 cJ3_checkIndex_8e157 3 (some .int), .methodLink RJ2 71 yJ2_getChar_3b067, .static yJ2_getChar_3b067, .code yJ2_getChar_3b067 cJ2_getChar_3b067 2 (some .char), .fieldLink RJ2 44 "java/lang/StringUTF16" "$assertionsDisabled" "Z", .fieldLink RJ2 59 "java/lang/StringUTF16" "HI_BYTE_SHIFT" "I", .fieldLink RJ2 63 "java/lang/StringUTF16" "LO_BYTE_SHIFT" "I"])
def wsJ0_charAt_5068e_r1 : List Cond := [Cond.fieldLink RJ0 9 "java/lang/String" "value" "[B", Cond.methodLink RJ0 492 yJ0_isLatin1_aae02, Cond.instanceMethod yJ0_isLatin1_aae02, Cond.selects RJ0 yJ0_isLatin1_aae02 yJ0_isLatin1_aae02, Cond.initialized RJ0, Cond.code yJ0_isLatin1_aae02 cJ0_isLatin1_aae02 1 (some .boolean), Cond.fieldLink RJ0 38 "java/lang/String" "COMPACT_STRINGS" "Z", Cond.fieldLink RJ0 15 "java/lang/String" "coder" "B", Cond.methodLink RJ0 495 yJ1_charAt_3b067, Cond.static yJ1_charAt_3b067, Cond.initialized RJ1, Cond.code yJ1_charAt_3b067 cJ1_charAt_3b067 2 (some .char), Cond.methodLink RJ1 9 yJ0_checkIndex_df160, Cond.static yJ0_checkIndex_df160, Cond.code yJ0_checkIndex_df160 cJ0_checkIndex_df160 2 none, Cond.fieldLink RJ0 1053 "jdk/internal/util/Preconditions" "SIOOBE_FORMATTER" "Ljava/util/function/BiFunction;", Cond.methodLink RJ0 1059 yJ3_checkIndex_8e157, Cond.static yJ3_checkIndex_8e157, Cond.initialized RJ3, Cond.code yJ3_checkIndex_8e157 cJ3_checkIndex_8e157 3 (some .int), Cond.methodLink RJ0 498 yJ2_charAt_3b067, Cond.static yJ2_charAt_3b067, Cond.initialized RJ2, Cond.code yJ2_charAt_3b067 cJ2_charAt_3b067 2 (some .char)]
def wsJ0_charAt_5068e_r2 : List Cond := [Cond.methodLink RJ2 67 yJ2_checkIndex_2214a, Cond.static yJ2_checkIndex_2214a, Cond.code yJ2_checkIndex_2214a cJ2_checkIndex_2214a 2 none, Cond.methodLink RJ2 48 yJ2_length_9d52b, Cond.static yJ2_length_9d52b, Cond.code yJ2_length_9d52b cJ2_length_9d52b 1 (some .int), Cond.methodLink RJ2 414 yJ0_checkIndex_df160, Cond.methodLink RJ2 71 yJ2_getChar_3b067, Cond.static yJ2_getChar_3b067, Cond.code yJ2_getChar_3b067 cJ2_getChar_3b067 2 (some .char), Cond.fieldLink RJ2 44 "java/lang/StringUTF16" "$assertionsDisabled" "Z", Cond.fieldLink RJ2 59 "java/lang/StringUTF16" "HI_BYTE_SHIFT" "I", Cond.fieldLink RJ2 63 "java/lang/StringUTF16" "LO_BYTE_SHIFT" "I"]
def wsJ0_charAt_5068e : List Cond := .code yJ0_charAt_5068e cJ0_charAt_5068e 2 (some .char) :: ((wsJ0_charAt_5068e_r1 ++ wsJ0_charAt_5068e_r2))
def wsX7_isWord_r1 : List Cond := [Cond.fieldLink RX7 25 "PromiseWheel$Text" "kind" "I", Cond.fieldLink RX7 22 "PromiseWheel$Text" "end" "I", Cond.fieldLink RX7 19 "PromiseWheel$Text" "start" "I", Cond.methodLink RX7 35 yJ0_length_8abf5, Cond.instanceMethod yJ0_length_8abf5, Cond.selects RJ0 yJ0_length_8abf5 yJ0_length_8abf5, Cond.initialized RJ0, Cond.code yJ0_length_8abf5 cJ0_length_8abf5 1 (some .int), Cond.fieldLink RJ0 9 "java/lang/String" "value" "[B", Cond.methodLink RJ0 335 yJ0_coder_7d493, Cond.instanceMethod yJ0_coder_7d493, Cond.selects RJ0 yJ0_coder_7d493 yJ0_coder_7d493, Cond.code yJ0_coder_7d493 cJ0_coder_7d493 1 (some .byte), Cond.fieldLink RJ0 38 "java/lang/String" "COMPACT_STRINGS" "Z", Cond.fieldLink RJ0 15 "java/lang/String" "coder" "B", Cond.methodLink RX7 28 yX7_at, Cond.instanceMethod yX7_at, Cond.selects RX7 yX7_at yX7_at, Cond.initialized RX7, Cond.code yX7_at cX7_at 2 (some .int), Cond.fieldLink RX7 15 "PromiseWheel$Text" "length" "I", Cond.fieldLink RX7 9 "PromiseWheel$Text" "characters" "[I", Cond.methodLink RX7 40 yJ0_charAt_5068e, Cond.instanceMethod yJ0_charAt_5068e]
def wsX7_isWord_r2 : List Cond := [Cond.selects RJ0 yJ0_charAt_5068e yJ0_charAt_5068e, Cond.code yJ0_charAt_5068e cJ0_charAt_5068e 2 (some .char), Cond.methodLink RJ0 492 yJ0_isLatin1_aae02, Cond.instanceMethod yJ0_isLatin1_aae02, Cond.selects RJ0 yJ0_isLatin1_aae02 yJ0_isLatin1_aae02, Cond.code yJ0_isLatin1_aae02 cJ0_isLatin1_aae02 1 (some .boolean), Cond.methodLink RJ0 495 yJ1_charAt_3b067, Cond.static yJ1_charAt_3b067, Cond.initialized RJ1, Cond.code yJ1_charAt_3b067 cJ1_charAt_3b067 2 (some .char), Cond.methodLink RJ1 9 yJ0_checkIndex_df160, Cond.static yJ0_checkIndex_df160, Cond.code yJ0_checkIndex_df160 cJ0_checkIndex_df160 2 none, Cond.fieldLink RJ0 1053 "jdk/internal/util/Preconditions" "SIOOBE_FORMATTER" "Ljava/util/function/BiFunction;", Cond.methodLink RJ0 1059 yJ3_checkIndex_8e157, Cond.static yJ3_checkIndex_8e157, Cond.initialized RJ3, Cond.code yJ3_checkIndex_8e157 cJ3_checkIndex_8e157 3 (some .int), Cond.methodLink RJ0 498 yJ2_charAt_3b067, Cond.static yJ2_charAt_3b067, Cond.initialized RJ2, Cond.code yJ2_charAt_3b067 cJ2_charAt_3b067 2 (some .char), Cond.methodLink RJ2 67 yJ2_checkIndex_2214a, Cond.static yJ2_checkIndex_2214a]
def wsX7_isWord_r3 : List Cond := [Cond.code yJ2_checkIndex_2214a cJ2_checkIndex_2214a 2 none, Cond.methodLink RJ2 48 yJ2_length_9d52b, Cond.static yJ2_length_9d52b, Cond.code yJ2_length_9d52b cJ2_length_9d52b 1 (some .int), Cond.methodLink RJ2 414 yJ0_checkIndex_df160, Cond.methodLink RJ2 71 yJ2_getChar_3b067, Cond.static yJ2_getChar_3b067, Cond.code yJ2_getChar_3b067 cJ2_getChar_3b067 2 (some .char), Cond.fieldLink RJ2 44 "java/lang/StringUTF16" "$assertionsDisabled" "Z", Cond.fieldLink RJ2 59 "java/lang/StringUTF16" "HI_BYTE_SHIFT" "I", Cond.fieldLink RJ2 63 "java/lang/StringUTF16" "LO_BYTE_SHIFT" "I"]
def wsX7_isWord : List Cond := .code yX7_isWord cX7_isWord 3 (some .boolean) :: ((wsX7_isWord_r1 ++ (wsX7_isWord_r2 ++ wsX7_isWord_r3)) ++ wsX70)
def wsX4_commandOfWord_r1 : List Cond := [Cond.fieldLink RX4 12 "PromiseWheel$Program" "text" "LPromiseWheel$Text;", Cond.methodLink RX4 81 yX7_isWord, Cond.instanceMethod yX7_isWord, Cond.selects RX7 yX7_isWord yX7_isWord, Cond.initialized RX7, Cond.code yX7_isWord cX7_isWord 3 (some .boolean), Cond.fieldLink RX7 25 "PromiseWheel$Text" "kind" "I", Cond.fieldLink RX7 22 "PromiseWheel$Text" "end" "I", Cond.fieldLink RX7 19 "PromiseWheel$Text" "start" "I", Cond.methodLink RX7 35 yJ0_length_8abf5, Cond.instanceMethod yJ0_length_8abf5, Cond.selects RJ0 yJ0_length_8abf5 yJ0_length_8abf5, Cond.initialized RJ0, Cond.code yJ0_length_8abf5 cJ0_length_8abf5 1 (some .int), Cond.fieldLink RJ0 9 "java/lang/String" "value" "[B", Cond.methodLink RJ0 335 yJ0_coder_7d493, Cond.instanceMethod yJ0_coder_7d493, Cond.selects RJ0 yJ0_coder_7d493 yJ0_coder_7d493, Cond.code yJ0_coder_7d493 cJ0_coder_7d493 1 (some .byte), Cond.fieldLink RJ0 38 "java/lang/String" "COMPACT_STRINGS" "Z", Cond.fieldLink RJ0 15 "java/lang/String" "coder" "B", Cond.methodLink RX7 28 yX7_at, Cond.instanceMethod yX7_at, Cond.selects RX7 yX7_at yX7_at]
def wsX4_commandOfWord_r2 : List Cond := [Cond.code yX7_at cX7_at 2 (some .int), Cond.fieldLink RX7 15 "PromiseWheel$Text" "length" "I", Cond.fieldLink RX7 9 "PromiseWheel$Text" "characters" "[I", Cond.methodLink RX7 40 yJ0_charAt_5068e, Cond.instanceMethod yJ0_charAt_5068e, Cond.selects RJ0 yJ0_charAt_5068e yJ0_charAt_5068e, Cond.code yJ0_charAt_5068e cJ0_charAt_5068e 2 (some .char), Cond.methodLink RJ0 492 yJ0_isLatin1_aae02, Cond.instanceMethod yJ0_isLatin1_aae02, Cond.selects RJ0 yJ0_isLatin1_aae02 yJ0_isLatin1_aae02, Cond.code yJ0_isLatin1_aae02 cJ0_isLatin1_aae02 1 (some .boolean), Cond.methodLink RJ0 495 yJ1_charAt_3b067, Cond.static yJ1_charAt_3b067, Cond.initialized RJ1, Cond.code yJ1_charAt_3b067 cJ1_charAt_3b067 2 (some .char), Cond.methodLink RJ1 9 yJ0_checkIndex_df160, Cond.static yJ0_checkIndex_df160, Cond.code yJ0_checkIndex_df160 cJ0_checkIndex_df160 2 none, Cond.fieldLink RJ0 1053 "jdk/internal/util/Preconditions" "SIOOBE_FORMATTER" "Ljava/util/function/BiFunction;", Cond.methodLink RJ0 1059 yJ3_checkIndex_8e157, Cond.static yJ3_checkIndex_8e157, Cond.initialized RJ3, Cond.code yJ3_checkIndex_8e157 cJ3_checkIndex_8e157 3 (some .int), Cond.methodLink RJ0 498 yJ2_charAt_3b067]
def wsX4_commandOfWord_r3 : List Cond := [Cond.static yJ2_charAt_3b067, Cond.initialized RJ2, Cond.code yJ2_charAt_3b067 cJ2_charAt_3b067 2 (some .char), Cond.methodLink RJ2 67 yJ2_checkIndex_2214a, Cond.static yJ2_checkIndex_2214a, Cond.code yJ2_checkIndex_2214a cJ2_checkIndex_2214a 2 none, Cond.methodLink RJ2 48 yJ2_length_9d52b, Cond.static yJ2_length_9d52b, Cond.code yJ2_length_9d52b cJ2_length_9d52b 1 (some .int), Cond.methodLink RJ2 414 yJ0_checkIndex_df160, Cond.methodLink RJ2 71 yJ2_getChar_3b067, Cond.static yJ2_getChar_3b067, Cond.code yJ2_getChar_3b067 cJ2_getChar_3b067 2 (some .char), Cond.fieldLink RJ2 44 "java/lang/StringUTF16" "$assertionsDisabled" "Z", Cond.fieldLink RJ2 59 "java/lang/StringUTF16" "HI_BYTE_SHIFT" "I", Cond.fieldLink RJ2 63 "java/lang/StringUTF16" "LO_BYTE_SHIFT" "I"]
def wsX4_commandOfWord : List Cond := .code yX4_commandOfWord cX4_commandOfWord 1 (some .int) :: ((wsX4_commandOfWord_r1 ++ (wsX4_commandOfWord_r2 ++ wsX4_commandOfWord_r3)) ++ wsX40 ++ wsX70)
def wsX7_tokenStart : List Cond := .code yX7_tokenStart cX7_tokenStart 1 (some .int) :: ([.fieldLink RX7 19 "PromiseWheel$Text" "start" "I"] ++ wsX70)
def wsX4_fail : List Cond := .code yX4_fail cX4_fail 4 none :: ([.fieldLink RX4 28 "PromiseWheel$Program" "failed" "Z", .fieldLink RX4 42 "PromiseWheel$Program" "everFailed" "Z", .fieldLink RX4 22 "PromiseWheel$Program" "failureParts" "[I", .fieldLink RX4 39 "PromiseWheel$Program" "commandsDone" "I"] ++ wsX40)
def wsX4_failAtToken : List Cond := .code yX4_failAtToken cX4_failAtToken 1 (some .boolean) :: ([.fieldLink RX4 12 "PromiseWheel$Program" "text" "LPromiseWheel$Text;", .methodLink RX4 56 yX7_tokenStart, .instanceMethod yX7_tokenStart, .selects RX7 yX7_tokenStart yX7_tokenStart, .initialized RX7, .code yX7_tokenStart cX7_tokenStart 1 (some .int), .fieldLink RX7 19 "PromiseWheel$Text" "start" "I", .methodLink RX4 75 yX4_fail, .instanceMethod yX4_fail, .selects RX4 yX4_fail yX4_fail, .initialized RX4, .code yX4_fail cX4_fail 4 none, .fieldLink RX4 28 "PromiseWheel$Program" "failed" "Z", .fieldLink RX4 42 "PromiseWheel$Program" "everFailed" "Z", .fieldLink RX4 22 "PromiseWheel$Program" "failureParts" "[I", .fieldLink RX4 39 "PromiseWheel$Program" "commandsDone" "I"] ++ wsX40 ++ wsX70)
def wsX4_numbersOf : List Cond := .code yX4_numbersOf cX4_numbersOf 1 (some .int) :: ([])
def wsX7_isNumber : List Cond := .code yX7_isNumber cX7_isNumber 2 (some .boolean) :: ([.fieldLink RX7 22 "PromiseWheel$Text" "end" "I", .fieldLink RX7 19 "PromiseWheel$Text" "start" "I", .fieldLink RX7 25 "PromiseWheel$Text" "kind" "I", .methodLink RX7 28 yX7_at, .instanceMethod yX7_at, .selects RX7 yX7_at yX7_at, .initialized RX7, .code yX7_at cX7_at 2 (some .int), .fieldLink RX7 15 "PromiseWheel$Text" "length" "I", .fieldLink RX7 9 "PromiseWheel$Text" "characters" "[I"] ++ wsX70)
def wsX7_numberValue : List Cond := .code yX7_numberValue cX7_numberValue 3 (some .int) :: ([.fieldLink RX7 19 "PromiseWheel$Text" "start" "I", .fieldLink RX7 22 "PromiseWheel$Text" "end" "I", .methodLink RX7 28 yX7_at, .instanceMethod yX7_at, .selects RX7 yX7_at yX7_at, .initialized RX7, .code yX7_at cX7_at 2 (some .int), .fieldLink RX7 15 "PromiseWheel$Text" "length" "I", .fieldLink RX7 9 "PromiseWheel$Text" "characters" "[I"] ++ wsX70)
def wsX7_isSemicolon : List Cond := .code yX7_isSemicolon cX7_isSemicolon 1 (some .boolean) :: ([.fieldLink RX7 25 "PromiseWheel$Text" "kind" "I", .fieldLink RX7 19 "PromiseWheel$Text" "start" "I", .methodLink RX7 28 yX7_at, .instanceMethod yX7_at, .selects RX7 yX7_at yX7_at, .initialized RX7, .code yX7_at cX7_at 2 (some .int), .fieldLink RX7 15 "PromiseWheel$Text" "length" "I", .fieldLink RX7 9 "PromiseWheel$Text" "characters" "[I"] ++ wsX70)
def wsX4_readCommand_r1 : List Cond := [Cond.fieldLink RX4 28 "PromiseWheel$Program" "failed" "Z", Cond.fieldLink RX4 12 "PromiseWheel$Program" "text" "LPromiseWheel$Text;", Cond.fieldLink RX4 32 "PromiseWheel$Program" "command" "I", Cond.fieldLink RX4 36 "PromiseWheel$Program" "commandPlace" "I", Cond.fieldLink RX4 18 "PromiseWheel$Program" "numbers" "[I", Cond.methodLink RX4 45 yX7_readToken, Cond.instanceMethod yX7_readToken, Cond.selects RX7 yX7_readToken yX7_readToken, Cond.initialized RX7, Cond.code yX7_readToken cX7_readToken 2 none, Cond.fieldLink RX7 22 "PromiseWheel$Text" "end" "I", Cond.fieldLink RX7 19 "PromiseWheel$Text" "start" "I", Cond.fieldLink RX7 25 "PromiseWheel$Text" "kind" "I", Cond.methodLink RX7 28 yX7_at, Cond.instanceMethod yX7_at, Cond.selects RX7 yX7_at yX7_at, Cond.code yX7_at cX7_at 2 (some .int), Cond.fieldLink RX7 15 "PromiseWheel$Text" "length" "I", Cond.fieldLink RX7 9 "PromiseWheel$Text" "characters" "[I", Cond.methodLink RX7 32 yX7_kindOf, Cond.static yX7_kindOf, Cond.code yX7_kindOf cX7_kindOf 1 (some .int), Cond.methodLink RX4 48 yX7_isAtEnd, Cond.instanceMethod yX7_isAtEnd]
def wsX4_readCommand_r2 : List Cond := [Cond.selects RX7 yX7_isAtEnd yX7_isAtEnd, Cond.code yX7_isAtEnd cX7_isAtEnd 1 (some .boolean), Cond.methodLink RX4 52 yX4_commandOfWord, Cond.instanceMethod yX4_commandOfWord, Cond.selects RX4 yX4_commandOfWord yX4_commandOfWord, Cond.initialized RX4, Cond.code yX4_commandOfWord cX4_commandOfWord 1 (some .int), Cond.methodLink RX4 81 yX7_isWord, Cond.instanceMethod yX7_isWord, Cond.selects RX7 yX7_isWord yX7_isWord, Cond.code yX7_isWord cX7_isWord 3 (some .boolean), Cond.methodLink RX7 35 yJ0_length_8abf5, Cond.instanceMethod yJ0_length_8abf5, Cond.selects RJ0 yJ0_length_8abf5 yJ0_length_8abf5, Cond.initialized RJ0, Cond.code yJ0_length_8abf5 cJ0_length_8abf5 1 (some .int), Cond.fieldLink RJ0 9 "java/lang/String" "value" "[B", Cond.methodLink RJ0 335 yJ0_coder_7d493, Cond.instanceMethod yJ0_coder_7d493, Cond.selects RJ0 yJ0_coder_7d493 yJ0_coder_7d493, Cond.code yJ0_coder_7d493 cJ0_coder_7d493 1 (some .byte), Cond.fieldLink RJ0 38 "java/lang/String" "COMPACT_STRINGS" "Z", Cond.fieldLink RJ0 15 "java/lang/String" "coder" "B", Cond.methodLink RX7 40 yJ0_charAt_5068e]
def wsX4_readCommand_r3 : List Cond := [Cond.instanceMethod yJ0_charAt_5068e, Cond.selects RJ0 yJ0_charAt_5068e yJ0_charAt_5068e, Cond.code yJ0_charAt_5068e cJ0_charAt_5068e 2 (some .char), Cond.methodLink RJ0 492 yJ0_isLatin1_aae02, Cond.instanceMethod yJ0_isLatin1_aae02, Cond.selects RJ0 yJ0_isLatin1_aae02 yJ0_isLatin1_aae02, Cond.code yJ0_isLatin1_aae02 cJ0_isLatin1_aae02 1 (some .boolean), Cond.methodLink RJ0 495 yJ1_charAt_3b067, Cond.static yJ1_charAt_3b067, Cond.initialized RJ1, Cond.code yJ1_charAt_3b067 cJ1_charAt_3b067 2 (some .char), Cond.methodLink RJ1 9 yJ0_checkIndex_df160, Cond.static yJ0_checkIndex_df160, Cond.code yJ0_checkIndex_df160 cJ0_checkIndex_df160 2 none, Cond.fieldLink RJ0 1053 "jdk/internal/util/Preconditions" "SIOOBE_FORMATTER" "Ljava/util/function/BiFunction;", Cond.methodLink RJ0 1059 yJ3_checkIndex_8e157, Cond.static yJ3_checkIndex_8e157, Cond.initialized RJ3, Cond.code yJ3_checkIndex_8e157 cJ3_checkIndex_8e157 3 (some .int), Cond.methodLink RJ0 498 yJ2_charAt_3b067, Cond.static yJ2_charAt_3b067, Cond.initialized RJ2, Cond.code yJ2_charAt_3b067 cJ2_charAt_3b067 2 (some .char), Cond.methodLink RJ2 67 yJ2_checkIndex_2214a]
def wsX4_readCommand_r4 : List Cond := [Cond.static yJ2_checkIndex_2214a, Cond.code yJ2_checkIndex_2214a cJ2_checkIndex_2214a 2 none, Cond.methodLink RJ2 48 yJ2_length_9d52b, Cond.static yJ2_length_9d52b, Cond.code yJ2_length_9d52b cJ2_length_9d52b 1 (some .int), Cond.methodLink RJ2 414 yJ0_checkIndex_df160, Cond.methodLink RJ2 71 yJ2_getChar_3b067, Cond.static yJ2_getChar_3b067, Cond.code yJ2_getChar_3b067 cJ2_getChar_3b067 2 (some .char), Cond.fieldLink RJ2 44 "java/lang/StringUTF16" "$assertionsDisabled" "Z", Cond.fieldLink RJ2 59 "java/lang/StringUTF16" "HI_BYTE_SHIFT" "I", Cond.fieldLink RJ2 63 "java/lang/StringUTF16" "LO_BYTE_SHIFT" "I", Cond.methodLink RX4 56 yX7_tokenStart, Cond.instanceMethod yX7_tokenStart, Cond.selects RX7 yX7_tokenStart yX7_tokenStart, Cond.code yX7_tokenStart cX7_tokenStart 1 (some .int), Cond.methodLink RX4 59 yX4_failAtToken, Cond.instanceMethod yX4_failAtToken, Cond.selects RX4 yX4_failAtToken yX4_failAtToken, Cond.code yX4_failAtToken cX4_failAtToken 1 (some .boolean), Cond.methodLink RX4 75 yX4_fail, Cond.instanceMethod yX4_fail, Cond.selects RX4 yX4_fail yX4_fail, Cond.code yX4_fail cX4_fail 4 none]
def wsX4_readCommand_r5 : List Cond := [Cond.fieldLink RX4 42 "PromiseWheel$Program" "everFailed" "Z", Cond.fieldLink RX4 22 "PromiseWheel$Program" "failureParts" "[I", Cond.fieldLink RX4 39 "PromiseWheel$Program" "commandsDone" "I", Cond.methodLink RX4 62 yX4_numbersOf, Cond.static yX4_numbersOf, Cond.code yX4_numbersOf cX4_numbersOf 1 (some .int), Cond.methodLink RX4 66 yX7_isNumber, Cond.instanceMethod yX7_isNumber, Cond.selects RX7 yX7_isNumber yX7_isNumber, Cond.code yX7_isNumber cX7_isNumber 2 (some .boolean), Cond.methodLink RX4 69 yX7_numberValue, Cond.instanceMethod yX7_numberValue, Cond.selects RX7 yX7_numberValue yX7_numberValue, Cond.code yX7_numberValue cX7_numberValue 3 (some .int), Cond.methodLink RX4 72 yX7_isSemicolon, Cond.instanceMethod yX7_isSemicolon, Cond.selects RX7 yX7_isSemicolon yX7_isSemicolon, Cond.code yX7_isSemicolon cX7_isSemicolon 1 (some .boolean)]
def wsX4_readCommand : List Cond := .code yX4_readCommand cX4_readCommand 3 (some .boolean) :: ((wsX4_readCommand_r1 ++ (wsX4_readCommand_r2 ++ (wsX4_readCommand_r3 ++ (wsX4_readCommand_r4 ++ wsX4_readCommand_r5)))) ++ wsX40 ++ wsX70)
def wsX4_finishCommand : List Cond := .code yX4_finishCommand cX4_finishCommand 2 none :: ([.fieldLink RX4 36 "PromiseWheel$Program" "commandPlace" "I", .fieldLink RX4 39 "PromiseWheel$Program" "commandsDone" "I", .methodLink RX4 75 yX4_fail, .instanceMethod yX4_fail, .selects RX4 yX4_fail yX4_fail, .initialized RX4, .code yX4_fail cX4_fail 4 none, .fieldLink RX4 28 "PromiseWheel$Program" "failed" "Z", .fieldLink RX4 42 "PromiseWheel$Program" "everFailed" "Z", .fieldLink RX4 22 "PromiseWheel$Program" "failureParts" "[I"] ++ wsX40)
def wsX5_has : List Cond := .code yX5_has cX5_has 2 (some .boolean) :: ([.fieldLink RX5 21 "PromiseWheel$Promises" "given" "I"] ++ wsX50)
def wsX5_isAlive : List Cond := .code yX5_isAlive cX5_isAlive 3 (some .boolean) :: ([.methodLink RX5 25 yX5_fact, .instanceMethod yX5_fact, .selects RX5 yX5_fact yX5_fact, .initialized RX5, .code yX5_fact cX5_fact 3 (some .int), .fieldLink RX5 11 "PromiseWheel$Promises" "facts" "[I"] ++ wsX50)
def wsX5_add : List Cond := .code yX5_add cX5_add 5 (some .int) :: ([.fieldLink RX5 21 "PromiseWheel$Promises" "given" "I", .methodLink RX5 29 yX5_write, .instanceMethod yX5_write, .selects RX5 yX5_write yX5_write, .initialized RX5, .code yX5_write cX5_write 4 none, .fieldLink RX5 11 "PromiseWheel$Promises" "facts" "[I"] ++ wsX50)
def wsX5_earlier : List Cond := .code yX5_earlier cX5_earlier 5 (some .int) :: ([.methodLink RX5 37 Lib.Math.min.name, .static Lib.Math.min.name, .initialized "java/lang/Math", .code Lib.Math.min.name Lib.Math.min.code 2 (some .int), .methodLink RX5 25 yX5_fact, .instanceMethod yX5_fact, .selects RX5 yX5_fact yX5_fact, .initialized RX5, .code yX5_fact cX5_fact 3 (some .int), .fieldLink RX5 11 "PromiseWheel$Promises" "facts" "[I"] ++ wsX50)
def wsX6_takeSnapshot_r1 : List Cond := [Cond.fieldLink RX6 18 "PromiseWheel$State" "snapshots" "[LPromiseWheel$Wheel;", Cond.fieldLink RX6 12 "PromiseWheel$State" "wheel" "LPromiseWheel$Wheel;", Cond.fieldLink RX6 22 "PromiseWheel$State" "taken" "[Z", Cond.methodLink RX6 26 yX8_copyFrom, Cond.instanceMethod yX8_copyFrom, Cond.selects RX8 yX8_copyFrom yX8_copyFrom, Cond.initialized RX8, Cond.code yX8_copyFrom cX8_copyFrom 2 none, Cond.fieldLink RX8 12 "PromiseWheel$Wheel" "promises" "LPromiseWheel$Promises;", Cond.fieldLink RX8 21 "PromiseWheel$Wheel" "lines" "LPromiseWheel$Lines;", Cond.fieldLink RX8 28 "PromiseWheel$Wheel" "diary" "LPromiseWheel$Diary;", Cond.fieldLink RX8 49 "PromiseWheel$Wheel" "now" "I", Cond.fieldLink RX8 32 "PromiseWheel$Wheel" "room" "I", Cond.fieldLink RX8 36 "PromiseWheel$Wheel" "bound" "I", Cond.fieldLink RX8 52 "PromiseWheel$Wheel" "drift" "I", Cond.fieldLink RX8 55 "PromiseWheel$Wheel" "brokenStanding" "I", Cond.fieldLink RX8 58 "PromiseWheel$Wheel" "lateCalls" "I", Cond.fieldLink RX8 61 "PromiseWheel$Wheel" "falls" "I", Cond.fieldLink RX8 64 "PromiseWheel$Wheel" "swept" "I", Cond.fieldLink RX8 67 "PromiseWheel$Wheel" "passedOver" "I", Cond.fieldLink RX8 70 "PromiseWheel$Wheel" "longestQueue" "I", Cond.methodLink RX8 39 yX5_copyFrom, Cond.instanceMethod yX5_copyFrom, Cond.selects RX5 yX5_copyFrom yX5_copyFrom]
def wsX6_takeSnapshot_r2 : List Cond := [Cond.initialized RX5, Cond.code yX5_copyFrom cX5_copyFrom 2 none, Cond.fieldLink RX5 11 "PromiseWheel$Promises" "facts" "[I", Cond.methodLink RX5 15 arraycopyName, Cond.native arraycopyName, Cond.static arraycopyName, Cond.initialized "java/lang/System", Cond.fieldLink RX5 21 "PromiseWheel$Promises" "given" "I", Cond.methodLink RX8 43 yX3_copyFrom, Cond.instanceMethod yX3_copyFrom, Cond.selects RX3 yX3_copyFrom yX3_copyFrom, Cond.initialized RX3, Cond.code yX3_copyFrom cX3_copyFrom 2 none, Cond.fieldLink RX3 9 "PromiseWheel$Lines" "first" "[I", Cond.methodLink RX3 33 arraycopyName, Cond.fieldLink RX3 15 "PromiseWheel$Lines" "last" "[I", Cond.fieldLink RX3 18 "PromiseWheel$Lines" "length" "[I", Cond.fieldLink RX3 21 "PromiseWheel$Lines" "line" "[I", Cond.fieldLink RX3 24 "PromiseWheel$Lines" "behind" "[I", Cond.methodLink RX8 46 yX0_copyFrom, Cond.instanceMethod yX0_copyFrom, Cond.selects RX0 yX0_copyFrom yX0_copyFrom, Cond.initialized RX0, Cond.code yX0_copyFrom cX0_copyFrom 2 none]
def wsX6_takeSnapshot_r3 : List Cond := [Cond.fieldLink RX0 11 "PromiseWheel$Diary" "facts" "[I", Cond.methodLink RX0 15 arraycopyName, Cond.fieldLink RX0 21 "PromiseWheel$Diary" "calls" "I"]
def wsX6_takeSnapshot : List Cond := .code yX6_takeSnapshot cX6_takeSnapshot 3 (some .int) :: ((wsX6_takeSnapshot_r1 ++ (wsX6_takeSnapshot_r2 ++ wsX6_takeSnapshot_r3)) ++ wsX60 ++ wsX80 ++ wsX50 ++ wsX30 ++ wsX00)
def wsX6_restoreSnapshot_r1 : List Cond := [Cond.fieldLink RX6 18 "PromiseWheel$State" "snapshots" "[LPromiseWheel$Wheel;", Cond.fieldLink RX6 22 "PromiseWheel$State" "taken" "[Z", Cond.fieldLink RX6 12 "PromiseWheel$State" "wheel" "LPromiseWheel$Wheel;", Cond.methodLink RX6 26 yX8_copyFrom, Cond.instanceMethod yX8_copyFrom, Cond.selects RX8 yX8_copyFrom yX8_copyFrom, Cond.initialized RX8, Cond.code yX8_copyFrom cX8_copyFrom 2 none, Cond.fieldLink RX8 12 "PromiseWheel$Wheel" "promises" "LPromiseWheel$Promises;", Cond.fieldLink RX8 21 "PromiseWheel$Wheel" "lines" "LPromiseWheel$Lines;", Cond.fieldLink RX8 28 "PromiseWheel$Wheel" "diary" "LPromiseWheel$Diary;", Cond.fieldLink RX8 49 "PromiseWheel$Wheel" "now" "I", Cond.fieldLink RX8 32 "PromiseWheel$Wheel" "room" "I", Cond.fieldLink RX8 36 "PromiseWheel$Wheel" "bound" "I", Cond.fieldLink RX8 52 "PromiseWheel$Wheel" "drift" "I", Cond.fieldLink RX8 55 "PromiseWheel$Wheel" "brokenStanding" "I", Cond.fieldLink RX8 58 "PromiseWheel$Wheel" "lateCalls" "I", Cond.fieldLink RX8 61 "PromiseWheel$Wheel" "falls" "I", Cond.fieldLink RX8 64 "PromiseWheel$Wheel" "swept" "I", Cond.fieldLink RX8 67 "PromiseWheel$Wheel" "passedOver" "I", Cond.fieldLink RX8 70 "PromiseWheel$Wheel" "longestQueue" "I", Cond.methodLink RX8 39 yX5_copyFrom, Cond.instanceMethod yX5_copyFrom, Cond.selects RX5 yX5_copyFrom yX5_copyFrom]
def wsX6_restoreSnapshot_r2 : List Cond := [Cond.initialized RX5, Cond.code yX5_copyFrom cX5_copyFrom 2 none, Cond.fieldLink RX5 11 "PromiseWheel$Promises" "facts" "[I", Cond.methodLink RX5 15 arraycopyName, Cond.native arraycopyName, Cond.static arraycopyName, Cond.initialized "java/lang/System", Cond.fieldLink RX5 21 "PromiseWheel$Promises" "given" "I", Cond.methodLink RX8 43 yX3_copyFrom, Cond.instanceMethod yX3_copyFrom, Cond.selects RX3 yX3_copyFrom yX3_copyFrom, Cond.initialized RX3, Cond.code yX3_copyFrom cX3_copyFrom 2 none, Cond.fieldLink RX3 9 "PromiseWheel$Lines" "first" "[I", Cond.methodLink RX3 33 arraycopyName, Cond.fieldLink RX3 15 "PromiseWheel$Lines" "last" "[I", Cond.fieldLink RX3 18 "PromiseWheel$Lines" "length" "[I", Cond.fieldLink RX3 21 "PromiseWheel$Lines" "line" "[I", Cond.fieldLink RX3 24 "PromiseWheel$Lines" "behind" "[I", Cond.methodLink RX8 46 yX0_copyFrom, Cond.instanceMethod yX0_copyFrom, Cond.selects RX0 yX0_copyFrom yX0_copyFrom, Cond.initialized RX0, Cond.code yX0_copyFrom cX0_copyFrom 2 none]
def wsX6_restoreSnapshot_r3 : List Cond := [Cond.fieldLink RX0 11 "PromiseWheel$Diary" "facts" "[I", Cond.methodLink RX0 15 arraycopyName, Cond.fieldLink RX0 21 "PromiseWheel$Diary" "calls" "I"]
def wsX6_restoreSnapshot : List Cond := .code yX6_restoreSnapshot cX6_restoreSnapshot 3 (some .int) :: ((wsX6_restoreSnapshot_r1 ++ (wsX6_restoreSnapshot_r2 ++ wsX6_restoreSnapshot_r3)) ++ wsX60 ++ wsX80 ++ wsX50 ++ wsX30 ++ wsX00)
def wsX6_snapshotsTaken : List Cond := .code yX6_snapshotsTaken cX6_snapshotsTaken 3 (some .int) :: ([.fieldLink RX6 22 "PromiseWheel$State" "taken" "[Z"] ++ wsX60)
def wsX7_length : List Cond := .code yX7_length cX7_length 1 (some .int) :: ([.fieldLink RX7 15 "PromiseWheel$Text" "length" "I"] ++ wsX70)
def wsX7_add : List Cond := .code yX7_add cX7_add 2 (some .int) :: ([.fieldLink RX7 15 "PromiseWheel$Text" "length" "I", .fieldLink RX7 9 "PromiseWheel$Text" "characters" "[I"] ++ wsX70)
def wsX7_makeEmpty : List Cond := .code yX7_makeEmpty cX7_makeEmpty 2 (some .int) :: ([.fieldLink RX7 15 "PromiseWheel$Text" "length" "I"] ++ wsX70)
def wsX8_addPromise_r1 : List Cond := [Cond.fieldLink RX8 12 "PromiseWheel$Wheel" "promises" "LPromiseWheel$Promises;", Cond.fieldLink RX8 49 "PromiseWheel$Wheel" "now" "I", Cond.fieldLink RX8 21 "PromiseWheel$Wheel" "lines" "LPromiseWheel$Lines;", Cond.methodLink RX8 73 yX5_given, Cond.instanceMethod yX5_given, Cond.selects RX5 yX5_given yX5_given, Cond.initialized RX5, Cond.code yX5_given cX5_given 1 (some .int), Cond.fieldLink RX5 21 "PromiseWheel$Promises" "given" "I", Cond.methodLink RX8 77 yX5_add, Cond.instanceMethod yX5_add, Cond.selects RX5 yX5_add yX5_add, Cond.code yX5_add cX5_add 5 (some .int), Cond.methodLink RX5 29 yX5_write, Cond.instanceMethod yX5_write, Cond.selects RX5 yX5_write yX5_write, Cond.code yX5_write cX5_write 4 none, Cond.fieldLink RX5 11 "PromiseWheel$Promises" "facts" "[I", Cond.methodLink RX8 81 yX8_lineFor, Cond.instanceMethod yX8_lineFor, Cond.selects RX8 yX8_lineFor yX8_lineFor, Cond.initialized RX8, Cond.code yX8_lineFor cX8_lineFor 3 (some .int), Cond.methodLink RX8 85 yX3_join]
def wsX8_addPromise_r2 : List Cond := [Cond.instanceMethod yX3_join, Cond.selects RX3 yX3_join yX3_join, Cond.initialized RX3, Cond.code yX3_join cX3_join 4 none, Cond.fieldLink RX3 15 "PromiseWheel$Lines" "last" "[I", Cond.fieldLink RX3 9 "PromiseWheel$Lines" "first" "[I", Cond.fieldLink RX3 24 "PromiseWheel$Lines" "behind" "[I", Cond.fieldLink RX3 21 "PromiseWheel$Lines" "line" "[I", Cond.fieldLink RX3 18 "PromiseWheel$Lines" "length" "[I"]
def wsX8_addPromise : List Cond := .code yX8_addPromise cX8_addPromise 7 (some .int) :: ((wsX8_addPromise_r1 ++ wsX8_addPromise_r2) ++ wsX80 ++ wsX50 ++ wsX30)
def wsX8_breakPromise : List Cond := .code yX8_breakPromise cX8_breakPromise 2 (some .int) :: ([.fieldLink RX8 12 "PromiseWheel$Wheel" "promises" "LPromiseWheel$Promises;", .fieldLink RX8 55 "PromiseWheel$Wheel" "brokenStanding" "I", .methodLink RX8 89 yX5_has, .instanceMethod yX5_has, .selects RX5 yX5_has yX5_has, .initialized RX5, .code yX5_has cX5_has 2 (some .boolean), .fieldLink RX5 21 "PromiseWheel$Promises" "given" "I", .methodLink RX8 93 yX5_isAlive, .instanceMethod yX5_isAlive, .selects RX5 yX5_isAlive yX5_isAlive, .code yX5_isAlive cX5_isAlive 3 (some .boolean), .methodLink RX5 25 yX5_fact, .instanceMethod yX5_fact, .selects RX5 yX5_fact yX5_fact, .code yX5_fact cX5_fact 3 (some .int), .fieldLink RX5 11 "PromiseWheel$Promises" "facts" "[I", .methodLink RX8 96 yX5_write, .instanceMethod yX5_write, .selects RX5 yX5_write yX5_write, .code yX5_write cX5_write 4 none] ++ wsX80 ++ wsX50)
def wsX8_movePromise_r1 : List Cond := [Cond.fieldLink RX8 12 "PromiseWheel$Wheel" "promises" "LPromiseWheel$Promises;", Cond.fieldLink RX8 49 "PromiseWheel$Wheel" "now" "I", Cond.fieldLink RX8 21 "PromiseWheel$Wheel" "lines" "LPromiseWheel$Lines;", Cond.methodLink RX8 89 yX5_has, Cond.instanceMethod yX5_has, Cond.selects RX5 yX5_has yX5_has, Cond.initialized RX5, Cond.code yX5_has cX5_has 2 (some .boolean), Cond.fieldLink RX5 21 "PromiseWheel$Promises" "given" "I", Cond.methodLink RX8 100 yX5_isIn, Cond.instanceMethod yX5_isIn, Cond.selects RX5 yX5_isIn yX5_isIn, Cond.code yX5_isIn cX5_isIn 3 (some .boolean), Cond.methodLink RX5 25 yX5_fact, Cond.instanceMethod yX5_fact, Cond.selects RX5 yX5_fact yX5_fact, Cond.code yX5_fact cX5_fact 3 (some .int), Cond.fieldLink RX5 11 "PromiseWheel$Promises" "facts" "[I", Cond.methodLink RX8 104 yX5_fact, Cond.methodLink RX8 108 yX3_leave, Cond.instanceMethod yX3_leave, Cond.selects RX3 yX3_leave yX3_leave, Cond.initialized RX3, Cond.code yX3_leave cX3_leave 6 none]
def wsX8_movePromise_r2 : List Cond := [Cond.fieldLink RX3 9 "PromiseWheel$Lines" "first" "[I", Cond.fieldLink RX3 24 "PromiseWheel$Lines" "behind" "[I", Cond.fieldLink RX3 15 "PromiseWheel$Lines" "last" "[I", Cond.fieldLink RX3 21 "PromiseWheel$Lines" "line" "[I", Cond.fieldLink RX3 18 "PromiseWheel$Lines" "length" "[I", Cond.methodLink RX3 49 yX3_lineOf, Cond.instanceMethod yX3_lineOf, Cond.selects RX3 yX3_lineOf yX3_lineOf, Cond.code yX3_lineOf cX3_lineOf 2 (some .int), Cond.methodLink RX3 46 yX3_follower, Cond.instanceMethod yX3_follower, Cond.selects RX3 yX3_follower yX3_follower, Cond.code yX3_follower cX3_follower 2 (some .int), Cond.methodLink RX8 96 yX5_write, Cond.instanceMethod yX5_write, Cond.selects RX5 yX5_write yX5_write, Cond.code yX5_write cX5_write 4 none, Cond.methodLink RX8 81 yX8_lineFor, Cond.instanceMethod yX8_lineFor, Cond.selects RX8 yX8_lineFor yX8_lineFor, Cond.initialized RX8, Cond.code yX8_lineFor cX8_lineFor 3 (some .int), Cond.methodLink RX8 85 yX3_join, Cond.instanceMethod yX3_join]
def wsX8_movePromise_r3 : List Cond := [Cond.selects RX3 yX3_join yX3_join, Cond.code yX3_join cX3_join 4 none]
def wsX8_movePromise : List Cond := .code yX8_movePromise cX8_movePromise 5 (some .int) :: ((wsX8_movePromise_r1 ++ (wsX8_movePromise_r2 ++ wsX8_movePromise_r3)) ++ wsX80 ++ wsX50 ++ wsX30)
def wsX8_passTicks_r1 : List Cond := [Cond.fieldLink RX8 49 "PromiseWheel$Wheel" "now" "I", Cond.fieldLink RX8 28 "PromiseWheel$Wheel" "diary" "LPromiseWheel$Diary;", Cond.methodLink RX8 112 yX0_calls, Cond.instanceMethod yX0_calls, Cond.selects RX0 yX0_calls yX0_calls, Cond.initialized RX0, Cond.code yX0_calls cX0_calls 1 (some .int), Cond.fieldLink RX0 21 "PromiseWheel$Diary" "calls" "I", Cond.methodLink RX8 115 yX8_passTick, Cond.instanceMethod yX8_passTick, Cond.selects RX8 yX8_passTick yX8_passTick, Cond.initialized RX8, Cond.code yX8_passTick cX8_passTick 1 none, Cond.fieldLink RX8 55 "PromiseWheel$Wheel" "brokenStanding" "I", Cond.fieldLink RX8 36 "PromiseWheel$Wheel" "bound" "I", Cond.fieldLink RX8 70 "PromiseWheel$Wheel" "longestQueue" "I", Cond.fieldLink RX8 21 "PromiseWheel$Wheel" "lines" "LPromiseWheel$Lines;", Cond.methodLink RX8 139 Lib.Math.max.name, Cond.static Lib.Math.max.name, Cond.initialized "java/lang/Math", Cond.code Lib.Math.max.name Lib.Math.max.code 2 (some .int), Cond.methodLink RX8 124 yX8_letFall, Cond.instanceMethod yX8_letFall, Cond.selects RX8 yX8_letFall yX8_letFall]
def wsX8_passTicks_r2 : List Cond := [Cond.code yX8_letFall cX8_letFall 6 none, Cond.fieldLink RX8 12 "PromiseWheel$Wheel" "promises" "LPromiseWheel$Promises;", Cond.fieldLink RX8 61 "PromiseWheel$Wheel" "falls" "I", Cond.methodLink RX8 144 yX8_presentSlot, Cond.instanceMethod yX8_presentSlot, Cond.selects RX8 yX8_presentSlot yX8_presentSlot, Cond.code yX8_presentSlot cX8_presentSlot 2 (some .int), Cond.methodLink RX8 136 yX3_lengthOf, Cond.instanceMethod yX3_lengthOf, Cond.selects RX3 yX3_lengthOf yX3_lengthOf, Cond.initialized RX3, Cond.code yX3_lengthOf cX3_lengthOf 2 (some .int), Cond.fieldLink RX3 18 "PromiseWheel$Lines" "length" "[I", Cond.methodLink RX8 147 yX3_frontOf, Cond.instanceMethod yX3_frontOf, Cond.selects RX3 yX3_frontOf yX3_frontOf, Cond.code yX3_frontOf cX3_frontOf 2 (some .int), Cond.fieldLink RX3 9 "PromiseWheel$Lines" "first" "[I", Cond.methodLink RX8 108 yX3_leave, Cond.instanceMethod yX3_leave, Cond.selects RX3 yX3_leave yX3_leave, Cond.code yX3_leave cX3_leave 6 none, Cond.fieldLink RX3 24 "PromiseWheel$Lines" "behind" "[I", Cond.fieldLink RX3 15 "PromiseWheel$Lines" "last" "[I"]
def wsX8_passTicks_r3 : List Cond := [Cond.fieldLink RX3 21 "PromiseWheel$Lines" "line" "[I", Cond.methodLink RX3 49 yX3_lineOf, Cond.instanceMethod yX3_lineOf, Cond.selects RX3 yX3_lineOf yX3_lineOf, Cond.code yX3_lineOf cX3_lineOf 2 (some .int), Cond.methodLink RX3 46 yX3_follower, Cond.instanceMethod yX3_follower, Cond.selects RX3 yX3_follower yX3_follower, Cond.code yX3_follower cX3_follower 2 (some .int), Cond.methodLink RX8 100 yX5_isIn, Cond.instanceMethod yX5_isIn, Cond.selects RX5 yX5_isIn yX5_isIn, Cond.initialized RX5, Cond.code yX5_isIn cX5_isIn 3 (some .boolean), Cond.methodLink RX5 25 yX5_fact, Cond.instanceMethod yX5_fact, Cond.selects RX5 yX5_fact yX5_fact, Cond.code yX5_fact cX5_fact 3 (some .int), Cond.fieldLink RX5 11 "PromiseWheel$Promises" "facts" "[I", Cond.methodLink RX8 118 yX8_noteSwept, Cond.instanceMethod yX8_noteSwept, Cond.selects RX8 yX8_noteSwept yX8_noteSwept, Cond.code yX8_noteSwept cX8_noteSwept 2 none, Cond.fieldLink RX8 64 "PromiseWheel$Wheel" "swept" "I"]
def wsX8_passTicks_r4 : List Cond := [Cond.methodLink RX8 96 yX5_write, Cond.instanceMethod yX5_write, Cond.selects RX5 yX5_write yX5_write, Cond.code yX5_write cX5_write 4 none, Cond.methodLink RX8 104 yX5_fact, Cond.methodLink RX8 81 yX8_lineFor, Cond.instanceMethod yX8_lineFor, Cond.selects RX8 yX8_lineFor yX8_lineFor, Cond.code yX8_lineFor cX8_lineFor 3 (some .int), Cond.methodLink RX8 85 yX3_join, Cond.instanceMethod yX3_join, Cond.selects RX3 yX3_join yX3_join, Cond.code yX3_join cX3_join 4 none, Cond.methodLink RX8 127 yX8_letArrive, Cond.instanceMethod yX8_letArrive, Cond.selects RX8 yX8_letArrive yX8_letArrive, Cond.code yX8_letArrive cX8_letArrive 5 none, Cond.methodLink RX8 130 yX8_serveQueue, Cond.instanceMethod yX8_serveQueue, Cond.selects RX8 yX8_serveQueue yX8_serveQueue, Cond.code yX8_serveQueue cX8_serveQueue 5 none, Cond.fieldLink RX8 32 "PromiseWheel$Wheel" "room" "I", Cond.methodLink RX8 150 yX8_callPromise, Cond.instanceMethod yX8_callPromise]
def wsX8_passTicks_r5 : List Cond := [Cond.selects RX8 yX8_callPromise yX8_callPromise, Cond.code yX8_callPromise cX8_callPromise 6 none, Cond.fieldLink RX8 58 "PromiseWheel$Wheel" "lateCalls" "I", Cond.methodLink RX8 153 yX0_write, Cond.instanceMethod yX0_write, Cond.selects RX0 yX0_write yX0_write, Cond.code yX0_write cX0_write 5 none, Cond.fieldLink RX0 11 "PromiseWheel$Diary" "facts" "[I", Cond.methodLink RX0 25 yJ9_floorMod_7cf53, Cond.static yJ9_floorMod_7cf53, Cond.initialized RJ9, Cond.code yJ9_floorMod_7cf53 cJ9_floorMod_7cf53 3 (some .int), Cond.methodLink RX8 154 yX8_dueOfRepetition, Cond.instanceMethod yX8_dueOfRepetition, Cond.selects RX8 yX8_dueOfRepetition yX8_dueOfRepetition, Cond.code yX8_dueOfRepetition cX8_dueOfRepetition 4 (some .int), Cond.fieldLink RX8 52 "PromiseWheel$Wheel" "drift" "I", Cond.fieldLink RX8 67 "PromiseWheel$Wheel" "passedOver" "I", Cond.methodLink RX8 133 yX8_sweepAll, Cond.instanceMethod yX8_sweepAll, Cond.selects RX8 yX8_sweepAll yX8_sweepAll, Cond.code yX8_sweepAll cX8_sweepAll 3 (some .int), Cond.methodLink RX8 73 yX5_given, Cond.instanceMethod yX5_given]
def wsX8_passTicks_r6 : List Cond := [Cond.selects RX5 yX5_given yX5_given, Cond.code yX5_given cX5_given 1 (some .int), Cond.fieldLink RX5 21 "PromiseWheel$Promises" "given" "I"]
def wsX8_passTicks : List Cond := .code yX8_passTicks cX8_passTicks 4 (some .int) :: ((wsX8_passTicks_r1 ++ (wsX8_passTicks_r2 ++ (wsX8_passTicks_r3 ++ (wsX8_passTicks_r4 ++ (wsX8_passTicks_r5 ++ wsX8_passTicks_r6))))) ++ wsX80 ++ wsX00 ++ wsX30 ++ wsX50)
def wsX8_setting : List Cond := .code yX8_setting cX8_setting 2 (some .int) :: ([.fieldLink RX8 32 "PromiseWheel$Wheel" "room" "I", .fieldLink RX8 36 "PromiseWheel$Wheel" "bound" "I", .fieldLink RX8 52 "PromiseWheel$Wheel" "drift" "I"] ++ wsX80)
def wsX8_changeSetting : List Cond := .code yX8_changeSetting cX8_changeSetting 4 (some .int) :: ([.fieldLink RX8 32 "PromiseWheel$Wheel" "room" "I", .fieldLink RX8 36 "PromiseWheel$Wheel" "bound" "I", .fieldLink RX8 52 "PromiseWheel$Wheel" "drift" "I", .methodLink RX8 121 yX8_setting, .instanceMethod yX8_setting, .selects RX8 yX8_setting yX8_setting, .initialized RX8, .code yX8_setting cX8_setting 2 (some .int)] ++ wsX80)
def wsX8_figure_r1 : List Cond := [Cond.fieldLink RX8 49 "PromiseWheel$Wheel" "now" "I", Cond.fieldLink RX8 12 "PromiseWheel$Wheel" "promises" "LPromiseWheel$Promises;", Cond.fieldLink RX8 55 "PromiseWheel$Wheel" "brokenStanding" "I", Cond.fieldLink RX8 28 "PromiseWheel$Wheel" "diary" "LPromiseWheel$Diary;", Cond.fieldLink RX8 58 "PromiseWheel$Wheel" "lateCalls" "I", Cond.fieldLink RX8 61 "PromiseWheel$Wheel" "falls" "I", Cond.fieldLink RX8 64 "PromiseWheel$Wheel" "swept" "I", Cond.fieldLink RX8 67 "PromiseWheel$Wheel" "passedOver" "I", Cond.fieldLink RX8 70 "PromiseWheel$Wheel" "longestQueue" "I", Cond.methodLink RX8 73 yX5_given, Cond.instanceMethod yX5_given, Cond.selects RX5 yX5_given yX5_given, Cond.initialized RX5, Cond.code yX5_given cX5_given 1 (some .int), Cond.fieldLink RX5 21 "PromiseWheel$Promises" "given" "I", Cond.methodLink RX8 157 yX5_howManyIn, Cond.instanceMethod yX5_howManyIn, Cond.selects RX5 yX5_howManyIn yX5_howManyIn, Cond.code yX5_howManyIn cX5_howManyIn 4 (some .int), Cond.methodLink RX5 33 yX5_isIn, Cond.instanceMethod yX5_isIn, Cond.selects RX5 yX5_isIn yX5_isIn, Cond.code yX5_isIn cX5_isIn 3 (some .boolean), Cond.methodLink RX5 25 yX5_fact]
def wsX8_figure_r2 : List Cond := [Cond.instanceMethod yX5_fact, Cond.selects RX5 yX5_fact yX5_fact, Cond.code yX5_fact cX5_fact 3 (some .int), Cond.fieldLink RX5 11 "PromiseWheel$Promises" "facts" "[I", Cond.methodLink RX8 112 yX0_calls, Cond.instanceMethod yX0_calls, Cond.selects RX0 yX0_calls yX0_calls, Cond.initialized RX0, Cond.code yX0_calls cX0_calls 1 (some .int), Cond.fieldLink RX0 21 "PromiseWheel$Diary" "calls" "I", Cond.methodLink RX8 121 yX8_setting, Cond.instanceMethod yX8_setting, Cond.selects RX8 yX8_setting yX8_setting, Cond.initialized RX8, Cond.code yX8_setting cX8_setting 2 (some .int), Cond.fieldLink RX8 32 "PromiseWheel$Wheel" "room" "I", Cond.fieldLink RX8 36 "PromiseWheel$Wheel" "bound" "I", Cond.fieldLink RX8 52 "PromiseWheel$Wheel" "drift" "I"]
def wsX8_figure : List Cond := .code yX8_figure cX8_figure 2 (some .int) :: ((wsX8_figure_r1 ++ wsX8_figure_r2) ++ wsX80 ++ wsX50 ++ wsX00)
def wsX8_tellPromise_r1 : List Cond := [Cond.fieldLink RX8 21 "PromiseWheel$Wheel" "lines" "LPromiseWheel$Lines;", Cond.fieldLink RX8 12 "PromiseWheel$Wheel" "promises" "LPromiseWheel$Promises;", Cond.methodLink RX8 160 yX3_lineOf, Cond.instanceMethod yX3_lineOf, Cond.selects RX3 yX3_lineOf yX3_lineOf, Cond.initialized RX3, Cond.code yX3_lineOf cX3_lineOf 2 (some .int), Cond.fieldLink RX3 21 "PromiseWheel$Lines" "line" "[I", Cond.methodLink RX8 104 yX5_fact, Cond.instanceMethod yX5_fact, Cond.selects RX5 yX5_fact yX5_fact, Cond.initialized RX5, Cond.code yX5_fact cX5_fact 3 (some .int), Cond.fieldLink RX5 11 "PromiseWheel$Promises" "facts" "[I", Cond.methodLink RX8 163 yX3_placeOf, Cond.instanceMethod yX3_placeOf, Cond.selects RX3 yX3_placeOf yX3_placeOf, Cond.code yX3_placeOf cX3_placeOf 6 (some .int), Cond.methodLink RX3 49 yX3_lineOf, Cond.methodLink RX3 39 yX3_lengthOf, Cond.instanceMethod yX3_lengthOf, Cond.selects RX3 yX3_lengthOf yX3_lengthOf, Cond.code yX3_lengthOf cX3_lengthOf 2 (some .int), Cond.fieldLink RX3 18 "PromiseWheel$Lines" "length" "[I"]
def wsX8_tellPromise_r2 : List Cond := [Cond.methodLink RX3 43 yX3_frontOf, Cond.instanceMethod yX3_frontOf, Cond.selects RX3 yX3_frontOf yX3_frontOf, Cond.code yX3_frontOf cX3_frontOf 2 (some .int), Cond.fieldLink RX3 9 "PromiseWheel$Lines" "first" "[I", Cond.methodLink RX3 46 yX3_follower, Cond.instanceMethod yX3_follower, Cond.selects RX3 yX3_follower yX3_follower, Cond.code yX3_follower cX3_follower 2 (some .int), Cond.fieldLink RX3 24 "PromiseWheel$Lines" "behind" "[I"]
def wsX8_tellPromise : List Cond := .code yX8_tellPromise cX8_tellPromise 5 (some .int) :: ((wsX8_tellPromise_r1 ++ wsX8_tellPromise_r2) ++ wsX80 ++ wsX30 ++ wsX50)
def wsX8_brokenIn_r1 : List Cond := [Cond.fieldLink RX8 21 "PromiseWheel$Wheel" "lines" "LPromiseWheel$Lines;", Cond.fieldLink RX8 12 "PromiseWheel$Wheel" "promises" "LPromiseWheel$Promises;", Cond.methodLink RX8 136 yX3_lengthOf, Cond.instanceMethod yX3_lengthOf, Cond.selects RX3 yX3_lengthOf yX3_lengthOf, Cond.initialized RX3, Cond.code yX3_lengthOf cX3_lengthOf 2 (some .int), Cond.fieldLink RX3 18 "PromiseWheel$Lines" "length" "[I", Cond.methodLink RX8 147 yX3_frontOf, Cond.instanceMethod yX3_frontOf, Cond.selects RX3 yX3_frontOf yX3_frontOf, Cond.code yX3_frontOf cX3_frontOf 2 (some .int), Cond.fieldLink RX3 9 "PromiseWheel$Lines" "first" "[I", Cond.methodLink RX8 100 yX5_isIn, Cond.instanceMethod yX5_isIn, Cond.selects RX5 yX5_isIn yX5_isIn, Cond.initialized RX5, Cond.code yX5_isIn cX5_isIn 3 (some .boolean), Cond.methodLink RX5 25 yX5_fact, Cond.instanceMethod yX5_fact, Cond.selects RX5 yX5_fact yX5_fact, Cond.code yX5_fact cX5_fact 3 (some .int), Cond.fieldLink RX5 11 "PromiseWheel$Promises" "facts" "[I", Cond.methodLink RX8 172 yX3_follower]
def wsX8_brokenIn_r2 : List Cond := [Cond.instanceMethod yX3_follower, Cond.selects RX3 yX3_follower yX3_follower, Cond.code yX3_follower cX3_follower 2 (some .int), Cond.fieldLink RX3 24 "PromiseWheel$Lines" "behind" "[I"]
def wsX8_brokenIn : List Cond := .code yX8_brokenIn cX8_brokenIn 6 (some .int) :: ((wsX8_brokenIn_r1 ++ wsX8_brokenIn_r2) ++ wsX80 ++ wsX30 ++ wsX50)
def wsX8_earliestIn_r1 : List Cond := [Cond.fieldLink RX8 21 "PromiseWheel$Wheel" "lines" "LPromiseWheel$Lines;", Cond.fieldLink RX8 12 "PromiseWheel$Wheel" "promises" "LPromiseWheel$Promises;", Cond.methodLink RX8 136 yX3_lengthOf, Cond.instanceMethod yX3_lengthOf, Cond.selects RX3 yX3_lengthOf yX3_lengthOf, Cond.initialized RX3, Cond.code yX3_lengthOf cX3_lengthOf 2 (some .int), Cond.fieldLink RX3 18 "PromiseWheel$Lines" "length" "[I", Cond.methodLink RX8 147 yX3_frontOf, Cond.instanceMethod yX3_frontOf, Cond.selects RX3 yX3_frontOf yX3_frontOf, Cond.code yX3_frontOf cX3_frontOf 2 (some .int), Cond.fieldLink RX3 9 "PromiseWheel$Lines" "first" "[I", Cond.methodLink RX8 100 yX5_isIn, Cond.instanceMethod yX5_isIn, Cond.selects RX5 yX5_isIn yX5_isIn, Cond.initialized RX5, Cond.code yX5_isIn cX5_isIn 3 (some .boolean), Cond.methodLink RX5 25 yX5_fact, Cond.instanceMethod yX5_fact, Cond.selects RX5 yX5_fact yX5_fact, Cond.code yX5_fact cX5_fact 3 (some .int), Cond.fieldLink RX5 11 "PromiseWheel$Promises" "facts" "[I", Cond.methodLink RX8 175 yX5_earlier]
def wsX8_earliestIn_r2 : List Cond := [Cond.instanceMethod yX5_earlier, Cond.selects RX5 yX5_earlier yX5_earlier, Cond.code yX5_earlier cX5_earlier 5 (some .int), Cond.methodLink RX5 37 Lib.Math.min.name, Cond.static Lib.Math.min.name, Cond.initialized "java/lang/Math", Cond.code Lib.Math.min.name Lib.Math.min.code 2 (some .int), Cond.methodLink RX8 172 yX3_follower, Cond.instanceMethod yX3_follower, Cond.selects RX3 yX3_follower yX3_follower, Cond.code yX3_follower cX3_follower 2 (some .int), Cond.fieldLink RX3 24 "PromiseWheel$Lines" "behind" "[I"]
def wsX8_earliestIn : List Cond := .code yX8_earliestIn cX8_earliestIn 6 (some .int) :: ((wsX8_earliestIn_r1 ++ wsX8_earliestIn_r2) ++ wsX80 ++ wsX30 ++ wsX50)
def wsX8_tellLine_r1 : List Cond := [Cond.fieldLink RX8 21 "PromiseWheel$Wheel" "lines" "LPromiseWheel$Lines;", Cond.fieldLink RX8 12 "PromiseWheel$Wheel" "promises" "LPromiseWheel$Promises;", Cond.methodLink RX8 136 yX3_lengthOf, Cond.instanceMethod yX3_lengthOf, Cond.selects RX3 yX3_lengthOf yX3_lengthOf, Cond.initialized RX3, Cond.code yX3_lengthOf cX3_lengthOf 2 (some .int), Cond.fieldLink RX3 18 "PromiseWheel$Lines" "length" "[I", Cond.methodLink RX8 166 yX8_brokenIn, Cond.instanceMethod yX8_brokenIn, Cond.selects RX8 yX8_brokenIn yX8_brokenIn, Cond.initialized RX8, Cond.code yX8_brokenIn cX8_brokenIn 6 (some .int), Cond.methodLink RX8 147 yX3_frontOf, Cond.instanceMethod yX3_frontOf, Cond.selects RX3 yX3_frontOf yX3_frontOf, Cond.code yX3_frontOf cX3_frontOf 2 (some .int), Cond.fieldLink RX3 9 "PromiseWheel$Lines" "first" "[I", Cond.methodLink RX8 100 yX5_isIn, Cond.instanceMethod yX5_isIn, Cond.selects RX5 yX5_isIn yX5_isIn, Cond.initialized RX5, Cond.code yX5_isIn cX5_isIn 3 (some .boolean), Cond.methodLink RX5 25 yX5_fact]
def wsX8_tellLine_r2 : List Cond := [Cond.instanceMethod yX5_fact, Cond.selects RX5 yX5_fact yX5_fact, Cond.code yX5_fact cX5_fact 3 (some .int), Cond.fieldLink RX5 11 "PromiseWheel$Promises" "facts" "[I", Cond.methodLink RX8 172 yX3_follower, Cond.instanceMethod yX3_follower, Cond.selects RX3 yX3_follower yX3_follower, Cond.code yX3_follower cX3_follower 2 (some .int), Cond.fieldLink RX3 24 "PromiseWheel$Lines" "behind" "[I", Cond.methodLink RX8 169 yX8_earliestIn, Cond.instanceMethod yX8_earliestIn, Cond.selects RX8 yX8_earliestIn yX8_earliestIn, Cond.code yX8_earliestIn cX8_earliestIn 6 (some .int), Cond.methodLink RX8 175 yX5_earlier, Cond.instanceMethod yX5_earlier, Cond.selects RX5 yX5_earlier yX5_earlier, Cond.code yX5_earlier cX5_earlier 5 (some .int), Cond.methodLink RX5 37 Lib.Math.min.name, Cond.static Lib.Math.min.name, Cond.initialized "java/lang/Math", Cond.code Lib.Math.min.name Lib.Math.min.code 2 (some .int), Cond.methodLink RX8 104 yX5_fact]
def wsX8_tellLine : List Cond := .code yX8_tellLine cX8_tellLine 4 (some .int) :: ((wsX8_tellLine_r1 ++ wsX8_tellLine_r2) ++ wsX80 ++ wsX30 ++ wsX50)
def wsX8_earliestOfAll : List Cond := .code yX8_earliestOfAll cX8_earliestOfAll 3 (some .int) :: ([.fieldLink RX8 12 "PromiseWheel$Wheel" "promises" "LPromiseWheel$Promises;", .methodLink RX8 73 yX5_given, .instanceMethod yX5_given, .selects RX5 yX5_given yX5_given, .initialized RX5, .code yX5_given cX5_given 1 (some .int), .fieldLink RX5 21 "PromiseWheel$Promises" "given" "I", .methodLink RX8 100 yX5_isIn, .instanceMethod yX5_isIn, .selects RX5 yX5_isIn yX5_isIn, .code yX5_isIn cX5_isIn 3 (some .boolean), .methodLink RX5 25 yX5_fact, .instanceMethod yX5_fact, .selects RX5 yX5_fact yX5_fact, .code yX5_fact cX5_fact 3 (some .int), .fieldLink RX5 11 "PromiseWheel$Promises" "facts" "[I", .methodLink RX8 175 yX5_earlier, .instanceMethod yX5_earlier, .selects RX5 yX5_earlier yX5_earlier, .code yX5_earlier cX5_earlier 5 (some .int), .methodLink RX5 37 Lib.Math.min.name, .static Lib.Math.min.name, .initialized "java/lang/Math", .code Lib.Math.min.name Lib.Math.min.code 2 (some .int)] ++ wsX80 ++ wsX50)
def wsX8_earliestInRing_r1 : List Cond := [Cond.methodLink RX8 144 yX8_presentSlot, Cond.instanceMethod yX8_presentSlot, Cond.selects RX8 yX8_presentSlot yX8_presentSlot, Cond.initialized RX8, Cond.code yX8_presentSlot cX8_presentSlot 2 (some .int), Cond.fieldLink RX8 49 "PromiseWheel$Wheel" "now" "I", Cond.methodLink RX8 169 yX8_earliestIn, Cond.instanceMethod yX8_earliestIn, Cond.selects RX8 yX8_earliestIn yX8_earliestIn, Cond.code yX8_earliestIn cX8_earliestIn 6 (some .int), Cond.fieldLink RX8 21 "PromiseWheel$Wheel" "lines" "LPromiseWheel$Lines;", Cond.fieldLink RX8 12 "PromiseWheel$Wheel" "promises" "LPromiseWheel$Promises;", Cond.methodLink RX8 136 yX3_lengthOf, Cond.instanceMethod yX3_lengthOf, Cond.selects RX3 yX3_lengthOf yX3_lengthOf, Cond.initialized RX3, Cond.code yX3_lengthOf cX3_lengthOf 2 (some .int), Cond.fieldLink RX3 18 "PromiseWheel$Lines" "length" "[I", Cond.methodLink RX8 147 yX3_frontOf, Cond.instanceMethod yX3_frontOf, Cond.selects RX3 yX3_frontOf yX3_frontOf, Cond.code yX3_frontOf cX3_frontOf 2 (some .int), Cond.fieldLink RX3 9 "PromiseWheel$Lines" "first" "[I", Cond.methodLink RX8 100 yX5_isIn]
def wsX8_earliestInRing_r2 : List Cond := [Cond.instanceMethod yX5_isIn, Cond.selects RX5 yX5_isIn yX5_isIn, Cond.initialized RX5, Cond.code yX5_isIn cX5_isIn 3 (some .boolean), Cond.methodLink RX5 25 yX5_fact, Cond.instanceMethod yX5_fact, Cond.selects RX5 yX5_fact yX5_fact, Cond.code yX5_fact cX5_fact 3 (some .int), Cond.fieldLink RX5 11 "PromiseWheel$Promises" "facts" "[I", Cond.methodLink RX8 175 yX5_earlier, Cond.instanceMethod yX5_earlier, Cond.selects RX5 yX5_earlier yX5_earlier, Cond.code yX5_earlier cX5_earlier 5 (some .int), Cond.methodLink RX5 37 Lib.Math.min.name, Cond.static Lib.Math.min.name, Cond.initialized "java/lang/Math", Cond.code Lib.Math.min.name Lib.Math.min.code 2 (some .int), Cond.methodLink RX8 172 yX3_follower, Cond.instanceMethod yX3_follower, Cond.selects RX3 yX3_follower yX3_follower, Cond.code yX3_follower cX3_follower 2 (some .int), Cond.fieldLink RX3 24 "PromiseWheel$Lines" "behind" "[I"]
def wsX8_earliestInRing : List Cond := .code yX8_earliestInRing cX8_earliestInRing 5 (some .int) :: ((wsX8_earliestInRing_r1 ++ wsX8_earliestInRing_r2) ++ wsX80 ++ wsX30 ++ wsX50)
def wsX8_earliestByRings_r1 : List Cond := [Cond.fieldLink RX8 12 "PromiseWheel$Wheel" "promises" "LPromiseWheel$Promises;", Cond.methodLink RX8 178 yX8_earliestInRing, Cond.instanceMethod yX8_earliestInRing, Cond.selects RX8 yX8_earliestInRing yX8_earliestInRing, Cond.initialized RX8, Cond.code yX8_earliestInRing cX8_earliestInRing 5 (some .int), Cond.methodLink RX8 144 yX8_presentSlot, Cond.instanceMethod yX8_presentSlot, Cond.selects RX8 yX8_presentSlot yX8_presentSlot, Cond.code yX8_presentSlot cX8_presentSlot 2 (some .int), Cond.fieldLink RX8 49 "PromiseWheel$Wheel" "now" "I", Cond.methodLink RX8 169 yX8_earliestIn, Cond.instanceMethod yX8_earliestIn, Cond.selects RX8 yX8_earliestIn yX8_earliestIn, Cond.code yX8_earliestIn cX8_earliestIn 6 (some .int), Cond.fieldLink RX8 21 "PromiseWheel$Wheel" "lines" "LPromiseWheel$Lines;", Cond.methodLink RX8 136 yX3_lengthOf, Cond.instanceMethod yX3_lengthOf, Cond.selects RX3 yX3_lengthOf yX3_lengthOf, Cond.initialized RX3, Cond.code yX3_lengthOf cX3_lengthOf 2 (some .int), Cond.fieldLink RX3 18 "PromiseWheel$Lines" "length" "[I", Cond.methodLink RX8 147 yX3_frontOf, Cond.instanceMethod yX3_frontOf]
def wsX8_earliestByRings_r2 : List Cond := [Cond.selects RX3 yX3_frontOf yX3_frontOf, Cond.code yX3_frontOf cX3_frontOf 2 (some .int), Cond.fieldLink RX3 9 "PromiseWheel$Lines" "first" "[I", Cond.methodLink RX8 100 yX5_isIn, Cond.instanceMethod yX5_isIn, Cond.selects RX5 yX5_isIn yX5_isIn, Cond.initialized RX5, Cond.code yX5_isIn cX5_isIn 3 (some .boolean), Cond.methodLink RX5 25 yX5_fact, Cond.instanceMethod yX5_fact, Cond.selects RX5 yX5_fact yX5_fact, Cond.code yX5_fact cX5_fact 3 (some .int), Cond.fieldLink RX5 11 "PromiseWheel$Promises" "facts" "[I", Cond.methodLink RX8 175 yX5_earlier, Cond.instanceMethod yX5_earlier, Cond.selects RX5 yX5_earlier yX5_earlier, Cond.code yX5_earlier cX5_earlier 5 (some .int), Cond.methodLink RX5 37 Lib.Math.min.name, Cond.static Lib.Math.min.name, Cond.initialized "java/lang/Math", Cond.code Lib.Math.min.name Lib.Math.min.code 2 (some .int), Cond.methodLink RX8 172 yX3_follower, Cond.instanceMethod yX3_follower, Cond.selects RX3 yX3_follower yX3_follower]
def wsX8_earliestByRings_r3 : List Cond := [Cond.code yX3_follower cX3_follower 2 (some .int), Cond.fieldLink RX3 24 "PromiseWheel$Lines" "behind" "[I"]
def wsX8_earliestByRings : List Cond := .code yX8_earliestByRings cX8_earliestByRings 3 (some .int) :: ((wsX8_earliestByRings_r1 ++ (wsX8_earliestByRings_r2 ++ wsX8_earliestByRings_r3)) ++ wsX80 ++ wsX30 ++ wsX50)
def wsX9_init_r1 : List Cond := [Cond.methodLink RX9 3 objectInit, Cond.instanceMethod objectInit, Cond.code objectInit ⟨#[0xb1]⟩ 1 none, Cond.classLink RX9 9 RX6, Cond.instantiable RX6 3, Cond.initialized RX6, Cond.fieldLink RX9 12 "PromiseWheel" "state" "LPromiseWheel$State;", Cond.classLink RX9 16 RX2, Cond.instantiable RX2 3, Cond.initialized RX2, Cond.fieldLink RX9 19 "PromiseWheel" "history" "LPromiseWheel$History;", Cond.classLink RX9 23 RX4, Cond.instantiable RX4 8, Cond.initialized RX4, Cond.fieldLink RX9 26 "PromiseWheel" "program" "LPromiseWheel$Program;", Cond.classLink RX9 30 RX1, Cond.instantiable RX1 1, Cond.initialized RX1, Cond.fieldLink RX9 33 "PromiseWheel" "forecast" "LPromiseWheel$Forecast;", Cond.methodLink RX9 11 yX6_init, Cond.instanceMethod yX6_init, Cond.code yX6_init cX6_init 2 none, Cond.methodLink RX6 3 objectInit, Cond.classLink RX6 9 RX8]
def wsX9_init_r2 : List Cond := [Cond.instantiable RX8 13, Cond.initialized RX8, Cond.fieldLink RX6 12 "PromiseWheel$State" "wheel" "LPromiseWheel$Wheel;", Cond.fieldLink RX6 18 "PromiseWheel$State" "snapshots" "[LPromiseWheel$Wheel;", Cond.arrayClass .boolean, Cond.fieldLink RX6 22 "PromiseWheel$State" "taken" "[Z", Cond.instanceMethod yX8_init, Cond.code yX8_init cX8_init 1 none, Cond.methodLink RX8 3 objectInit, Cond.classLink RX8 9 RX5, Cond.instantiable RX5 2, Cond.initialized RX5, Cond.fieldLink RX8 12 "PromiseWheel$Wheel" "promises" "LPromiseWheel$Promises;", Cond.classLink RX8 18 RX3, Cond.instantiable RX3 5, Cond.initialized RX3, Cond.fieldLink RX8 21 "PromiseWheel$Wheel" "lines" "LPromiseWheel$Lines;", Cond.classLink RX8 25 RX0, Cond.instantiable RX0 2, Cond.initialized RX0, Cond.fieldLink RX8 28 "PromiseWheel$Wheel" "diary" "LPromiseWheel$Diary;", Cond.fieldLink RX8 32 "PromiseWheel$Wheel" "room" "I", Cond.fieldLink RX8 36 "PromiseWheel$Wheel" "bound" "I", Cond.instanceMethod yX5_init]
def wsX9_init_r3 : List Cond := [Cond.code yX5_init cX5_init 1 none, Cond.methodLink RX5 3 objectInit, Cond.arrayClass .int, Cond.fieldLink RX5 11 "PromiseWheel$Promises" "facts" "[I", Cond.methodLink RX8 20 yX3_init, Cond.instanceMethod yX3_init, Cond.code yX3_init cX3_init 1 none, Cond.methodLink RX3 3 objectInit, Cond.fieldLink RX3 9 "PromiseWheel$Lines" "first" "[I", Cond.fieldLink RX3 15 "PromiseWheel$Lines" "last" "[I", Cond.fieldLink RX3 18 "PromiseWheel$Lines" "length" "[I", Cond.fieldLink RX3 21 "PromiseWheel$Lines" "line" "[I", Cond.fieldLink RX3 24 "PromiseWheel$Lines" "behind" "[I", Cond.methodLink RX3 27 yJ7_fill_53178, Cond.static yJ7_fill_53178, Cond.initialized RJ7, Cond.code yJ7_fill_53178 cJ7_fill_53178 4 none, Cond.instanceMethod yX0_init, Cond.code yX0_init cX0_init 1 none, Cond.methodLink RX0 3 objectInit, Cond.fieldLink RX0 11 "PromiseWheel$Diary" "facts" "[I", Cond.methodLink RX9 18 yX2_init, Cond.instanceMethod yX2_init, Cond.code yX2_init cX2_init 2 none]
def wsX9_init_r4 : List Cond := [Cond.methodLink RX2 5 objectInit, Cond.classLink RX2 11 RX6, Cond.fieldLink RX2 13 "PromiseWheel$History" "rows" "[LPromiseWheel$State;", Cond.methodLink RX2 17 yX6_init, Cond.instanceMethod yX4_init, Cond.code yX4_init cX4_init 1 none, Cond.methodLink RX4 3 objectInit, Cond.classLink RX4 9 RX7, Cond.instantiable RX7 5, Cond.initialized RX7, Cond.fieldLink RX4 12 "PromiseWheel$Program" "text" "LPromiseWheel$Text;", Cond.fieldLink RX4 18 "PromiseWheel$Program" "numbers" "[I", Cond.fieldLink RX4 22 "PromiseWheel$Program" "failureParts" "[I", Cond.instanceMethod yX7_init, Cond.code yX7_init cX7_init 1 none, Cond.methodLink RX7 3 objectInit, Cond.fieldLink RX7 9 "PromiseWheel$Text" "characters" "[I", Cond.instanceMethod yX1_init, Cond.code yX1_init cX1_init 1 none, Cond.methodLink RX1 3 objectInit, Cond.classLink RX1 9 RX8, Cond.fieldLink RX1 12 "PromiseWheel$Forecast" "imagined" "LPromiseWheel$Wheel;"]
def wsX9_init : List Cond := .code yX9_init cX9_init 1 none :: ((wsX9_init_r1 ++ (wsX9_init_r2 ++ (wsX9_init_r3 ++ wsX9_init_r4))) ++ wsX60 ++ wsX90 ++ wsX20 ++ wsX40 ++ wsX10 ++ wsX80 ++ wsX50 ++ wsX30 ++ wsX00 ++ wsX70)
def wsX9_recorded : List Cond := .code yX9_recorded cX9_recorded 2 (some .int) :: ([.fieldLink RX9 19 "PromiseWheel" "history" "LPromiseWheel$History;", .methodLink RX9 189 yX2_keepNoted, .instanceMethod yX2_keepNoted, .selects RX2 yX2_keepNoted yX2_keepNoted, .initialized RX2, .code yX2_keepNoted cX2_keepNoted 1 none, .fieldLink RX2 22 "PromiseWheel$History" "noted" "I", .fieldLink RX2 18 "PromiseWheel$History" "states" "I", .methodLink RX2 33 Lib.Math.min.name, .static Lib.Math.min.name, .initialized "java/lang/Math", .code Lib.Math.min.name Lib.Math.min.code 2 (some .int)] ++ wsX90 ++ wsX20)
def wsX9_give_r1 : List Cond := [Cond.fieldLink RX9 19 "PromiseWheel" "history" "LPromiseWheel$History;", Cond.fieldLink RX9 12 "PromiseWheel" "state" "LPromiseWheel$State;", Cond.methodLink RX9 37 yX2_note, Cond.instanceMethod yX2_note, Cond.selects RX2 yX2_note yX2_note, Cond.initialized RX2, Cond.code yX2_note cX2_note 3 none, Cond.fieldLink RX2 22 "PromiseWheel$History" "noted" "I", Cond.methodLink RX2 25 yX2_rowAt, Cond.instanceMethod yX2_rowAt, Cond.selects RX2 yX2_rowAt yX2_rowAt, Cond.code yX2_rowAt cX2_rowAt 2 (some (.object "PromiseWheel$State")), Cond.fieldLink RX2 13 "PromiseWheel$History" "rows" "[LPromiseWheel$State;", Cond.methodLink RX2 29 yX6_copyFrom, Cond.instanceMethod yX6_copyFrom, Cond.selects RX6 yX6_copyFrom yX6_copyFrom, Cond.initialized RX6, Cond.code yX6_copyFrom cX6_copyFrom 5 none, Cond.fieldLink RX6 12 "PromiseWheel$State" "wheel" "LPromiseWheel$Wheel;", Cond.fieldLink RX6 22 "PromiseWheel$State" "taken" "[Z", Cond.fieldLink RX6 18 "PromiseWheel$State" "snapshots" "[LPromiseWheel$Wheel;", Cond.methodLink RX6 26 yX8_copyFrom, Cond.instanceMethod yX8_copyFrom, Cond.selects RX8 yX8_copyFrom yX8_copyFrom]
def wsX9_give_r2 : List Cond := [Cond.initialized RX8, Cond.code yX8_copyFrom cX8_copyFrom 2 none, Cond.fieldLink RX8 12 "PromiseWheel$Wheel" "promises" "LPromiseWheel$Promises;", Cond.fieldLink RX8 21 "PromiseWheel$Wheel" "lines" "LPromiseWheel$Lines;", Cond.fieldLink RX8 28 "PromiseWheel$Wheel" "diary" "LPromiseWheel$Diary;", Cond.fieldLink RX8 49 "PromiseWheel$Wheel" "now" "I", Cond.fieldLink RX8 32 "PromiseWheel$Wheel" "room" "I", Cond.fieldLink RX8 36 "PromiseWheel$Wheel" "bound" "I", Cond.fieldLink RX8 52 "PromiseWheel$Wheel" "drift" "I", Cond.fieldLink RX8 55 "PromiseWheel$Wheel" "brokenStanding" "I", Cond.fieldLink RX8 58 "PromiseWheel$Wheel" "lateCalls" "I", Cond.fieldLink RX8 61 "PromiseWheel$Wheel" "falls" "I", Cond.fieldLink RX8 64 "PromiseWheel$Wheel" "swept" "I", Cond.fieldLink RX8 67 "PromiseWheel$Wheel" "passedOver" "I", Cond.fieldLink RX8 70 "PromiseWheel$Wheel" "longestQueue" "I", Cond.methodLink RX8 39 yX5_copyFrom, Cond.instanceMethod yX5_copyFrom, Cond.selects RX5 yX5_copyFrom yX5_copyFrom, Cond.initialized RX5, Cond.code yX5_copyFrom cX5_copyFrom 2 none, Cond.fieldLink RX5 11 "PromiseWheel$Promises" "facts" "[I", Cond.methodLink RX5 15 arraycopyName, Cond.native arraycopyName, Cond.static arraycopyName]
def wsX9_give_r3 : List Cond := [Cond.initialized "java/lang/System", Cond.fieldLink RX5 21 "PromiseWheel$Promises" "given" "I", Cond.methodLink RX8 43 yX3_copyFrom, Cond.instanceMethod yX3_copyFrom, Cond.selects RX3 yX3_copyFrom yX3_copyFrom, Cond.initialized RX3, Cond.code yX3_copyFrom cX3_copyFrom 2 none, Cond.fieldLink RX3 9 "PromiseWheel$Lines" "first" "[I", Cond.methodLink RX3 33 arraycopyName, Cond.fieldLink RX3 15 "PromiseWheel$Lines" "last" "[I", Cond.fieldLink RX3 18 "PromiseWheel$Lines" "length" "[I", Cond.fieldLink RX3 21 "PromiseWheel$Lines" "line" "[I", Cond.fieldLink RX3 24 "PromiseWheel$Lines" "behind" "[I", Cond.methodLink RX8 46 yX0_copyFrom, Cond.instanceMethod yX0_copyFrom, Cond.selects RX0 yX0_copyFrom yX0_copyFrom, Cond.initialized RX0, Cond.code yX0_copyFrom cX0_copyFrom 2 none, Cond.fieldLink RX0 11 "PromiseWheel$Diary" "facts" "[I", Cond.methodLink RX0 15 arraycopyName, Cond.fieldLink RX0 21 "PromiseWheel$Diary" "calls" "I", Cond.methodLink RX9 45 yX8_addPromise, Cond.instanceMethod yX8_addPromise, Cond.selects RX8 yX8_addPromise yX8_addPromise]
def wsX9_give_r4 : List Cond := [Cond.code yX8_addPromise cX8_addPromise 7 (some .int), Cond.methodLink RX8 73 yX5_given, Cond.instanceMethod yX5_given, Cond.selects RX5 yX5_given yX5_given, Cond.code yX5_given cX5_given 1 (some .int), Cond.methodLink RX8 77 yX5_add, Cond.instanceMethod yX5_add, Cond.selects RX5 yX5_add yX5_add, Cond.code yX5_add cX5_add 5 (some .int), Cond.methodLink RX5 29 yX5_write, Cond.instanceMethod yX5_write, Cond.selects RX5 yX5_write yX5_write, Cond.code yX5_write cX5_write 4 none, Cond.methodLink RX8 81 yX8_lineFor, Cond.instanceMethod yX8_lineFor, Cond.selects RX8 yX8_lineFor yX8_lineFor, Cond.code yX8_lineFor cX8_lineFor 3 (some .int), Cond.methodLink RX8 85 yX3_join, Cond.instanceMethod yX3_join, Cond.selects RX3 yX3_join yX3_join, Cond.code yX3_join cX3_join 4 none, Cond.methodLink RX9 51 yX9_recorded, Cond.instanceMethod yX9_recorded, Cond.selects RX9 yX9_recorded yX9_recorded]
def wsX9_give_r5 : List Cond := [Cond.initialized RX9, Cond.code yX9_recorded cX9_recorded 2 (some .int), Cond.methodLink RX9 189 yX2_keepNoted, Cond.instanceMethod yX2_keepNoted, Cond.selects RX2 yX2_keepNoted yX2_keepNoted, Cond.code yX2_keepNoted cX2_keepNoted 1 none, Cond.fieldLink RX2 18 "PromiseWheel$History" "states" "I", Cond.methodLink RX2 33 Lib.Math.min.name, Cond.static Lib.Math.min.name, Cond.initialized "java/lang/Math", Cond.code Lib.Math.min.name Lib.Math.min.code 2 (some .int)]
def wsX9_give : List Cond := .code yX9_give cX9_give 4 (some .int) :: ((wsX9_give_r1 ++ (wsX9_give_r2 ++ (wsX9_give_r3 ++ (wsX9_give_r4 ++ wsX9_give_r5)))) ++ wsX90 ++ wsX60 ++ wsX20 ++ wsX80 ++ wsX50 ++ wsX30 ++ wsX00)
def wsX9_breakOff_r1 : List Cond := [Cond.fieldLink RX9 19 "PromiseWheel" "history" "LPromiseWheel$History;", Cond.fieldLink RX9 12 "PromiseWheel" "state" "LPromiseWheel$State;", Cond.methodLink RX9 37 yX2_note, Cond.instanceMethod yX2_note, Cond.selects RX2 yX2_note yX2_note, Cond.initialized RX2, Cond.code yX2_note cX2_note 3 none, Cond.fieldLink RX2 22 "PromiseWheel$History" "noted" "I", Cond.methodLink RX2 25 yX2_rowAt, Cond.instanceMethod yX2_rowAt, Cond.selects RX2 yX2_rowAt yX2_rowAt, Cond.code yX2_rowAt cX2_rowAt 2 (some (.object "PromiseWheel$State")), Cond.fieldLink RX2 13 "PromiseWheel$History" "rows" "[LPromiseWheel$State;", Cond.methodLink RX2 29 yX6_copyFrom, Cond.instanceMethod yX6_copyFrom, Cond.selects RX6 yX6_copyFrom yX6_copyFrom, Cond.initialized RX6, Cond.code yX6_copyFrom cX6_copyFrom 5 none, Cond.fieldLink RX6 12 "PromiseWheel$State" "wheel" "LPromiseWheel$Wheel;", Cond.fieldLink RX6 22 "PromiseWheel$State" "taken" "[Z", Cond.fieldLink RX6 18 "PromiseWheel$State" "snapshots" "[LPromiseWheel$Wheel;", Cond.methodLink RX6 26 yX8_copyFrom, Cond.instanceMethod yX8_copyFrom, Cond.selects RX8 yX8_copyFrom yX8_copyFrom]
def wsX9_breakOff_r2 : List Cond := [Cond.initialized RX8, Cond.code yX8_copyFrom cX8_copyFrom 2 none, Cond.fieldLink RX8 12 "PromiseWheel$Wheel" "promises" "LPromiseWheel$Promises;", Cond.fieldLink RX8 21 "PromiseWheel$Wheel" "lines" "LPromiseWheel$Lines;", Cond.fieldLink RX8 28 "PromiseWheel$Wheel" "diary" "LPromiseWheel$Diary;", Cond.fieldLink RX8 49 "PromiseWheel$Wheel" "now" "I", Cond.fieldLink RX8 32 "PromiseWheel$Wheel" "room" "I", Cond.fieldLink RX8 36 "PromiseWheel$Wheel" "bound" "I", Cond.fieldLink RX8 52 "PromiseWheel$Wheel" "drift" "I", Cond.fieldLink RX8 55 "PromiseWheel$Wheel" "brokenStanding" "I", Cond.fieldLink RX8 58 "PromiseWheel$Wheel" "lateCalls" "I", Cond.fieldLink RX8 61 "PromiseWheel$Wheel" "falls" "I", Cond.fieldLink RX8 64 "PromiseWheel$Wheel" "swept" "I", Cond.fieldLink RX8 67 "PromiseWheel$Wheel" "passedOver" "I", Cond.fieldLink RX8 70 "PromiseWheel$Wheel" "longestQueue" "I", Cond.methodLink RX8 39 yX5_copyFrom, Cond.instanceMethod yX5_copyFrom, Cond.selects RX5 yX5_copyFrom yX5_copyFrom, Cond.initialized RX5, Cond.code yX5_copyFrom cX5_copyFrom 2 none, Cond.fieldLink RX5 11 "PromiseWheel$Promises" "facts" "[I", Cond.methodLink RX5 15 arraycopyName, Cond.native arraycopyName, Cond.static arraycopyName]
def wsX9_breakOff_r3 : List Cond := [Cond.initialized "java/lang/System", Cond.fieldLink RX5 21 "PromiseWheel$Promises" "given" "I", Cond.methodLink RX8 43 yX3_copyFrom, Cond.instanceMethod yX3_copyFrom, Cond.selects RX3 yX3_copyFrom yX3_copyFrom, Cond.initialized RX3, Cond.code yX3_copyFrom cX3_copyFrom 2 none, Cond.fieldLink RX3 9 "PromiseWheel$Lines" "first" "[I", Cond.methodLink RX3 33 arraycopyName, Cond.fieldLink RX3 15 "PromiseWheel$Lines" "last" "[I", Cond.fieldLink RX3 18 "PromiseWheel$Lines" "length" "[I", Cond.fieldLink RX3 21 "PromiseWheel$Lines" "line" "[I", Cond.fieldLink RX3 24 "PromiseWheel$Lines" "behind" "[I", Cond.methodLink RX8 46 yX0_copyFrom, Cond.instanceMethod yX0_copyFrom, Cond.selects RX0 yX0_copyFrom yX0_copyFrom, Cond.initialized RX0, Cond.code yX0_copyFrom cX0_copyFrom 2 none, Cond.fieldLink RX0 11 "PromiseWheel$Diary" "facts" "[I", Cond.methodLink RX0 15 arraycopyName, Cond.fieldLink RX0 21 "PromiseWheel$Diary" "calls" "I", Cond.methodLink RX9 55 yX8_breakPromise, Cond.instanceMethod yX8_breakPromise, Cond.selects RX8 yX8_breakPromise yX8_breakPromise]
def wsX9_breakOff_r4 : List Cond := [Cond.code yX8_breakPromise cX8_breakPromise 2 (some .int), Cond.methodLink RX8 89 yX5_has, Cond.instanceMethod yX5_has, Cond.selects RX5 yX5_has yX5_has, Cond.code yX5_has cX5_has 2 (some .boolean), Cond.methodLink RX8 93 yX5_isAlive, Cond.instanceMethod yX5_isAlive, Cond.selects RX5 yX5_isAlive yX5_isAlive, Cond.code yX5_isAlive cX5_isAlive 3 (some .boolean), Cond.methodLink RX5 25 yX5_fact, Cond.instanceMethod yX5_fact, Cond.selects RX5 yX5_fact yX5_fact, Cond.code yX5_fact cX5_fact 3 (some .int), Cond.methodLink RX8 96 yX5_write, Cond.instanceMethod yX5_write, Cond.selects RX5 yX5_write yX5_write, Cond.code yX5_write cX5_write 4 none, Cond.methodLink RX9 51 yX9_recorded, Cond.instanceMethod yX9_recorded, Cond.selects RX9 yX9_recorded yX9_recorded, Cond.initialized RX9, Cond.code yX9_recorded cX9_recorded 2 (some .int), Cond.methodLink RX9 189 yX2_keepNoted, Cond.instanceMethod yX2_keepNoted]
def wsX9_breakOff_r5 : List Cond := [Cond.selects RX2 yX2_keepNoted yX2_keepNoted, Cond.code yX2_keepNoted cX2_keepNoted 1 none, Cond.fieldLink RX2 18 "PromiseWheel$History" "states" "I", Cond.methodLink RX2 33 Lib.Math.min.name, Cond.static Lib.Math.min.name, Cond.initialized "java/lang/Math", Cond.code Lib.Math.min.name Lib.Math.min.code 2 (some .int)]
def wsX9_breakOff : List Cond := .code yX9_breakOff cX9_breakOff 2 (some .int) :: ((wsX9_breakOff_r1 ++ (wsX9_breakOff_r2 ++ (wsX9_breakOff_r3 ++ (wsX9_breakOff_r4 ++ wsX9_breakOff_r5)))) ++ wsX90 ++ wsX60 ++ wsX20 ++ wsX80 ++ wsX50 ++ wsX30 ++ wsX00)
def wsX9_move_r1 : List Cond := [Cond.fieldLink RX9 19 "PromiseWheel" "history" "LPromiseWheel$History;", Cond.fieldLink RX9 12 "PromiseWheel" "state" "LPromiseWheel$State;", Cond.methodLink RX9 37 yX2_note, Cond.instanceMethod yX2_note, Cond.selects RX2 yX2_note yX2_note, Cond.initialized RX2, Cond.code yX2_note cX2_note 3 none, Cond.fieldLink RX2 22 "PromiseWheel$History" "noted" "I", Cond.methodLink RX2 25 yX2_rowAt, Cond.instanceMethod yX2_rowAt, Cond.selects RX2 yX2_rowAt yX2_rowAt, Cond.code yX2_rowAt cX2_rowAt 2 (some (.object "PromiseWheel$State")), Cond.fieldLink RX2 13 "PromiseWheel$History" "rows" "[LPromiseWheel$State;", Cond.methodLink RX2 29 yX6_copyFrom, Cond.instanceMethod yX6_copyFrom, Cond.selects RX6 yX6_copyFrom yX6_copyFrom, Cond.initialized RX6, Cond.code yX6_copyFrom cX6_copyFrom 5 none, Cond.fieldLink RX6 12 "PromiseWheel$State" "wheel" "LPromiseWheel$Wheel;", Cond.fieldLink RX6 22 "PromiseWheel$State" "taken" "[Z", Cond.fieldLink RX6 18 "PromiseWheel$State" "snapshots" "[LPromiseWheel$Wheel;", Cond.methodLink RX6 26 yX8_copyFrom, Cond.instanceMethod yX8_copyFrom, Cond.selects RX8 yX8_copyFrom yX8_copyFrom]
def wsX9_move_r2 : List Cond := [Cond.initialized RX8, Cond.code yX8_copyFrom cX8_copyFrom 2 none, Cond.fieldLink RX8 12 "PromiseWheel$Wheel" "promises" "LPromiseWheel$Promises;", Cond.fieldLink RX8 21 "PromiseWheel$Wheel" "lines" "LPromiseWheel$Lines;", Cond.fieldLink RX8 28 "PromiseWheel$Wheel" "diary" "LPromiseWheel$Diary;", Cond.fieldLink RX8 49 "PromiseWheel$Wheel" "now" "I", Cond.fieldLink RX8 32 "PromiseWheel$Wheel" "room" "I", Cond.fieldLink RX8 36 "PromiseWheel$Wheel" "bound" "I", Cond.fieldLink RX8 52 "PromiseWheel$Wheel" "drift" "I", Cond.fieldLink RX8 55 "PromiseWheel$Wheel" "brokenStanding" "I", Cond.fieldLink RX8 58 "PromiseWheel$Wheel" "lateCalls" "I", Cond.fieldLink RX8 61 "PromiseWheel$Wheel" "falls" "I", Cond.fieldLink RX8 64 "PromiseWheel$Wheel" "swept" "I", Cond.fieldLink RX8 67 "PromiseWheel$Wheel" "passedOver" "I", Cond.fieldLink RX8 70 "PromiseWheel$Wheel" "longestQueue" "I", Cond.methodLink RX8 39 yX5_copyFrom, Cond.instanceMethod yX5_copyFrom, Cond.selects RX5 yX5_copyFrom yX5_copyFrom, Cond.initialized RX5, Cond.code yX5_copyFrom cX5_copyFrom 2 none, Cond.fieldLink RX5 11 "PromiseWheel$Promises" "facts" "[I", Cond.methodLink RX5 15 arraycopyName, Cond.native arraycopyName, Cond.static arraycopyName]
def wsX9_move_r3 : List Cond := [Cond.initialized "java/lang/System", Cond.fieldLink RX5 21 "PromiseWheel$Promises" "given" "I", Cond.methodLink RX8 43 yX3_copyFrom, Cond.instanceMethod yX3_copyFrom, Cond.selects RX3 yX3_copyFrom yX3_copyFrom, Cond.initialized RX3, Cond.code yX3_copyFrom cX3_copyFrom 2 none, Cond.fieldLink RX3 9 "PromiseWheel$Lines" "first" "[I", Cond.methodLink RX3 33 arraycopyName, Cond.fieldLink RX3 15 "PromiseWheel$Lines" "last" "[I", Cond.fieldLink RX3 18 "PromiseWheel$Lines" "length" "[I", Cond.fieldLink RX3 21 "PromiseWheel$Lines" "line" "[I", Cond.fieldLink RX3 24 "PromiseWheel$Lines" "behind" "[I", Cond.methodLink RX8 46 yX0_copyFrom, Cond.instanceMethod yX0_copyFrom, Cond.selects RX0 yX0_copyFrom yX0_copyFrom, Cond.initialized RX0, Cond.code yX0_copyFrom cX0_copyFrom 2 none, Cond.fieldLink RX0 11 "PromiseWheel$Diary" "facts" "[I", Cond.methodLink RX0 15 arraycopyName, Cond.fieldLink RX0 21 "PromiseWheel$Diary" "calls" "I", Cond.methodLink RX9 58 yX8_movePromise, Cond.instanceMethod yX8_movePromise, Cond.selects RX8 yX8_movePromise yX8_movePromise]
def wsX9_move_r4 : List Cond := [Cond.code yX8_movePromise cX8_movePromise 5 (some .int), Cond.methodLink RX8 89 yX5_has, Cond.instanceMethod yX5_has, Cond.selects RX5 yX5_has yX5_has, Cond.code yX5_has cX5_has 2 (some .boolean), Cond.methodLink RX8 100 yX5_isIn, Cond.instanceMethod yX5_isIn, Cond.selects RX5 yX5_isIn yX5_isIn, Cond.code yX5_isIn cX5_isIn 3 (some .boolean), Cond.methodLink RX5 25 yX5_fact, Cond.instanceMethod yX5_fact, Cond.selects RX5 yX5_fact yX5_fact, Cond.code yX5_fact cX5_fact 3 (some .int), Cond.methodLink RX8 104 yX5_fact, Cond.methodLink RX8 108 yX3_leave, Cond.instanceMethod yX3_leave, Cond.selects RX3 yX3_leave yX3_leave, Cond.code yX3_leave cX3_leave 6 none, Cond.methodLink RX3 49 yX3_lineOf, Cond.instanceMethod yX3_lineOf, Cond.selects RX3 yX3_lineOf yX3_lineOf, Cond.code yX3_lineOf cX3_lineOf 2 (some .int), Cond.methodLink RX3 46 yX3_follower, Cond.instanceMethod yX3_follower]
def wsX9_move_r5 : List Cond := [Cond.selects RX3 yX3_follower yX3_follower, Cond.code yX3_follower cX3_follower 2 (some .int), Cond.methodLink RX8 96 yX5_write, Cond.instanceMethod yX5_write, Cond.selects RX5 yX5_write yX5_write, Cond.code yX5_write cX5_write 4 none, Cond.methodLink RX8 81 yX8_lineFor, Cond.instanceMethod yX8_lineFor, Cond.selects RX8 yX8_lineFor yX8_lineFor, Cond.code yX8_lineFor cX8_lineFor 3 (some .int), Cond.methodLink RX8 85 yX3_join, Cond.instanceMethod yX3_join, Cond.selects RX3 yX3_join yX3_join, Cond.code yX3_join cX3_join 4 none, Cond.methodLink RX9 51 yX9_recorded, Cond.instanceMethod yX9_recorded, Cond.selects RX9 yX9_recorded yX9_recorded, Cond.initialized RX9, Cond.code yX9_recorded cX9_recorded 2 (some .int), Cond.methodLink RX9 189 yX2_keepNoted, Cond.instanceMethod yX2_keepNoted, Cond.selects RX2 yX2_keepNoted yX2_keepNoted, Cond.code yX2_keepNoted cX2_keepNoted 1 none, Cond.fieldLink RX2 18 "PromiseWheel$History" "states" "I"]
def wsX9_move_r6 : List Cond := [Cond.methodLink RX2 33 Lib.Math.min.name, Cond.static Lib.Math.min.name, Cond.initialized "java/lang/Math", Cond.code Lib.Math.min.name Lib.Math.min.code 2 (some .int)]
def wsX9_move : List Cond := .code yX9_move cX9_move 3 (some .int) :: ((wsX9_move_r1 ++ (wsX9_move_r2 ++ (wsX9_move_r3 ++ (wsX9_move_r4 ++ (wsX9_move_r5 ++ wsX9_move_r6))))) ++ wsX90 ++ wsX60 ++ wsX20 ++ wsX80 ++ wsX50 ++ wsX30 ++ wsX00)
def wsX9_pass_r1 : List Cond := [Cond.fieldLink RX9 19 "PromiseWheel" "history" "LPromiseWheel$History;", Cond.fieldLink RX9 12 "PromiseWheel" "state" "LPromiseWheel$State;", Cond.methodLink RX9 37 yX2_note, Cond.instanceMethod yX2_note, Cond.selects RX2 yX2_note yX2_note, Cond.initialized RX2, Cond.code yX2_note cX2_note 3 none, Cond.fieldLink RX2 22 "PromiseWheel$History" "noted" "I", Cond.methodLink RX2 25 yX2_rowAt, Cond.instanceMethod yX2_rowAt, Cond.selects RX2 yX2_rowAt yX2_rowAt, Cond.code yX2_rowAt cX2_rowAt 2 (some (.object "PromiseWheel$State")), Cond.fieldLink RX2 13 "PromiseWheel$History" "rows" "[LPromiseWheel$State;", Cond.methodLink RX2 29 yX6_copyFrom, Cond.instanceMethod yX6_copyFrom, Cond.selects RX6 yX6_copyFrom yX6_copyFrom, Cond.initialized RX6, Cond.code yX6_copyFrom cX6_copyFrom 5 none, Cond.fieldLink RX6 12 "PromiseWheel$State" "wheel" "LPromiseWheel$Wheel;", Cond.fieldLink RX6 22 "PromiseWheel$State" "taken" "[Z", Cond.fieldLink RX6 18 "PromiseWheel$State" "snapshots" "[LPromiseWheel$Wheel;", Cond.methodLink RX6 26 yX8_copyFrom, Cond.instanceMethod yX8_copyFrom, Cond.selects RX8 yX8_copyFrom yX8_copyFrom]
def wsX9_pass_r2 : List Cond := [Cond.initialized RX8, Cond.code yX8_copyFrom cX8_copyFrom 2 none, Cond.fieldLink RX8 12 "PromiseWheel$Wheel" "promises" "LPromiseWheel$Promises;", Cond.fieldLink RX8 21 "PromiseWheel$Wheel" "lines" "LPromiseWheel$Lines;", Cond.fieldLink RX8 28 "PromiseWheel$Wheel" "diary" "LPromiseWheel$Diary;", Cond.fieldLink RX8 49 "PromiseWheel$Wheel" "now" "I", Cond.fieldLink RX8 32 "PromiseWheel$Wheel" "room" "I", Cond.fieldLink RX8 36 "PromiseWheel$Wheel" "bound" "I", Cond.fieldLink RX8 52 "PromiseWheel$Wheel" "drift" "I", Cond.fieldLink RX8 55 "PromiseWheel$Wheel" "brokenStanding" "I", Cond.fieldLink RX8 58 "PromiseWheel$Wheel" "lateCalls" "I", Cond.fieldLink RX8 61 "PromiseWheel$Wheel" "falls" "I", Cond.fieldLink RX8 64 "PromiseWheel$Wheel" "swept" "I", Cond.fieldLink RX8 67 "PromiseWheel$Wheel" "passedOver" "I", Cond.fieldLink RX8 70 "PromiseWheel$Wheel" "longestQueue" "I", Cond.methodLink RX8 39 yX5_copyFrom, Cond.instanceMethod yX5_copyFrom, Cond.selects RX5 yX5_copyFrom yX5_copyFrom, Cond.initialized RX5, Cond.code yX5_copyFrom cX5_copyFrom 2 none, Cond.fieldLink RX5 11 "PromiseWheel$Promises" "facts" "[I", Cond.methodLink RX5 15 arraycopyName, Cond.native arraycopyName, Cond.static arraycopyName]
def wsX9_pass_r3 : List Cond := [Cond.initialized "java/lang/System", Cond.fieldLink RX5 21 "PromiseWheel$Promises" "given" "I", Cond.methodLink RX8 43 yX3_copyFrom, Cond.instanceMethod yX3_copyFrom, Cond.selects RX3 yX3_copyFrom yX3_copyFrom, Cond.initialized RX3, Cond.code yX3_copyFrom cX3_copyFrom 2 none, Cond.fieldLink RX3 9 "PromiseWheel$Lines" "first" "[I", Cond.methodLink RX3 33 arraycopyName, Cond.fieldLink RX3 15 "PromiseWheel$Lines" "last" "[I", Cond.fieldLink RX3 18 "PromiseWheel$Lines" "length" "[I", Cond.fieldLink RX3 21 "PromiseWheel$Lines" "line" "[I", Cond.fieldLink RX3 24 "PromiseWheel$Lines" "behind" "[I", Cond.methodLink RX8 46 yX0_copyFrom, Cond.instanceMethod yX0_copyFrom, Cond.selects RX0 yX0_copyFrom yX0_copyFrom, Cond.initialized RX0, Cond.code yX0_copyFrom cX0_copyFrom 2 none, Cond.fieldLink RX0 11 "PromiseWheel$Diary" "facts" "[I", Cond.methodLink RX0 15 arraycopyName, Cond.fieldLink RX0 21 "PromiseWheel$Diary" "calls" "I", Cond.methodLink RX9 62 yX8_passTicks, Cond.instanceMethod yX8_passTicks, Cond.selects RX8 yX8_passTicks yX8_passTicks]
def wsX9_pass_r4 : List Cond := [Cond.code yX8_passTicks cX8_passTicks 4 (some .int), Cond.methodLink RX8 112 yX0_calls, Cond.instanceMethod yX0_calls, Cond.selects RX0 yX0_calls yX0_calls, Cond.code yX0_calls cX0_calls 1 (some .int), Cond.methodLink RX8 115 yX8_passTick, Cond.instanceMethod yX8_passTick, Cond.selects RX8 yX8_passTick yX8_passTick, Cond.code yX8_passTick cX8_passTick 1 none, Cond.methodLink RX8 139 Lib.Math.max.name, Cond.static Lib.Math.max.name, Cond.initialized "java/lang/Math", Cond.code Lib.Math.max.name Lib.Math.max.code 2 (some .int), Cond.methodLink RX8 124 yX8_letFall, Cond.instanceMethod yX8_letFall, Cond.selects RX8 yX8_letFall yX8_letFall, Cond.code yX8_letFall cX8_letFall 6 none, Cond.methodLink RX8 144 yX8_presentSlot, Cond.instanceMethod yX8_presentSlot, Cond.selects RX8 yX8_presentSlot yX8_presentSlot, Cond.code yX8_presentSlot cX8_presentSlot 2 (some .int), Cond.methodLink RX8 136 yX3_lengthOf, Cond.instanceMethod yX3_lengthOf, Cond.selects RX3 yX3_lengthOf yX3_lengthOf]
def wsX9_pass_r5 : List Cond := [Cond.code yX3_lengthOf cX3_lengthOf 2 (some .int), Cond.methodLink RX8 147 yX3_frontOf, Cond.instanceMethod yX3_frontOf, Cond.selects RX3 yX3_frontOf yX3_frontOf, Cond.code yX3_frontOf cX3_frontOf 2 (some .int), Cond.methodLink RX8 108 yX3_leave, Cond.instanceMethod yX3_leave, Cond.selects RX3 yX3_leave yX3_leave, Cond.code yX3_leave cX3_leave 6 none, Cond.methodLink RX3 49 yX3_lineOf, Cond.instanceMethod yX3_lineOf, Cond.selects RX3 yX3_lineOf yX3_lineOf, Cond.code yX3_lineOf cX3_lineOf 2 (some .int), Cond.methodLink RX3 46 yX3_follower, Cond.instanceMethod yX3_follower, Cond.selects RX3 yX3_follower yX3_follower, Cond.code yX3_follower cX3_follower 2 (some .int), Cond.methodLink RX8 100 yX5_isIn, Cond.instanceMethod yX5_isIn, Cond.selects RX5 yX5_isIn yX5_isIn, Cond.code yX5_isIn cX5_isIn 3 (some .boolean), Cond.methodLink RX5 25 yX5_fact, Cond.instanceMethod yX5_fact, Cond.selects RX5 yX5_fact yX5_fact]
def wsX9_pass_r6 : List Cond := [Cond.code yX5_fact cX5_fact 3 (some .int), Cond.methodLink RX8 118 yX8_noteSwept, Cond.instanceMethod yX8_noteSwept, Cond.selects RX8 yX8_noteSwept yX8_noteSwept, Cond.code yX8_noteSwept cX8_noteSwept 2 none, Cond.methodLink RX8 96 yX5_write, Cond.instanceMethod yX5_write, Cond.selects RX5 yX5_write yX5_write, Cond.code yX5_write cX5_write 4 none, Cond.methodLink RX8 104 yX5_fact, Cond.methodLink RX8 81 yX8_lineFor, Cond.instanceMethod yX8_lineFor, Cond.selects RX8 yX8_lineFor yX8_lineFor, Cond.code yX8_lineFor cX8_lineFor 3 (some .int), Cond.methodLink RX8 85 yX3_join, Cond.instanceMethod yX3_join, Cond.selects RX3 yX3_join yX3_join, Cond.code yX3_join cX3_join 4 none, Cond.methodLink RX8 127 yX8_letArrive, Cond.instanceMethod yX8_letArrive, Cond.selects RX8 yX8_letArrive yX8_letArrive, Cond.code yX8_letArrive cX8_letArrive 5 none, Cond.methodLink RX8 130 yX8_serveQueue, Cond.instanceMethod yX8_serveQueue]
def wsX9_pass_r7 : List Cond := [Cond.selects RX8 yX8_serveQueue yX8_serveQueue, Cond.code yX8_serveQueue cX8_serveQueue 5 none, Cond.methodLink RX8 150 yX8_callPromise, Cond.instanceMethod yX8_callPromise, Cond.selects RX8 yX8_callPromise yX8_callPromise, Cond.code yX8_callPromise cX8_callPromise 6 none, Cond.methodLink RX8 153 yX0_write, Cond.instanceMethod yX0_write, Cond.selects RX0 yX0_write yX0_write, Cond.code yX0_write cX0_write 5 none, Cond.methodLink RX0 25 yJ9_floorMod_7cf53, Cond.static yJ9_floorMod_7cf53, Cond.initialized RJ9, Cond.code yJ9_floorMod_7cf53 cJ9_floorMod_7cf53 3 (some .int), Cond.methodLink RX8 154 yX8_dueOfRepetition, Cond.instanceMethod yX8_dueOfRepetition, Cond.selects RX8 yX8_dueOfRepetition yX8_dueOfRepetition, Cond.code yX8_dueOfRepetition cX8_dueOfRepetition 4 (some .int), Cond.methodLink RX8 133 yX8_sweepAll, Cond.instanceMethod yX8_sweepAll, Cond.selects RX8 yX8_sweepAll yX8_sweepAll, Cond.code yX8_sweepAll cX8_sweepAll 3 (some .int), Cond.methodLink RX8 73 yX5_given, Cond.instanceMethod yX5_given]
def wsX9_pass_r8 : List Cond := [Cond.selects RX5 yX5_given yX5_given, Cond.code yX5_given cX5_given 1 (some .int), Cond.methodLink RX9 51 yX9_recorded, Cond.instanceMethod yX9_recorded, Cond.selects RX9 yX9_recorded yX9_recorded, Cond.initialized RX9, Cond.code yX9_recorded cX9_recorded 2 (some .int), Cond.methodLink RX9 189 yX2_keepNoted, Cond.instanceMethod yX2_keepNoted, Cond.selects RX2 yX2_keepNoted yX2_keepNoted, Cond.code yX2_keepNoted cX2_keepNoted 1 none, Cond.fieldLink RX2 18 "PromiseWheel$History" "states" "I", Cond.methodLink RX2 33 Lib.Math.min.name, Cond.static Lib.Math.min.name, Cond.code Lib.Math.min.name Lib.Math.min.code 2 (some .int)]
def wsX9_pass : List Cond := .code yX9_pass cX9_pass 2 (some .int) :: ((wsX9_pass_r1 ++ (wsX9_pass_r2 ++ (wsX9_pass_r3 ++ (wsX9_pass_r4 ++ (wsX9_pass_r5 ++ (wsX9_pass_r6 ++ (wsX9_pass_r7 ++ wsX9_pass_r8))))))) ++ wsX90 ++ wsX60 ++ wsX20 ++ wsX80 ++ wsX50 ++ wsX30 ++ wsX00)
def wsX9_sweep_r1 : List Cond := [Cond.fieldLink RX9 19 "PromiseWheel" "history" "LPromiseWheel$History;", Cond.fieldLink RX9 12 "PromiseWheel" "state" "LPromiseWheel$State;", Cond.methodLink RX9 37 yX2_note, Cond.instanceMethod yX2_note, Cond.selects RX2 yX2_note yX2_note, Cond.initialized RX2, Cond.code yX2_note cX2_note 3 none, Cond.fieldLink RX2 22 "PromiseWheel$History" "noted" "I", Cond.methodLink RX2 25 yX2_rowAt, Cond.instanceMethod yX2_rowAt, Cond.selects RX2 yX2_rowAt yX2_rowAt, Cond.code yX2_rowAt cX2_rowAt 2 (some (.object "PromiseWheel$State")), Cond.fieldLink RX2 13 "PromiseWheel$History" "rows" "[LPromiseWheel$State;", Cond.methodLink RX2 29 yX6_copyFrom, Cond.instanceMethod yX6_copyFrom, Cond.selects RX6 yX6_copyFrom yX6_copyFrom, Cond.initialized RX6, Cond.code yX6_copyFrom cX6_copyFrom 5 none, Cond.fieldLink RX6 12 "PromiseWheel$State" "wheel" "LPromiseWheel$Wheel;", Cond.fieldLink RX6 22 "PromiseWheel$State" "taken" "[Z", Cond.fieldLink RX6 18 "PromiseWheel$State" "snapshots" "[LPromiseWheel$Wheel;", Cond.methodLink RX6 26 yX8_copyFrom, Cond.instanceMethod yX8_copyFrom, Cond.selects RX8 yX8_copyFrom yX8_copyFrom]
def wsX9_sweep_r2 : List Cond := [Cond.initialized RX8, Cond.code yX8_copyFrom cX8_copyFrom 2 none, Cond.fieldLink RX8 12 "PromiseWheel$Wheel" "promises" "LPromiseWheel$Promises;", Cond.fieldLink RX8 21 "PromiseWheel$Wheel" "lines" "LPromiseWheel$Lines;", Cond.fieldLink RX8 28 "PromiseWheel$Wheel" "diary" "LPromiseWheel$Diary;", Cond.fieldLink RX8 49 "PromiseWheel$Wheel" "now" "I", Cond.fieldLink RX8 32 "PromiseWheel$Wheel" "room" "I", Cond.fieldLink RX8 36 "PromiseWheel$Wheel" "bound" "I", Cond.fieldLink RX8 52 "PromiseWheel$Wheel" "drift" "I", Cond.fieldLink RX8 55 "PromiseWheel$Wheel" "brokenStanding" "I", Cond.fieldLink RX8 58 "PromiseWheel$Wheel" "lateCalls" "I", Cond.fieldLink RX8 61 "PromiseWheel$Wheel" "falls" "I", Cond.fieldLink RX8 64 "PromiseWheel$Wheel" "swept" "I", Cond.fieldLink RX8 67 "PromiseWheel$Wheel" "passedOver" "I", Cond.fieldLink RX8 70 "PromiseWheel$Wheel" "longestQueue" "I", Cond.methodLink RX8 39 yX5_copyFrom, Cond.instanceMethod yX5_copyFrom, Cond.selects RX5 yX5_copyFrom yX5_copyFrom, Cond.initialized RX5, Cond.code yX5_copyFrom cX5_copyFrom 2 none, Cond.fieldLink RX5 11 "PromiseWheel$Promises" "facts" "[I", Cond.methodLink RX5 15 arraycopyName, Cond.native arraycopyName, Cond.static arraycopyName]
def wsX9_sweep_r3 : List Cond := [Cond.initialized "java/lang/System", Cond.fieldLink RX5 21 "PromiseWheel$Promises" "given" "I", Cond.methodLink RX8 43 yX3_copyFrom, Cond.instanceMethod yX3_copyFrom, Cond.selects RX3 yX3_copyFrom yX3_copyFrom, Cond.initialized RX3, Cond.code yX3_copyFrom cX3_copyFrom 2 none, Cond.fieldLink RX3 9 "PromiseWheel$Lines" "first" "[I", Cond.methodLink RX3 33 arraycopyName, Cond.fieldLink RX3 15 "PromiseWheel$Lines" "last" "[I", Cond.fieldLink RX3 18 "PromiseWheel$Lines" "length" "[I", Cond.fieldLink RX3 21 "PromiseWheel$Lines" "line" "[I", Cond.fieldLink RX3 24 "PromiseWheel$Lines" "behind" "[I", Cond.methodLink RX8 46 yX0_copyFrom, Cond.instanceMethod yX0_copyFrom, Cond.selects RX0 yX0_copyFrom yX0_copyFrom, Cond.initialized RX0, Cond.code yX0_copyFrom cX0_copyFrom 2 none, Cond.fieldLink RX0 11 "PromiseWheel$Diary" "facts" "[I", Cond.methodLink RX0 15 arraycopyName, Cond.fieldLink RX0 21 "PromiseWheel$Diary" "calls" "I", Cond.methodLink RX9 65 yX8_sweepAll, Cond.instanceMethod yX8_sweepAll, Cond.selects RX8 yX8_sweepAll yX8_sweepAll]
def wsX9_sweep_r4 : List Cond := [Cond.code yX8_sweepAll cX8_sweepAll 3 (some .int), Cond.methodLink RX8 73 yX5_given, Cond.instanceMethod yX5_given, Cond.selects RX5 yX5_given yX5_given, Cond.code yX5_given cX5_given 1 (some .int), Cond.methodLink RX8 100 yX5_isIn, Cond.instanceMethod yX5_isIn, Cond.selects RX5 yX5_isIn yX5_isIn, Cond.code yX5_isIn cX5_isIn 3 (some .boolean), Cond.methodLink RX5 25 yX5_fact, Cond.instanceMethod yX5_fact, Cond.selects RX5 yX5_fact yX5_fact, Cond.code yX5_fact cX5_fact 3 (some .int), Cond.methodLink RX8 108 yX3_leave, Cond.instanceMethod yX3_leave, Cond.selects RX3 yX3_leave yX3_leave, Cond.code yX3_leave cX3_leave 6 none, Cond.methodLink RX3 49 yX3_lineOf, Cond.instanceMethod yX3_lineOf, Cond.selects RX3 yX3_lineOf yX3_lineOf, Cond.code yX3_lineOf cX3_lineOf 2 (some .int), Cond.methodLink RX3 46 yX3_follower, Cond.instanceMethod yX3_follower, Cond.selects RX3 yX3_follower yX3_follower]
def wsX9_sweep_r5 : List Cond := [Cond.code yX3_follower cX3_follower 2 (some .int), Cond.methodLink RX8 118 yX8_noteSwept, Cond.instanceMethod yX8_noteSwept, Cond.selects RX8 yX8_noteSwept yX8_noteSwept, Cond.code yX8_noteSwept cX8_noteSwept 2 none, Cond.methodLink RX8 96 yX5_write, Cond.instanceMethod yX5_write, Cond.selects RX5 yX5_write yX5_write, Cond.code yX5_write cX5_write 4 none, Cond.methodLink RX9 51 yX9_recorded, Cond.instanceMethod yX9_recorded, Cond.selects RX9 yX9_recorded yX9_recorded, Cond.initialized RX9, Cond.code yX9_recorded cX9_recorded 2 (some .int), Cond.methodLink RX9 189 yX2_keepNoted, Cond.instanceMethod yX2_keepNoted, Cond.selects RX2 yX2_keepNoted yX2_keepNoted, Cond.code yX2_keepNoted cX2_keepNoted 1 none, Cond.fieldLink RX2 18 "PromiseWheel$History" "states" "I", Cond.methodLink RX2 33 Lib.Math.min.name, Cond.static Lib.Math.min.name, Cond.initialized "java/lang/Math", Cond.code Lib.Math.min.name Lib.Math.min.code 2 (some .int)]
def wsX9_sweep : List Cond := .code yX9_sweep cX9_sweep 1 (some .int) :: ((wsX9_sweep_r1 ++ (wsX9_sweep_r2 ++ (wsX9_sweep_r3 ++ (wsX9_sweep_r4 ++ wsX9_sweep_r5)))) ++ wsX90 ++ wsX60 ++ wsX20 ++ wsX80 ++ wsX50 ++ wsX30 ++ wsX00)
def wsX9_set_r1 : List Cond := [Cond.fieldLink RX9 19 "PromiseWheel" "history" "LPromiseWheel$History;", Cond.fieldLink RX9 12 "PromiseWheel" "state" "LPromiseWheel$State;", Cond.methodLink RX9 37 yX2_note, Cond.instanceMethod yX2_note, Cond.selects RX2 yX2_note yX2_note, Cond.initialized RX2, Cond.code yX2_note cX2_note 3 none, Cond.fieldLink RX2 22 "PromiseWheel$History" "noted" "I", Cond.methodLink RX2 25 yX2_rowAt, Cond.instanceMethod yX2_rowAt, Cond.selects RX2 yX2_rowAt yX2_rowAt, Cond.code yX2_rowAt cX2_rowAt 2 (some (.object "PromiseWheel$State")), Cond.fieldLink RX2 13 "PromiseWheel$History" "rows" "[LPromiseWheel$State;", Cond.methodLink RX2 29 yX6_copyFrom, Cond.instanceMethod yX6_copyFrom, Cond.selects RX6 yX6_copyFrom yX6_copyFrom, Cond.initialized RX6, Cond.code yX6_copyFrom cX6_copyFrom 5 none, Cond.fieldLink RX6 12 "PromiseWheel$State" "wheel" "LPromiseWheel$Wheel;", Cond.fieldLink RX6 22 "PromiseWheel$State" "taken" "[Z", Cond.fieldLink RX6 18 "PromiseWheel$State" "snapshots" "[LPromiseWheel$Wheel;", Cond.methodLink RX6 26 yX8_copyFrom, Cond.instanceMethod yX8_copyFrom, Cond.selects RX8 yX8_copyFrom yX8_copyFrom]
def wsX9_set_r2 : List Cond := [Cond.initialized RX8, Cond.code yX8_copyFrom cX8_copyFrom 2 none, Cond.fieldLink RX8 12 "PromiseWheel$Wheel" "promises" "LPromiseWheel$Promises;", Cond.fieldLink RX8 21 "PromiseWheel$Wheel" "lines" "LPromiseWheel$Lines;", Cond.fieldLink RX8 28 "PromiseWheel$Wheel" "diary" "LPromiseWheel$Diary;", Cond.fieldLink RX8 49 "PromiseWheel$Wheel" "now" "I", Cond.fieldLink RX8 32 "PromiseWheel$Wheel" "room" "I", Cond.fieldLink RX8 36 "PromiseWheel$Wheel" "bound" "I", Cond.fieldLink RX8 52 "PromiseWheel$Wheel" "drift" "I", Cond.fieldLink RX8 55 "PromiseWheel$Wheel" "brokenStanding" "I", Cond.fieldLink RX8 58 "PromiseWheel$Wheel" "lateCalls" "I", Cond.fieldLink RX8 61 "PromiseWheel$Wheel" "falls" "I", Cond.fieldLink RX8 64 "PromiseWheel$Wheel" "swept" "I", Cond.fieldLink RX8 67 "PromiseWheel$Wheel" "passedOver" "I", Cond.fieldLink RX8 70 "PromiseWheel$Wheel" "longestQueue" "I", Cond.methodLink RX8 39 yX5_copyFrom, Cond.instanceMethod yX5_copyFrom, Cond.selects RX5 yX5_copyFrom yX5_copyFrom, Cond.initialized RX5, Cond.code yX5_copyFrom cX5_copyFrom 2 none, Cond.fieldLink RX5 11 "PromiseWheel$Promises" "facts" "[I", Cond.methodLink RX5 15 arraycopyName, Cond.native arraycopyName, Cond.static arraycopyName]
def wsX9_set_r3 : List Cond := [Cond.initialized "java/lang/System", Cond.fieldLink RX5 21 "PromiseWheel$Promises" "given" "I", Cond.methodLink RX8 43 yX3_copyFrom, Cond.instanceMethod yX3_copyFrom, Cond.selects RX3 yX3_copyFrom yX3_copyFrom, Cond.initialized RX3, Cond.code yX3_copyFrom cX3_copyFrom 2 none, Cond.fieldLink RX3 9 "PromiseWheel$Lines" "first" "[I", Cond.methodLink RX3 33 arraycopyName, Cond.fieldLink RX3 15 "PromiseWheel$Lines" "last" "[I", Cond.fieldLink RX3 18 "PromiseWheel$Lines" "length" "[I", Cond.fieldLink RX3 21 "PromiseWheel$Lines" "line" "[I", Cond.fieldLink RX3 24 "PromiseWheel$Lines" "behind" "[I", Cond.methodLink RX8 46 yX0_copyFrom, Cond.instanceMethod yX0_copyFrom, Cond.selects RX0 yX0_copyFrom yX0_copyFrom, Cond.initialized RX0, Cond.code yX0_copyFrom cX0_copyFrom 2 none, Cond.fieldLink RX0 11 "PromiseWheel$Diary" "facts" "[I", Cond.methodLink RX0 15 arraycopyName, Cond.fieldLink RX0 21 "PromiseWheel$Diary" "calls" "I", Cond.methodLink RX9 69 yX8_changeSetting, Cond.instanceMethod yX8_changeSetting, Cond.selects RX8 yX8_changeSetting yX8_changeSetting]
def wsX9_set_r4 : List Cond := [Cond.code yX8_changeSetting cX8_changeSetting 4 (some .int), Cond.methodLink RX8 121 yX8_setting, Cond.instanceMethod yX8_setting, Cond.selects RX8 yX8_setting yX8_setting, Cond.code yX8_setting cX8_setting 2 (some .int), Cond.methodLink RX9 51 yX9_recorded, Cond.instanceMethod yX9_recorded, Cond.selects RX9 yX9_recorded yX9_recorded, Cond.initialized RX9, Cond.code yX9_recorded cX9_recorded 2 (some .int), Cond.methodLink RX9 189 yX2_keepNoted, Cond.instanceMethod yX2_keepNoted, Cond.selects RX2 yX2_keepNoted yX2_keepNoted, Cond.code yX2_keepNoted cX2_keepNoted 1 none, Cond.fieldLink RX2 18 "PromiseWheel$History" "states" "I", Cond.methodLink RX2 33 Lib.Math.min.name, Cond.static Lib.Math.min.name, Cond.initialized "java/lang/Math", Cond.code Lib.Math.min.name Lib.Math.min.code 2 (some .int)]
def wsX9_set : List Cond := .code yX9_set cX9_set 3 (some .int) :: ((wsX9_set_r1 ++ (wsX9_set_r2 ++ (wsX9_set_r3 ++ wsX9_set_r4))) ++ wsX90 ++ wsX60 ++ wsX20 ++ wsX80 ++ wsX50 ++ wsX30 ++ wsX00)
def wsX9_take_r1 : List Cond := [Cond.fieldLink RX9 19 "PromiseWheel" "history" "LPromiseWheel$History;", Cond.fieldLink RX9 12 "PromiseWheel" "state" "LPromiseWheel$State;", Cond.methodLink RX9 37 yX2_note, Cond.instanceMethod yX2_note, Cond.selects RX2 yX2_note yX2_note, Cond.initialized RX2, Cond.code yX2_note cX2_note 3 none, Cond.fieldLink RX2 22 "PromiseWheel$History" "noted" "I", Cond.methodLink RX2 25 yX2_rowAt, Cond.instanceMethod yX2_rowAt, Cond.selects RX2 yX2_rowAt yX2_rowAt, Cond.code yX2_rowAt cX2_rowAt 2 (some (.object "PromiseWheel$State")), Cond.fieldLink RX2 13 "PromiseWheel$History" "rows" "[LPromiseWheel$State;", Cond.methodLink RX2 29 yX6_copyFrom, Cond.instanceMethod yX6_copyFrom, Cond.selects RX6 yX6_copyFrom yX6_copyFrom, Cond.initialized RX6, Cond.code yX6_copyFrom cX6_copyFrom 5 none, Cond.fieldLink RX6 12 "PromiseWheel$State" "wheel" "LPromiseWheel$Wheel;", Cond.fieldLink RX6 22 "PromiseWheel$State" "taken" "[Z", Cond.fieldLink RX6 18 "PromiseWheel$State" "snapshots" "[LPromiseWheel$Wheel;", Cond.methodLink RX6 26 yX8_copyFrom, Cond.instanceMethod yX8_copyFrom, Cond.selects RX8 yX8_copyFrom yX8_copyFrom]
def wsX9_take_r2 : List Cond := [Cond.initialized RX8, Cond.code yX8_copyFrom cX8_copyFrom 2 none, Cond.fieldLink RX8 12 "PromiseWheel$Wheel" "promises" "LPromiseWheel$Promises;", Cond.fieldLink RX8 21 "PromiseWheel$Wheel" "lines" "LPromiseWheel$Lines;", Cond.fieldLink RX8 28 "PromiseWheel$Wheel" "diary" "LPromiseWheel$Diary;", Cond.fieldLink RX8 49 "PromiseWheel$Wheel" "now" "I", Cond.fieldLink RX8 32 "PromiseWheel$Wheel" "room" "I", Cond.fieldLink RX8 36 "PromiseWheel$Wheel" "bound" "I", Cond.fieldLink RX8 52 "PromiseWheel$Wheel" "drift" "I", Cond.fieldLink RX8 55 "PromiseWheel$Wheel" "brokenStanding" "I", Cond.fieldLink RX8 58 "PromiseWheel$Wheel" "lateCalls" "I", Cond.fieldLink RX8 61 "PromiseWheel$Wheel" "falls" "I", Cond.fieldLink RX8 64 "PromiseWheel$Wheel" "swept" "I", Cond.fieldLink RX8 67 "PromiseWheel$Wheel" "passedOver" "I", Cond.fieldLink RX8 70 "PromiseWheel$Wheel" "longestQueue" "I", Cond.methodLink RX8 39 yX5_copyFrom, Cond.instanceMethod yX5_copyFrom, Cond.selects RX5 yX5_copyFrom yX5_copyFrom, Cond.initialized RX5, Cond.code yX5_copyFrom cX5_copyFrom 2 none, Cond.fieldLink RX5 11 "PromiseWheel$Promises" "facts" "[I", Cond.methodLink RX5 15 arraycopyName, Cond.native arraycopyName, Cond.static arraycopyName]
def wsX9_take_r3 : List Cond := [Cond.initialized "java/lang/System", Cond.fieldLink RX5 21 "PromiseWheel$Promises" "given" "I", Cond.methodLink RX8 43 yX3_copyFrom, Cond.instanceMethod yX3_copyFrom, Cond.selects RX3 yX3_copyFrom yX3_copyFrom, Cond.initialized RX3, Cond.code yX3_copyFrom cX3_copyFrom 2 none, Cond.fieldLink RX3 9 "PromiseWheel$Lines" "first" "[I", Cond.methodLink RX3 33 arraycopyName, Cond.fieldLink RX3 15 "PromiseWheel$Lines" "last" "[I", Cond.fieldLink RX3 18 "PromiseWheel$Lines" "length" "[I", Cond.fieldLink RX3 21 "PromiseWheel$Lines" "line" "[I", Cond.fieldLink RX3 24 "PromiseWheel$Lines" "behind" "[I", Cond.methodLink RX8 46 yX0_copyFrom, Cond.instanceMethod yX0_copyFrom, Cond.selects RX0 yX0_copyFrom yX0_copyFrom, Cond.initialized RX0, Cond.code yX0_copyFrom cX0_copyFrom 2 none, Cond.fieldLink RX0 11 "PromiseWheel$Diary" "facts" "[I", Cond.methodLink RX0 15 arraycopyName, Cond.fieldLink RX0 21 "PromiseWheel$Diary" "calls" "I", Cond.methodLink RX9 72 yX6_takeSnapshot, Cond.instanceMethod yX6_takeSnapshot, Cond.selects RX6 yX6_takeSnapshot yX6_takeSnapshot]
def wsX9_take_r4 : List Cond := [Cond.code yX6_takeSnapshot cX6_takeSnapshot 3 (some .int), Cond.methodLink RX9 51 yX9_recorded, Cond.instanceMethod yX9_recorded, Cond.selects RX9 yX9_recorded yX9_recorded, Cond.initialized RX9, Cond.code yX9_recorded cX9_recorded 2 (some .int), Cond.methodLink RX9 189 yX2_keepNoted, Cond.instanceMethod yX2_keepNoted, Cond.selects RX2 yX2_keepNoted yX2_keepNoted, Cond.code yX2_keepNoted cX2_keepNoted 1 none, Cond.fieldLink RX2 18 "PromiseWheel$History" "states" "I", Cond.methodLink RX2 33 Lib.Math.min.name, Cond.static Lib.Math.min.name, Cond.initialized "java/lang/Math", Cond.code Lib.Math.min.name Lib.Math.min.code 2 (some .int)]
def wsX9_take : List Cond := .code yX9_take cX9_take 2 (some .int) :: ((wsX9_take_r1 ++ (wsX9_take_r2 ++ (wsX9_take_r3 ++ wsX9_take_r4))) ++ wsX90 ++ wsX20 ++ wsX60 ++ wsX80 ++ wsX50 ++ wsX30 ++ wsX00)
def wsX9_restore_r1 : List Cond := [Cond.fieldLink RX9 19 "PromiseWheel" "history" "LPromiseWheel$History;", Cond.fieldLink RX9 12 "PromiseWheel" "state" "LPromiseWheel$State;", Cond.methodLink RX9 37 yX2_note, Cond.instanceMethod yX2_note, Cond.selects RX2 yX2_note yX2_note, Cond.initialized RX2, Cond.code yX2_note cX2_note 3 none, Cond.fieldLink RX2 22 "PromiseWheel$History" "noted" "I", Cond.methodLink RX2 25 yX2_rowAt, Cond.instanceMethod yX2_rowAt, Cond.selects RX2 yX2_rowAt yX2_rowAt, Cond.code yX2_rowAt cX2_rowAt 2 (some (.object "PromiseWheel$State")), Cond.fieldLink RX2 13 "PromiseWheel$History" "rows" "[LPromiseWheel$State;", Cond.methodLink RX2 29 yX6_copyFrom, Cond.instanceMethod yX6_copyFrom, Cond.selects RX6 yX6_copyFrom yX6_copyFrom, Cond.initialized RX6, Cond.code yX6_copyFrom cX6_copyFrom 5 none, Cond.fieldLink RX6 12 "PromiseWheel$State" "wheel" "LPromiseWheel$Wheel;", Cond.fieldLink RX6 22 "PromiseWheel$State" "taken" "[Z", Cond.fieldLink RX6 18 "PromiseWheel$State" "snapshots" "[LPromiseWheel$Wheel;", Cond.methodLink RX6 26 yX8_copyFrom, Cond.instanceMethod yX8_copyFrom, Cond.selects RX8 yX8_copyFrom yX8_copyFrom]
def wsX9_restore_r2 : List Cond := [Cond.initialized RX8, Cond.code yX8_copyFrom cX8_copyFrom 2 none, Cond.fieldLink RX8 12 "PromiseWheel$Wheel" "promises" "LPromiseWheel$Promises;", Cond.fieldLink RX8 21 "PromiseWheel$Wheel" "lines" "LPromiseWheel$Lines;", Cond.fieldLink RX8 28 "PromiseWheel$Wheel" "diary" "LPromiseWheel$Diary;", Cond.fieldLink RX8 49 "PromiseWheel$Wheel" "now" "I", Cond.fieldLink RX8 32 "PromiseWheel$Wheel" "room" "I", Cond.fieldLink RX8 36 "PromiseWheel$Wheel" "bound" "I", Cond.fieldLink RX8 52 "PromiseWheel$Wheel" "drift" "I", Cond.fieldLink RX8 55 "PromiseWheel$Wheel" "brokenStanding" "I", Cond.fieldLink RX8 58 "PromiseWheel$Wheel" "lateCalls" "I", Cond.fieldLink RX8 61 "PromiseWheel$Wheel" "falls" "I", Cond.fieldLink RX8 64 "PromiseWheel$Wheel" "swept" "I", Cond.fieldLink RX8 67 "PromiseWheel$Wheel" "passedOver" "I", Cond.fieldLink RX8 70 "PromiseWheel$Wheel" "longestQueue" "I", Cond.methodLink RX8 39 yX5_copyFrom, Cond.instanceMethod yX5_copyFrom, Cond.selects RX5 yX5_copyFrom yX5_copyFrom, Cond.initialized RX5, Cond.code yX5_copyFrom cX5_copyFrom 2 none, Cond.fieldLink RX5 11 "PromiseWheel$Promises" "facts" "[I", Cond.methodLink RX5 15 arraycopyName, Cond.native arraycopyName, Cond.static arraycopyName]
def wsX9_restore_r3 : List Cond := [Cond.initialized "java/lang/System", Cond.fieldLink RX5 21 "PromiseWheel$Promises" "given" "I", Cond.methodLink RX8 43 yX3_copyFrom, Cond.instanceMethod yX3_copyFrom, Cond.selects RX3 yX3_copyFrom yX3_copyFrom, Cond.initialized RX3, Cond.code yX3_copyFrom cX3_copyFrom 2 none, Cond.fieldLink RX3 9 "PromiseWheel$Lines" "first" "[I", Cond.methodLink RX3 33 arraycopyName, Cond.fieldLink RX3 15 "PromiseWheel$Lines" "last" "[I", Cond.fieldLink RX3 18 "PromiseWheel$Lines" "length" "[I", Cond.fieldLink RX3 21 "PromiseWheel$Lines" "line" "[I", Cond.fieldLink RX3 24 "PromiseWheel$Lines" "behind" "[I", Cond.methodLink RX8 46 yX0_copyFrom, Cond.instanceMethod yX0_copyFrom, Cond.selects RX0 yX0_copyFrom yX0_copyFrom, Cond.initialized RX0, Cond.code yX0_copyFrom cX0_copyFrom 2 none, Cond.fieldLink RX0 11 "PromiseWheel$Diary" "facts" "[I", Cond.methodLink RX0 15 arraycopyName, Cond.fieldLink RX0 21 "PromiseWheel$Diary" "calls" "I", Cond.methodLink RX9 75 yX6_restoreSnapshot, Cond.instanceMethod yX6_restoreSnapshot, Cond.selects RX6 yX6_restoreSnapshot yX6_restoreSnapshot]
def wsX9_restore_r4 : List Cond := [Cond.code yX6_restoreSnapshot cX6_restoreSnapshot 3 (some .int), Cond.methodLink RX9 51 yX9_recorded, Cond.instanceMethod yX9_recorded, Cond.selects RX9 yX9_recorded yX9_recorded, Cond.initialized RX9, Cond.code yX9_recorded cX9_recorded 2 (some .int), Cond.methodLink RX9 189 yX2_keepNoted, Cond.instanceMethod yX2_keepNoted, Cond.selects RX2 yX2_keepNoted yX2_keepNoted, Cond.code yX2_keepNoted cX2_keepNoted 1 none, Cond.fieldLink RX2 18 "PromiseWheel$History" "states" "I", Cond.methodLink RX2 33 Lib.Math.min.name, Cond.static Lib.Math.min.name, Cond.initialized "java/lang/Math", Cond.code Lib.Math.min.name Lib.Math.min.code 2 (some .int)]
def wsX9_restore : List Cond := .code yX9_restore cX9_restore 2 (some .int) :: ((wsX9_restore_r1 ++ (wsX9_restore_r2 ++ (wsX9_restore_r3 ++ wsX9_restore_r4))) ++ wsX90 ++ wsX20 ++ wsX60 ++ wsX80 ++ wsX50 ++ wsX30 ++ wsX00)
def wsX9_undo_r1 : List Cond := [Cond.fieldLink RX9 19 "PromiseWheel" "history" "LPromiseWheel$History;", Cond.fieldLink RX9 12 "PromiseWheel" "state" "LPromiseWheel$State;", Cond.methodLink RX9 78 yX2_stepBack, Cond.instanceMethod yX2_stepBack, Cond.selects RX2 yX2_stepBack yX2_stepBack, Cond.initialized RX2, Cond.code yX2_stepBack cX2_stepBack 2 (some .int), Cond.fieldLink RX2 18 "PromiseWheel$History" "states" "I", Cond.fieldLink RX2 22 "PromiseWheel$History" "noted" "I", Cond.methodLink RX2 39 yX2_copyNotedInto, Cond.instanceMethod yX2_copyNotedInto, Cond.selects RX2 yX2_copyNotedInto yX2_copyNotedInto, Cond.code yX2_copyNotedInto cX2_copyNotedInto 3 none, Cond.methodLink RX2 25 yX2_rowAt, Cond.instanceMethod yX2_rowAt, Cond.selects RX2 yX2_rowAt yX2_rowAt, Cond.code yX2_rowAt cX2_rowAt 2 (some (.object "PromiseWheel$State")), Cond.fieldLink RX2 13 "PromiseWheel$History" "rows" "[LPromiseWheel$State;", Cond.methodLink RX2 29 yX6_copyFrom, Cond.instanceMethod yX6_copyFrom, Cond.selects RX6 yX6_copyFrom yX6_copyFrom, Cond.initialized RX6, Cond.code yX6_copyFrom cX6_copyFrom 5 none, Cond.fieldLink RX6 12 "PromiseWheel$State" "wheel" "LPromiseWheel$Wheel;"]
def wsX9_undo_r2 : List Cond := [Cond.fieldLink RX6 22 "PromiseWheel$State" "taken" "[Z", Cond.fieldLink RX6 18 "PromiseWheel$State" "snapshots" "[LPromiseWheel$Wheel;", Cond.methodLink RX6 26 yX8_copyFrom, Cond.instanceMethod yX8_copyFrom, Cond.selects RX8 yX8_copyFrom yX8_copyFrom, Cond.initialized RX8, Cond.code yX8_copyFrom cX8_copyFrom 2 none, Cond.fieldLink RX8 12 "PromiseWheel$Wheel" "promises" "LPromiseWheel$Promises;", Cond.fieldLink RX8 21 "PromiseWheel$Wheel" "lines" "LPromiseWheel$Lines;", Cond.fieldLink RX8 28 "PromiseWheel$Wheel" "diary" "LPromiseWheel$Diary;", Cond.fieldLink RX8 49 "PromiseWheel$Wheel" "now" "I", Cond.fieldLink RX8 32 "PromiseWheel$Wheel" "room" "I", Cond.fieldLink RX8 36 "PromiseWheel$Wheel" "bound" "I", Cond.fieldLink RX8 52 "PromiseWheel$Wheel" "drift" "I", Cond.fieldLink RX8 55 "PromiseWheel$Wheel" "brokenStanding" "I", Cond.fieldLink RX8 58 "PromiseWheel$Wheel" "lateCalls" "I", Cond.fieldLink RX8 61 "PromiseWheel$Wheel" "falls" "I", Cond.fieldLink RX8 64 "PromiseWheel$Wheel" "swept" "I", Cond.fieldLink RX8 67 "PromiseWheel$Wheel" "passedOver" "I", Cond.fieldLink RX8 70 "PromiseWheel$Wheel" "longestQueue" "I", Cond.methodLink RX8 39 yX5_copyFrom, Cond.instanceMethod yX5_copyFrom, Cond.selects RX5 yX5_copyFrom yX5_copyFrom, Cond.initialized RX5]
def wsX9_undo_r3 : List Cond := [Cond.code yX5_copyFrom cX5_copyFrom 2 none, Cond.fieldLink RX5 11 "PromiseWheel$Promises" "facts" "[I", Cond.methodLink RX5 15 arraycopyName, Cond.native arraycopyName, Cond.static arraycopyName, Cond.initialized "java/lang/System", Cond.fieldLink RX5 21 "PromiseWheel$Promises" "given" "I", Cond.methodLink RX8 43 yX3_copyFrom, Cond.instanceMethod yX3_copyFrom, Cond.selects RX3 yX3_copyFrom yX3_copyFrom, Cond.initialized RX3, Cond.code yX3_copyFrom cX3_copyFrom 2 none, Cond.fieldLink RX3 9 "PromiseWheel$Lines" "first" "[I", Cond.methodLink RX3 33 arraycopyName, Cond.fieldLink RX3 15 "PromiseWheel$Lines" "last" "[I", Cond.fieldLink RX3 18 "PromiseWheel$Lines" "length" "[I", Cond.fieldLink RX3 21 "PromiseWheel$Lines" "line" "[I", Cond.fieldLink RX3 24 "PromiseWheel$Lines" "behind" "[I", Cond.methodLink RX8 46 yX0_copyFrom, Cond.instanceMethod yX0_copyFrom, Cond.selects RX0 yX0_copyFrom yX0_copyFrom, Cond.initialized RX0, Cond.code yX0_copyFrom cX0_copyFrom 2 none, Cond.fieldLink RX0 11 "PromiseWheel$Diary" "facts" "[I"]
def wsX9_undo_r4 : List Cond := [Cond.methodLink RX0 15 arraycopyName, Cond.fieldLink RX0 21 "PromiseWheel$Diary" "calls" "I"]
def wsX9_undo : List Cond := .code yX9_undo cX9_undo 1 (some .int) :: ((wsX9_undo_r1 ++ (wsX9_undo_r2 ++ (wsX9_undo_r3 ++ wsX9_undo_r4))) ++ wsX90 ++ wsX20 ++ wsX60 ++ wsX80 ++ wsX50 ++ wsX30 ++ wsX00)
def wsX9_append : List Cond := .code yX9_append cX9_append 2 (some .int) :: ([.fieldLink RX9 26 "PromiseWheel" "program" "LPromiseWheel$Program;", .methodLink RX9 86 yX7_add, .instanceMethod yX7_add, .selects RX7 yX7_add yX7_add, .initialized RX7, .code yX7_add cX7_add 2 (some .int), .fieldLink RX7 15 "PromiseWheel$Text" "length" "I", .fieldLink RX7 9 "PromiseWheel$Text" "characters" "[I"] ++ wsX90 ++ wsX40 ++ wsX70)
def wsX9_clearText : List Cond := .code yX9_clearText cX9_clearText 1 (some .int) :: ([.fieldLink RX9 26 "PromiseWheel" "program" "LPromiseWheel$Program;", .methodLink RX9 91 yX7_makeEmpty, .instanceMethod yX7_makeEmpty, .selects RX7 yX7_makeEmpty yX7_makeEmpty, .initialized RX7, .code yX7_makeEmpty cX7_makeEmpty 2 (some .int), .fieldLink RX7 15 "PromiseWheel$Text" "length" "I"] ++ wsX90 ++ wsX40 ++ wsX70)
def wsX9_performCommand_r1 : List Cond := [Cond.fieldLink RX9 12 "PromiseWheel" "state" "LPromiseWheel$State;", Cond.fieldLink RX9 26 "PromiseWheel" "program" "LPromiseWheel$Program;", Cond.methodLink RX9 192 yX4_command, Cond.instanceMethod yX4_command, Cond.selects RX4 yX4_command yX4_command, Cond.initialized RX4, Cond.code yX4_command cX4_command 1 (some .int), Cond.fieldLink RX4 32 "PromiseWheel$Program" "command" "I", Cond.methodLink RX9 195 yX4_number, Cond.instanceMethod yX4_number, Cond.selects RX4 yX4_number yX4_number, Cond.code yX4_number cX4_number 2 (some .int), Cond.fieldLink RX4 18 "PromiseWheel$Program" "numbers" "[I", Cond.methodLink RX9 45 yX8_addPromise, Cond.instanceMethod yX8_addPromise, Cond.selects RX8 yX8_addPromise yX8_addPromise, Cond.initialized RX8, Cond.code yX8_addPromise cX8_addPromise 7 (some .int), Cond.fieldLink RX8 12 "PromiseWheel$Wheel" "promises" "LPromiseWheel$Promises;", Cond.fieldLink RX8 49 "PromiseWheel$Wheel" "now" "I", Cond.fieldLink RX8 21 "PromiseWheel$Wheel" "lines" "LPromiseWheel$Lines;", Cond.methodLink RX8 73 yX5_given, Cond.instanceMethod yX5_given, Cond.selects RX5 yX5_given yX5_given]
def wsX9_performCommand_r2 : List Cond := [Cond.initialized RX5, Cond.code yX5_given cX5_given 1 (some .int), Cond.fieldLink RX5 21 "PromiseWheel$Promises" "given" "I", Cond.methodLink RX8 77 yX5_add, Cond.instanceMethod yX5_add, Cond.selects RX5 yX5_add yX5_add, Cond.code yX5_add cX5_add 5 (some .int), Cond.methodLink RX5 29 yX5_write, Cond.instanceMethod yX5_write, Cond.selects RX5 yX5_write yX5_write, Cond.code yX5_write cX5_write 4 none, Cond.fieldLink RX5 11 "PromiseWheel$Promises" "facts" "[I", Cond.methodLink RX8 81 yX8_lineFor, Cond.instanceMethod yX8_lineFor, Cond.selects RX8 yX8_lineFor yX8_lineFor, Cond.code yX8_lineFor cX8_lineFor 3 (some .int), Cond.methodLink RX8 85 yX3_join, Cond.instanceMethod yX3_join, Cond.selects RX3 yX3_join yX3_join, Cond.initialized RX3, Cond.code yX3_join cX3_join 4 none, Cond.fieldLink RX3 15 "PromiseWheel$Lines" "last" "[I", Cond.fieldLink RX3 9 "PromiseWheel$Lines" "first" "[I", Cond.fieldLink RX3 24 "PromiseWheel$Lines" "behind" "[I"]
def wsX9_performCommand_r3 : List Cond := [Cond.fieldLink RX3 21 "PromiseWheel$Lines" "line" "[I", Cond.fieldLink RX3 18 "PromiseWheel$Lines" "length" "[I", Cond.methodLink RX9 55 yX8_breakPromise, Cond.instanceMethod yX8_breakPromise, Cond.selects RX8 yX8_breakPromise yX8_breakPromise, Cond.code yX8_breakPromise cX8_breakPromise 2 (some .int), Cond.fieldLink RX8 55 "PromiseWheel$Wheel" "brokenStanding" "I", Cond.methodLink RX8 89 yX5_has, Cond.instanceMethod yX5_has, Cond.selects RX5 yX5_has yX5_has, Cond.code yX5_has cX5_has 2 (some .boolean), Cond.methodLink RX8 93 yX5_isAlive, Cond.instanceMethod yX5_isAlive, Cond.selects RX5 yX5_isAlive yX5_isAlive, Cond.code yX5_isAlive cX5_isAlive 3 (some .boolean), Cond.methodLink RX5 25 yX5_fact, Cond.instanceMethod yX5_fact, Cond.selects RX5 yX5_fact yX5_fact, Cond.code yX5_fact cX5_fact 3 (some .int), Cond.methodLink RX8 96 yX5_write, Cond.methodLink RX9 58 yX8_movePromise, Cond.instanceMethod yX8_movePromise, Cond.selects RX8 yX8_movePromise yX8_movePromise, Cond.code yX8_movePromise cX8_movePromise 5 (some .int)]
def wsX9_performCommand_r4 : List Cond := [Cond.methodLink RX8 100 yX5_isIn, Cond.instanceMethod yX5_isIn, Cond.selects RX5 yX5_isIn yX5_isIn, Cond.code yX5_isIn cX5_isIn 3 (some .boolean), Cond.methodLink RX8 104 yX5_fact, Cond.methodLink RX8 108 yX3_leave, Cond.instanceMethod yX3_leave, Cond.selects RX3 yX3_leave yX3_leave, Cond.code yX3_leave cX3_leave 6 none, Cond.methodLink RX3 49 yX3_lineOf, Cond.instanceMethod yX3_lineOf, Cond.selects RX3 yX3_lineOf yX3_lineOf, Cond.code yX3_lineOf cX3_lineOf 2 (some .int), Cond.methodLink RX3 46 yX3_follower, Cond.instanceMethod yX3_follower, Cond.selects RX3 yX3_follower yX3_follower, Cond.code yX3_follower cX3_follower 2 (some .int), Cond.methodLink RX9 62 yX8_passTicks, Cond.instanceMethod yX8_passTicks, Cond.selects RX8 yX8_passTicks yX8_passTicks, Cond.code yX8_passTicks cX8_passTicks 4 (some .int), Cond.fieldLink RX8 28 "PromiseWheel$Wheel" "diary" "LPromiseWheel$Diary;", Cond.methodLink RX8 112 yX0_calls, Cond.instanceMethod yX0_calls]
def wsX9_performCommand_r5 : List Cond := [Cond.selects RX0 yX0_calls yX0_calls, Cond.initialized RX0, Cond.code yX0_calls cX0_calls 1 (some .int), Cond.fieldLink RX0 21 "PromiseWheel$Diary" "calls" "I", Cond.methodLink RX8 115 yX8_passTick, Cond.instanceMethod yX8_passTick, Cond.selects RX8 yX8_passTick yX8_passTick, Cond.code yX8_passTick cX8_passTick 1 none, Cond.fieldLink RX8 36 "PromiseWheel$Wheel" "bound" "I", Cond.fieldLink RX8 70 "PromiseWheel$Wheel" "longestQueue" "I", Cond.methodLink RX8 139 Lib.Math.max.name, Cond.static Lib.Math.max.name, Cond.initialized "java/lang/Math", Cond.code Lib.Math.max.name Lib.Math.max.code 2 (some .int), Cond.methodLink RX8 124 yX8_letFall, Cond.instanceMethod yX8_letFall, Cond.selects RX8 yX8_letFall yX8_letFall, Cond.code yX8_letFall cX8_letFall 6 none, Cond.fieldLink RX8 61 "PromiseWheel$Wheel" "falls" "I", Cond.methodLink RX8 144 yX8_presentSlot, Cond.instanceMethod yX8_presentSlot, Cond.selects RX8 yX8_presentSlot yX8_presentSlot, Cond.code yX8_presentSlot cX8_presentSlot 2 (some .int), Cond.methodLink RX8 136 yX3_lengthOf]
def wsX9_performCommand_r6 : List Cond := [Cond.instanceMethod yX3_lengthOf, Cond.selects RX3 yX3_lengthOf yX3_lengthOf, Cond.code yX3_lengthOf cX3_lengthOf 2 (some .int), Cond.methodLink RX8 147 yX3_frontOf, Cond.instanceMethod yX3_frontOf, Cond.selects RX3 yX3_frontOf yX3_frontOf, Cond.code yX3_frontOf cX3_frontOf 2 (some .int), Cond.methodLink RX8 118 yX8_noteSwept, Cond.instanceMethod yX8_noteSwept, Cond.selects RX8 yX8_noteSwept yX8_noteSwept, Cond.code yX8_noteSwept cX8_noteSwept 2 none, Cond.fieldLink RX8 64 "PromiseWheel$Wheel" "swept" "I", Cond.methodLink RX8 127 yX8_letArrive, Cond.instanceMethod yX8_letArrive, Cond.selects RX8 yX8_letArrive yX8_letArrive, Cond.code yX8_letArrive cX8_letArrive 5 none, Cond.methodLink RX8 130 yX8_serveQueue, Cond.instanceMethod yX8_serveQueue, Cond.selects RX8 yX8_serveQueue yX8_serveQueue, Cond.code yX8_serveQueue cX8_serveQueue 5 none, Cond.fieldLink RX8 32 "PromiseWheel$Wheel" "room" "I", Cond.methodLink RX8 150 yX8_callPromise, Cond.instanceMethod yX8_callPromise, Cond.selects RX8 yX8_callPromise yX8_callPromise]
def wsX9_performCommand_r7 : List Cond := [Cond.code yX8_callPromise cX8_callPromise 6 none, Cond.fieldLink RX8 58 "PromiseWheel$Wheel" "lateCalls" "I", Cond.methodLink RX8 153 yX0_write, Cond.instanceMethod yX0_write, Cond.selects RX0 yX0_write yX0_write, Cond.code yX0_write cX0_write 5 none, Cond.fieldLink RX0 11 "PromiseWheel$Diary" "facts" "[I", Cond.methodLink RX0 25 yJ9_floorMod_7cf53, Cond.static yJ9_floorMod_7cf53, Cond.initialized RJ9, Cond.code yJ9_floorMod_7cf53 cJ9_floorMod_7cf53 3 (some .int), Cond.methodLink RX8 154 yX8_dueOfRepetition, Cond.instanceMethod yX8_dueOfRepetition, Cond.selects RX8 yX8_dueOfRepetition yX8_dueOfRepetition, Cond.code yX8_dueOfRepetition cX8_dueOfRepetition 4 (some .int), Cond.fieldLink RX8 52 "PromiseWheel$Wheel" "drift" "I", Cond.fieldLink RX8 67 "PromiseWheel$Wheel" "passedOver" "I", Cond.methodLink RX8 133 yX8_sweepAll, Cond.instanceMethod yX8_sweepAll, Cond.selects RX8 yX8_sweepAll yX8_sweepAll, Cond.code yX8_sweepAll cX8_sweepAll 3 (some .int), Cond.methodLink RX9 65 yX8_sweepAll]
def wsX9_performCommand : List Cond := .code yX9_performCommand cX9_performCommand 2 (some .int) :: ((wsX9_performCommand_r1 ++ (wsX9_performCommand_r2 ++ (wsX9_performCommand_r3 ++ (wsX9_performCommand_r4 ++ (wsX9_performCommand_r5 ++ (wsX9_performCommand_r6 ++ wsX9_performCommand_r7)))))) ++ wsX90 ++ wsX60 ++ wsX40 ++ wsX80 ++ wsX50 ++ wsX30 ++ wsX00)
def wsX9_run_r1 : List Cond := [Cond.fieldLink RX9 19 "PromiseWheel" "history" "LPromiseWheel$History;", Cond.fieldLink RX9 12 "PromiseWheel" "state" "LPromiseWheel$State;", Cond.fieldLink RX9 26 "PromiseWheel" "program" "LPromiseWheel$Program;", Cond.methodLink RX9 37 yX2_note, Cond.instanceMethod yX2_note, Cond.selects RX2 yX2_note yX2_note, Cond.initialized RX2, Cond.code yX2_note cX2_note 3 none, Cond.fieldLink RX2 22 "PromiseWheel$History" "noted" "I", Cond.methodLink RX2 25 yX2_rowAt, Cond.instanceMethod yX2_rowAt, Cond.selects RX2 yX2_rowAt yX2_rowAt, Cond.code yX2_rowAt cX2_rowAt 2 (some (.object "PromiseWheel$State")), Cond.fieldLink RX2 13 "PromiseWheel$History" "rows" "[LPromiseWheel$State;", Cond.methodLink RX2 29 yX6_copyFrom, Cond.instanceMethod yX6_copyFrom, Cond.selects RX6 yX6_copyFrom yX6_copyFrom, Cond.initialized RX6, Cond.code yX6_copyFrom cX6_copyFrom 5 none, Cond.fieldLink RX6 12 "PromiseWheel$State" "wheel" "LPromiseWheel$Wheel;", Cond.fieldLink RX6 22 "PromiseWheel$State" "taken" "[Z", Cond.fieldLink RX6 18 "PromiseWheel$State" "snapshots" "[LPromiseWheel$Wheel;", Cond.methodLink RX6 26 yX8_copyFrom, Cond.instanceMethod yX8_copyFrom]
def wsX9_run_r2 : List Cond := [Cond.selects RX8 yX8_copyFrom yX8_copyFrom, Cond.initialized RX8, Cond.code yX8_copyFrom cX8_copyFrom 2 none, Cond.fieldLink RX8 12 "PromiseWheel$Wheel" "promises" "LPromiseWheel$Promises;", Cond.fieldLink RX8 21 "PromiseWheel$Wheel" "lines" "LPromiseWheel$Lines;", Cond.fieldLink RX8 28 "PromiseWheel$Wheel" "diary" "LPromiseWheel$Diary;", Cond.fieldLink RX8 49 "PromiseWheel$Wheel" "now" "I", Cond.fieldLink RX8 32 "PromiseWheel$Wheel" "room" "I", Cond.fieldLink RX8 36 "PromiseWheel$Wheel" "bound" "I", Cond.fieldLink RX8 52 "PromiseWheel$Wheel" "drift" "I", Cond.fieldLink RX8 55 "PromiseWheel$Wheel" "brokenStanding" "I", Cond.fieldLink RX8 58 "PromiseWheel$Wheel" "lateCalls" "I", Cond.fieldLink RX8 61 "PromiseWheel$Wheel" "falls" "I", Cond.fieldLink RX8 64 "PromiseWheel$Wheel" "swept" "I", Cond.fieldLink RX8 67 "PromiseWheel$Wheel" "passedOver" "I", Cond.fieldLink RX8 70 "PromiseWheel$Wheel" "longestQueue" "I", Cond.methodLink RX8 39 yX5_copyFrom, Cond.instanceMethod yX5_copyFrom, Cond.selects RX5 yX5_copyFrom yX5_copyFrom, Cond.initialized RX5, Cond.code yX5_copyFrom cX5_copyFrom 2 none, Cond.fieldLink RX5 11 "PromiseWheel$Promises" "facts" "[I", Cond.methodLink RX5 15 arraycopyName, Cond.native arraycopyName]
def wsX9_run_r3 : List Cond := [Cond.static arraycopyName, Cond.initialized "java/lang/System", Cond.fieldLink RX5 21 "PromiseWheel$Promises" "given" "I", Cond.methodLink RX8 43 yX3_copyFrom, Cond.instanceMethod yX3_copyFrom, Cond.selects RX3 yX3_copyFrom yX3_copyFrom, Cond.initialized RX3, Cond.code yX3_copyFrom cX3_copyFrom 2 none, Cond.fieldLink RX3 9 "PromiseWheel$Lines" "first" "[I", Cond.methodLink RX3 33 arraycopyName, Cond.fieldLink RX3 15 "PromiseWheel$Lines" "last" "[I", Cond.fieldLink RX3 18 "PromiseWheel$Lines" "length" "[I", Cond.fieldLink RX3 21 "PromiseWheel$Lines" "line" "[I", Cond.fieldLink RX3 24 "PromiseWheel$Lines" "behind" "[I", Cond.methodLink RX8 46 yX0_copyFrom, Cond.instanceMethod yX0_copyFrom, Cond.selects RX0 yX0_copyFrom yX0_copyFrom, Cond.initialized RX0, Cond.code yX0_copyFrom cX0_copyFrom 2 none, Cond.fieldLink RX0 11 "PromiseWheel$Diary" "facts" "[I", Cond.methodLink RX0 15 arraycopyName, Cond.fieldLink RX0 21 "PromiseWheel$Diary" "calls" "I", Cond.methodLink RX9 94 yX4_begin, Cond.instanceMethod yX4_begin]
def wsX9_run_r4 : List Cond := [Cond.selects RX4 yX4_begin yX4_begin, Cond.initialized RX4, Cond.code yX4_begin cX4_begin 1 none, Cond.fieldLink RX4 12 "PromiseWheel$Program" "text" "LPromiseWheel$Text;", Cond.fieldLink RX4 28 "PromiseWheel$Program" "failed" "Z", Cond.fieldLink RX4 32 "PromiseWheel$Program" "command" "I", Cond.fieldLink RX4 36 "PromiseWheel$Program" "commandPlace" "I", Cond.fieldLink RX4 39 "PromiseWheel$Program" "commandsDone" "I", Cond.methodLink RX4 25 yX7_beginReading, Cond.instanceMethod yX7_beginReading, Cond.selects RX7 yX7_beginReading yX7_beginReading, Cond.initialized RX7, Cond.code yX7_beginReading cX7_beginReading 1 none, Cond.fieldLink RX7 19 "PromiseWheel$Text" "start" "I", Cond.fieldLink RX7 22 "PromiseWheel$Text" "end" "I", Cond.fieldLink RX7 25 "PromiseWheel$Text" "kind" "I", Cond.methodLink RX9 97 yX4_readCommand, Cond.instanceMethod yX4_readCommand, Cond.selects RX4 yX4_readCommand yX4_readCommand, Cond.code yX4_readCommand cX4_readCommand 3 (some .boolean), Cond.fieldLink RX4 18 "PromiseWheel$Program" "numbers" "[I", Cond.methodLink RX4 45 yX7_readToken, Cond.instanceMethod yX7_readToken, Cond.selects RX7 yX7_readToken yX7_readToken]
def wsX9_run_r5 : List Cond := [Cond.code yX7_readToken cX7_readToken 2 none, Cond.methodLink RX7 28 yX7_at, Cond.instanceMethod yX7_at, Cond.selects RX7 yX7_at yX7_at, Cond.code yX7_at cX7_at 2 (some .int), Cond.fieldLink RX7 15 "PromiseWheel$Text" "length" "I", Cond.fieldLink RX7 9 "PromiseWheel$Text" "characters" "[I", Cond.methodLink RX7 32 yX7_kindOf, Cond.static yX7_kindOf, Cond.code yX7_kindOf cX7_kindOf 1 (some .int), Cond.methodLink RX4 48 yX7_isAtEnd, Cond.instanceMethod yX7_isAtEnd, Cond.selects RX7 yX7_isAtEnd yX7_isAtEnd, Cond.code yX7_isAtEnd cX7_isAtEnd 1 (some .boolean), Cond.methodLink RX4 52 yX4_commandOfWord, Cond.instanceMethod yX4_commandOfWord, Cond.selects RX4 yX4_commandOfWord yX4_commandOfWord, Cond.code yX4_commandOfWord cX4_commandOfWord 1 (some .int), Cond.methodLink RX4 81 yX7_isWord, Cond.instanceMethod yX7_isWord, Cond.selects RX7 yX7_isWord yX7_isWord, Cond.code yX7_isWord cX7_isWord 3 (some .boolean), Cond.methodLink RX7 35 yJ0_length_8abf5, Cond.instanceMethod yJ0_length_8abf5]
def wsX9_run_r6 : List Cond := [Cond.selects RJ0 yJ0_length_8abf5 yJ0_length_8abf5, Cond.initialized RJ0, Cond.code yJ0_length_8abf5 cJ0_length_8abf5 1 (some .int), Cond.fieldLink RJ0 9 "java/lang/String" "value" "[B", Cond.methodLink RJ0 335 yJ0_coder_7d493, Cond.instanceMethod yJ0_coder_7d493, Cond.selects RJ0 yJ0_coder_7d493 yJ0_coder_7d493, Cond.code yJ0_coder_7d493 cJ0_coder_7d493 1 (some .byte), Cond.fieldLink RJ0 38 "java/lang/String" "COMPACT_STRINGS" "Z", Cond.fieldLink RJ0 15 "java/lang/String" "coder" "B", Cond.methodLink RX7 40 yJ0_charAt_5068e, Cond.instanceMethod yJ0_charAt_5068e, Cond.selects RJ0 yJ0_charAt_5068e yJ0_charAt_5068e, Cond.code yJ0_charAt_5068e cJ0_charAt_5068e 2 (some .char), Cond.methodLink RJ0 492 yJ0_isLatin1_aae02, Cond.instanceMethod yJ0_isLatin1_aae02, Cond.selects RJ0 yJ0_isLatin1_aae02 yJ0_isLatin1_aae02, Cond.code yJ0_isLatin1_aae02 cJ0_isLatin1_aae02 1 (some .boolean), Cond.methodLink RJ0 495 yJ1_charAt_3b067, Cond.static yJ1_charAt_3b067, Cond.initialized RJ1, Cond.code yJ1_charAt_3b067 cJ1_charAt_3b067 2 (some .char), Cond.methodLink RJ1 9 yJ0_checkIndex_df160, Cond.static yJ0_checkIndex_df160]
def wsX9_run_r7 : List Cond := [Cond.code yJ0_checkIndex_df160 cJ0_checkIndex_df160 2 none, Cond.fieldLink RJ0 1053 "jdk/internal/util/Preconditions" "SIOOBE_FORMATTER" "Ljava/util/function/BiFunction;", Cond.methodLink RJ0 1059 yJ3_checkIndex_8e157, Cond.static yJ3_checkIndex_8e157, Cond.initialized RJ3, Cond.code yJ3_checkIndex_8e157 cJ3_checkIndex_8e157 3 (some .int), Cond.methodLink RJ0 498 yJ2_charAt_3b067, Cond.static yJ2_charAt_3b067, Cond.initialized RJ2, Cond.code yJ2_charAt_3b067 cJ2_charAt_3b067 2 (some .char), Cond.methodLink RJ2 67 yJ2_checkIndex_2214a, Cond.static yJ2_checkIndex_2214a, Cond.code yJ2_checkIndex_2214a cJ2_checkIndex_2214a 2 none, Cond.methodLink RJ2 48 yJ2_length_9d52b, Cond.static yJ2_length_9d52b, Cond.code yJ2_length_9d52b cJ2_length_9d52b 1 (some .int), Cond.methodLink RJ2 414 yJ0_checkIndex_df160, Cond.methodLink RJ2 71 yJ2_getChar_3b067, Cond.static yJ2_getChar_3b067, Cond.code yJ2_getChar_3b067 cJ2_getChar_3b067 2 (some .char), Cond.fieldLink RJ2 44 "java/lang/StringUTF16" "$assertionsDisabled" "Z", Cond.fieldLink RJ2 59 "java/lang/StringUTF16" "HI_BYTE_SHIFT" "I", Cond.fieldLink RJ2 63 "java/lang/StringUTF16" "LO_BYTE_SHIFT" "I", Cond.methodLink RX4 56 yX7_tokenStart]
def wsX9_run_r8 : List Cond := [Cond.instanceMethod yX7_tokenStart, Cond.selects RX7 yX7_tokenStart yX7_tokenStart, Cond.code yX7_tokenStart cX7_tokenStart 1 (some .int), Cond.methodLink RX4 59 yX4_failAtToken, Cond.instanceMethod yX4_failAtToken, Cond.selects RX4 yX4_failAtToken yX4_failAtToken, Cond.code yX4_failAtToken cX4_failAtToken 1 (some .boolean), Cond.methodLink RX4 75 yX4_fail, Cond.instanceMethod yX4_fail, Cond.selects RX4 yX4_fail yX4_fail, Cond.code yX4_fail cX4_fail 4 none, Cond.fieldLink RX4 42 "PromiseWheel$Program" "everFailed" "Z", Cond.fieldLink RX4 22 "PromiseWheel$Program" "failureParts" "[I", Cond.methodLink RX4 62 yX4_numbersOf, Cond.static yX4_numbersOf, Cond.code yX4_numbersOf cX4_numbersOf 1 (some .int), Cond.methodLink RX4 66 yX7_isNumber, Cond.instanceMethod yX7_isNumber, Cond.selects RX7 yX7_isNumber yX7_isNumber, Cond.code yX7_isNumber cX7_isNumber 2 (some .boolean), Cond.methodLink RX4 69 yX7_numberValue, Cond.instanceMethod yX7_numberValue, Cond.selects RX7 yX7_numberValue yX7_numberValue, Cond.code yX7_numberValue cX7_numberValue 3 (some .int)]
def wsX9_run_r9 : List Cond := [Cond.methodLink RX4 72 yX7_isSemicolon, Cond.instanceMethod yX7_isSemicolon, Cond.selects RX7 yX7_isSemicolon yX7_isSemicolon, Cond.code yX7_isSemicolon cX7_isSemicolon 1 (some .boolean), Cond.methodLink RX9 101 yX9_performCommand, Cond.instanceMethod yX9_performCommand, Cond.selects RX9 yX9_performCommand yX9_performCommand, Cond.initialized RX9, Cond.code yX9_performCommand cX9_performCommand 2 (some .int), Cond.methodLink RX9 192 yX4_command, Cond.instanceMethod yX4_command, Cond.selects RX4 yX4_command yX4_command, Cond.code yX4_command cX4_command 1 (some .int), Cond.methodLink RX9 195 yX4_number, Cond.instanceMethod yX4_number, Cond.selects RX4 yX4_number yX4_number, Cond.code yX4_number cX4_number 2 (some .int), Cond.methodLink RX9 45 yX8_addPromise, Cond.instanceMethod yX8_addPromise, Cond.selects RX8 yX8_addPromise yX8_addPromise, Cond.code yX8_addPromise cX8_addPromise 7 (some .int), Cond.methodLink RX8 73 yX5_given, Cond.instanceMethod yX5_given, Cond.selects RX5 yX5_given yX5_given]
def wsX9_run_r10 : List Cond := [Cond.code yX5_given cX5_given 1 (some .int), Cond.methodLink RX8 77 yX5_add, Cond.instanceMethod yX5_add, Cond.selects RX5 yX5_add yX5_add, Cond.code yX5_add cX5_add 5 (some .int), Cond.methodLink RX5 29 yX5_write, Cond.instanceMethod yX5_write, Cond.selects RX5 yX5_write yX5_write, Cond.code yX5_write cX5_write 4 none, Cond.methodLink RX8 81 yX8_lineFor, Cond.instanceMethod yX8_lineFor, Cond.selects RX8 yX8_lineFor yX8_lineFor, Cond.code yX8_lineFor cX8_lineFor 3 (some .int), Cond.methodLink RX8 85 yX3_join, Cond.instanceMethod yX3_join, Cond.selects RX3 yX3_join yX3_join, Cond.code yX3_join cX3_join 4 none, Cond.methodLink RX9 55 yX8_breakPromise, Cond.instanceMethod yX8_breakPromise, Cond.selects RX8 yX8_breakPromise yX8_breakPromise, Cond.code yX8_breakPromise cX8_breakPromise 2 (some .int), Cond.methodLink RX8 89 yX5_has, Cond.instanceMethod yX5_has, Cond.selects RX5 yX5_has yX5_has]
def wsX9_run_r11 : List Cond := [Cond.code yX5_has cX5_has 2 (some .boolean), Cond.methodLink RX8 93 yX5_isAlive, Cond.instanceMethod yX5_isAlive, Cond.selects RX5 yX5_isAlive yX5_isAlive, Cond.code yX5_isAlive cX5_isAlive 3 (some .boolean), Cond.methodLink RX5 25 yX5_fact, Cond.instanceMethod yX5_fact, Cond.selects RX5 yX5_fact yX5_fact, Cond.code yX5_fact cX5_fact 3 (some .int), Cond.methodLink RX8 96 yX5_write, Cond.methodLink RX9 58 yX8_movePromise, Cond.instanceMethod yX8_movePromise, Cond.selects RX8 yX8_movePromise yX8_movePromise, Cond.code yX8_movePromise cX8_movePromise 5 (some .int), Cond.methodLink RX8 100 yX5_isIn, Cond.instanceMethod yX5_isIn, Cond.selects RX5 yX5_isIn yX5_isIn, Cond.code yX5_isIn cX5_isIn 3 (some .boolean), Cond.methodLink RX8 104 yX5_fact, Cond.methodLink RX8 108 yX3_leave, Cond.instanceMethod yX3_leave, Cond.selects RX3 yX3_leave yX3_leave, Cond.code yX3_leave cX3_leave 6 none, Cond.methodLink RX3 49 yX3_lineOf]
def wsX9_run_r12 : List Cond := [Cond.instanceMethod yX3_lineOf, Cond.selects RX3 yX3_lineOf yX3_lineOf, Cond.code yX3_lineOf cX3_lineOf 2 (some .int), Cond.methodLink RX3 46 yX3_follower, Cond.instanceMethod yX3_follower, Cond.selects RX3 yX3_follower yX3_follower, Cond.code yX3_follower cX3_follower 2 (some .int), Cond.methodLink RX9 62 yX8_passTicks, Cond.instanceMethod yX8_passTicks, Cond.selects RX8 yX8_passTicks yX8_passTicks, Cond.code yX8_passTicks cX8_passTicks 4 (some .int), Cond.methodLink RX8 112 yX0_calls, Cond.instanceMethod yX0_calls, Cond.selects RX0 yX0_calls yX0_calls, Cond.code yX0_calls cX0_calls 1 (some .int), Cond.methodLink RX8 115 yX8_passTick, Cond.instanceMethod yX8_passTick, Cond.selects RX8 yX8_passTick yX8_passTick, Cond.code yX8_passTick cX8_passTick 1 none, Cond.methodLink RX8 139 Lib.Math.max.name, Cond.static Lib.Math.max.name, Cond.initialized "java/lang/Math", Cond.code Lib.Math.max.name Lib.Math.max.code 2 (some .int), Cond.methodLink RX8 124 yX8_letFall]
def wsX9_run_r13 : List Cond := [Cond.instanceMethod yX8_letFall, Cond.selects RX8 yX8_letFall yX8_letFall, Cond.code yX8_letFall cX8_letFall 6 none, Cond.methodLink RX8 144 yX8_presentSlot, Cond.instanceMethod yX8_presentSlot, Cond.selects RX8 yX8_presentSlot yX8_presentSlot, Cond.code yX8_presentSlot cX8_presentSlot 2 (some .int), Cond.methodLink RX8 136 yX3_lengthOf, Cond.instanceMethod yX3_lengthOf, Cond.selects RX3 yX3_lengthOf yX3_lengthOf, Cond.code yX3_lengthOf cX3_lengthOf 2 (some .int), Cond.methodLink RX8 147 yX3_frontOf, Cond.instanceMethod yX3_frontOf, Cond.selects RX3 yX3_frontOf yX3_frontOf, Cond.code yX3_frontOf cX3_frontOf 2 (some .int), Cond.methodLink RX8 118 yX8_noteSwept, Cond.instanceMethod yX8_noteSwept, Cond.selects RX8 yX8_noteSwept yX8_noteSwept, Cond.code yX8_noteSwept cX8_noteSwept 2 none, Cond.methodLink RX8 127 yX8_letArrive, Cond.instanceMethod yX8_letArrive, Cond.selects RX8 yX8_letArrive yX8_letArrive, Cond.code yX8_letArrive cX8_letArrive 5 none, Cond.methodLink RX8 130 yX8_serveQueue]
def wsX9_run_r14 : List Cond := [Cond.instanceMethod yX8_serveQueue, Cond.selects RX8 yX8_serveQueue yX8_serveQueue, Cond.code yX8_serveQueue cX8_serveQueue 5 none, Cond.methodLink RX8 150 yX8_callPromise, Cond.instanceMethod yX8_callPromise, Cond.selects RX8 yX8_callPromise yX8_callPromise, Cond.code yX8_callPromise cX8_callPromise 6 none, Cond.methodLink RX8 153 yX0_write, Cond.instanceMethod yX0_write, Cond.selects RX0 yX0_write yX0_write, Cond.code yX0_write cX0_write 5 none, Cond.methodLink RX0 25 yJ9_floorMod_7cf53, Cond.static yJ9_floorMod_7cf53, Cond.initialized RJ9, Cond.code yJ9_floorMod_7cf53 cJ9_floorMod_7cf53 3 (some .int), Cond.methodLink RX8 154 yX8_dueOfRepetition, Cond.instanceMethod yX8_dueOfRepetition, Cond.selects RX8 yX8_dueOfRepetition yX8_dueOfRepetition, Cond.code yX8_dueOfRepetition cX8_dueOfRepetition 4 (some .int), Cond.methodLink RX8 133 yX8_sweepAll, Cond.instanceMethod yX8_sweepAll, Cond.selects RX8 yX8_sweepAll yX8_sweepAll, Cond.code yX8_sweepAll cX8_sweepAll 3 (some .int), Cond.methodLink RX9 65 yX8_sweepAll]
def wsX9_run_r15 : List Cond := [Cond.methodLink RX9 104 yX4_finishCommand, Cond.instanceMethod yX4_finishCommand, Cond.selects RX4 yX4_finishCommand yX4_finishCommand, Cond.code yX4_finishCommand cX4_finishCommand 2 none, Cond.methodLink RX9 108 yX4_hasFailed, Cond.instanceMethod yX4_hasFailed, Cond.selects RX4 yX4_hasFailed yX4_hasFailed, Cond.code yX4_hasFailed cX4_hasFailed 1 (some .boolean), Cond.methodLink RX9 111 yX2_copyNotedInto, Cond.instanceMethod yX2_copyNotedInto, Cond.selects RX2 yX2_copyNotedInto yX2_copyNotedInto, Cond.code yX2_copyNotedInto cX2_copyNotedInto 3 none, Cond.methodLink RX9 114 yX4_part, Cond.instanceMethod yX4_part, Cond.selects RX4 yX4_part yX4_part, Cond.code yX4_part cX4_part 2 (some .int), Cond.methodLink RX9 91 yX7_makeEmpty, Cond.instanceMethod yX7_makeEmpty, Cond.selects RX7 yX7_makeEmpty yX7_makeEmpty, Cond.code yX7_makeEmpty cX7_makeEmpty 2 (some .int), Cond.methodLink RX9 117 yX4_commandsDone, Cond.instanceMethod yX4_commandsDone, Cond.selects RX4 yX4_commandsDone yX4_commandsDone, Cond.code yX4_commandsDone cX4_commandsDone 1 (some .int)]
def wsX9_run_r16 : List Cond := [Cond.methodLink RX9 51 yX9_recorded, Cond.instanceMethod yX9_recorded, Cond.selects RX9 yX9_recorded yX9_recorded, Cond.code yX9_recorded cX9_recorded 2 (some .int), Cond.methodLink RX9 189 yX2_keepNoted, Cond.instanceMethod yX2_keepNoted, Cond.selects RX2 yX2_keepNoted yX2_keepNoted, Cond.code yX2_keepNoted cX2_keepNoted 1 none, Cond.fieldLink RX2 18 "PromiseWheel$History" "states" "I", Cond.methodLink RX2 33 Lib.Math.min.name, Cond.static Lib.Math.min.name, Cond.code Lib.Math.min.name Lib.Math.min.code 2 (some .int)]
def wsX9_run : List Cond := .code yX9_run cX9_run 2 (some .int) :: ((wsX9_run_r1 ++ (wsX9_run_r2 ++ (wsX9_run_r3 ++ (wsX9_run_r4 ++ (wsX9_run_r5 ++ (wsX9_run_r6 ++ (wsX9_run_r7 ++ (wsX9_run_r8 ++ (wsX9_run_r9 ++ (wsX9_run_r10 ++ (wsX9_run_r11 ++ (wsX9_run_r12 ++ (wsX9_run_r13 ++ (wsX9_run_r14 ++ (wsX9_run_r15 ++ wsX9_run_r16))))))))))))))) ++ wsX90 ++ wsX40 ++ wsX20 ++ wsX60 ++ wsX80 ++ wsX50 ++ wsX30 ++ wsX00 ++ wsX70)
def wsX9_failure : List Cond := .code yX9_failure cX9_failure 2 (some .int) :: ([.fieldLink RX9 26 "PromiseWheel" "program" "LPromiseWheel$Program;", .methodLink RX9 114 yX4_part, .instanceMethod yX4_part, .selects RX4 yX4_part yX4_part, .initialized RX4, .code yX4_part cX4_part 2 (some .int), .fieldLink RX4 42 "PromiseWheel$Program" "everFailed" "Z", .fieldLink RX4 22 "PromiseWheel$Program" "failureParts" "[I"] ++ wsX90 ++ wsX40)
def wsX9_count_r1 : List Cond := [Cond.fieldLink RX9 12 "PromiseWheel" "state" "LPromiseWheel$State;", Cond.fieldLink RX9 19 "PromiseWheel" "history" "LPromiseWheel$History;", Cond.fieldLink RX9 26 "PromiseWheel" "program" "LPromiseWheel$Program;", Cond.methodLink RX9 120 yX6_snapshotsTaken, Cond.instanceMethod yX6_snapshotsTaken, Cond.selects RX6 yX6_snapshotsTaken yX6_snapshotsTaken, Cond.initialized RX6, Cond.code yX6_snapshotsTaken cX6_snapshotsTaken 3 (some .int), Cond.fieldLink RX6 22 "PromiseWheel$State" "taken" "[Z", Cond.methodLink RX9 123 yX2_size, Cond.instanceMethod yX2_size, Cond.selects RX2 yX2_size yX2_size, Cond.initialized RX2, Cond.code yX2_size cX2_size 1 (some .int), Cond.fieldLink RX2 18 "PromiseWheel$History" "states" "I", Cond.methodLink RX9 126 yX7_length, Cond.instanceMethod yX7_length, Cond.selects RX7 yX7_length yX7_length, Cond.initialized RX7, Cond.code yX7_length cX7_length 1 (some .int), Cond.fieldLink RX7 15 "PromiseWheel$Text" "length" "I", Cond.methodLink RX9 129 yX8_figure, Cond.instanceMethod yX8_figure, Cond.selects RX8 yX8_figure yX8_figure]
def wsX9_count_r2 : List Cond := [Cond.initialized RX8, Cond.code yX8_figure cX8_figure 2 (some .int), Cond.fieldLink RX8 49 "PromiseWheel$Wheel" "now" "I", Cond.fieldLink RX8 12 "PromiseWheel$Wheel" "promises" "LPromiseWheel$Promises;", Cond.fieldLink RX8 55 "PromiseWheel$Wheel" "brokenStanding" "I", Cond.fieldLink RX8 28 "PromiseWheel$Wheel" "diary" "LPromiseWheel$Diary;", Cond.fieldLink RX8 58 "PromiseWheel$Wheel" "lateCalls" "I", Cond.fieldLink RX8 61 "PromiseWheel$Wheel" "falls" "I", Cond.fieldLink RX8 64 "PromiseWheel$Wheel" "swept" "I", Cond.fieldLink RX8 67 "PromiseWheel$Wheel" "passedOver" "I", Cond.fieldLink RX8 70 "PromiseWheel$Wheel" "longestQueue" "I", Cond.methodLink RX8 73 yX5_given, Cond.instanceMethod yX5_given, Cond.selects RX5 yX5_given yX5_given, Cond.initialized RX5, Cond.code yX5_given cX5_given 1 (some .int), Cond.fieldLink RX5 21 "PromiseWheel$Promises" "given" "I", Cond.methodLink RX8 157 yX5_howManyIn, Cond.instanceMethod yX5_howManyIn, Cond.selects RX5 yX5_howManyIn yX5_howManyIn, Cond.code yX5_howManyIn cX5_howManyIn 4 (some .int), Cond.methodLink RX5 33 yX5_isIn, Cond.instanceMethod yX5_isIn, Cond.selects RX5 yX5_isIn yX5_isIn]
def wsX9_count_r3 : List Cond := [Cond.code yX5_isIn cX5_isIn 3 (some .boolean), Cond.methodLink RX5 25 yX5_fact, Cond.instanceMethod yX5_fact, Cond.selects RX5 yX5_fact yX5_fact, Cond.code yX5_fact cX5_fact 3 (some .int), Cond.fieldLink RX5 11 "PromiseWheel$Promises" "facts" "[I", Cond.methodLink RX8 112 yX0_calls, Cond.instanceMethod yX0_calls, Cond.selects RX0 yX0_calls yX0_calls, Cond.initialized RX0, Cond.code yX0_calls cX0_calls 1 (some .int), Cond.fieldLink RX0 21 "PromiseWheel$Diary" "calls" "I", Cond.methodLink RX8 121 yX8_setting, Cond.instanceMethod yX8_setting, Cond.selects RX8 yX8_setting yX8_setting, Cond.code yX8_setting cX8_setting 2 (some .int), Cond.fieldLink RX8 32 "PromiseWheel$Wheel" "room" "I", Cond.fieldLink RX8 36 "PromiseWheel$Wheel" "bound" "I", Cond.fieldLink RX8 52 "PromiseWheel$Wheel" "drift" "I"]
def wsX9_count : List Cond := .code yX9_count cX9_count 2 (some .int) :: ((wsX9_count_r1 ++ (wsX9_count_r2 ++ wsX9_count_r3)) ++ wsX90 ++ wsX40 ++ wsX60 ++ wsX20 ++ wsX70 ++ wsX80 ++ wsX50 ++ wsX00)
def wsX9_promise_r1 : List Cond := [Cond.fieldLink RX9 12 "PromiseWheel" "state" "LPromiseWheel$State;", Cond.methodLink RX9 136 yX5_has, Cond.instanceMethod yX5_has, Cond.selects RX5 yX5_has yX5_has, Cond.initialized RX5, Cond.code yX5_has cX5_has 2 (some .boolean), Cond.fieldLink RX5 21 "PromiseWheel$Promises" "given" "I", Cond.methodLink RX9 142 yX8_tellPromise, Cond.instanceMethod yX8_tellPromise, Cond.selects RX8 yX8_tellPromise yX8_tellPromise, Cond.initialized RX8, Cond.code yX8_tellPromise cX8_tellPromise 5 (some .int), Cond.fieldLink RX8 21 "PromiseWheel$Wheel" "lines" "LPromiseWheel$Lines;", Cond.fieldLink RX8 12 "PromiseWheel$Wheel" "promises" "LPromiseWheel$Promises;", Cond.methodLink RX8 160 yX3_lineOf, Cond.instanceMethod yX3_lineOf, Cond.selects RX3 yX3_lineOf yX3_lineOf, Cond.initialized RX3, Cond.code yX3_lineOf cX3_lineOf 2 (some .int), Cond.fieldLink RX3 21 "PromiseWheel$Lines" "line" "[I", Cond.methodLink RX8 104 yX5_fact, Cond.instanceMethod yX5_fact, Cond.selects RX5 yX5_fact yX5_fact, Cond.code yX5_fact cX5_fact 3 (some .int)]
def wsX9_promise_r2 : List Cond := [Cond.fieldLink RX5 11 "PromiseWheel$Promises" "facts" "[I", Cond.methodLink RX8 163 yX3_placeOf, Cond.instanceMethod yX3_placeOf, Cond.selects RX3 yX3_placeOf yX3_placeOf, Cond.code yX3_placeOf cX3_placeOf 6 (some .int), Cond.methodLink RX3 49 yX3_lineOf, Cond.methodLink RX3 39 yX3_lengthOf, Cond.instanceMethod yX3_lengthOf, Cond.selects RX3 yX3_lengthOf yX3_lengthOf, Cond.code yX3_lengthOf cX3_lengthOf 2 (some .int), Cond.fieldLink RX3 18 "PromiseWheel$Lines" "length" "[I", Cond.methodLink RX3 43 yX3_frontOf, Cond.instanceMethod yX3_frontOf, Cond.selects RX3 yX3_frontOf yX3_frontOf, Cond.code yX3_frontOf cX3_frontOf 2 (some .int), Cond.fieldLink RX3 9 "PromiseWheel$Lines" "first" "[I", Cond.methodLink RX3 46 yX3_follower, Cond.instanceMethod yX3_follower, Cond.selects RX3 yX3_follower yX3_follower, Cond.code yX3_follower cX3_follower 2 (some .int), Cond.fieldLink RX3 24 "PromiseWheel$Lines" "behind" "[I"]
def wsX9_promise : List Cond := .code yX9_promise cX9_promise 3 (some .int) :: ((wsX9_promise_r1 ++ wsX9_promise_r2) ++ wsX90 ++ wsX60 ++ wsX80 ++ wsX50 ++ wsX30)
def wsX9_slot_r1 : List Cond := [Cond.fieldLink RX9 12 "PromiseWheel" "state" "LPromiseWheel$State;", Cond.methodLink RX9 145 yX8_tellLine, Cond.instanceMethod yX8_tellLine, Cond.selects RX8 yX8_tellLine yX8_tellLine, Cond.initialized RX8, Cond.code yX8_tellLine cX8_tellLine 4 (some .int), Cond.fieldLink RX8 21 "PromiseWheel$Wheel" "lines" "LPromiseWheel$Lines;", Cond.fieldLink RX8 12 "PromiseWheel$Wheel" "promises" "LPromiseWheel$Promises;", Cond.methodLink RX8 136 yX3_lengthOf, Cond.instanceMethod yX3_lengthOf, Cond.selects RX3 yX3_lengthOf yX3_lengthOf, Cond.initialized RX3, Cond.code yX3_lengthOf cX3_lengthOf 2 (some .int), Cond.fieldLink RX3 18 "PromiseWheel$Lines" "length" "[I", Cond.methodLink RX8 166 yX8_brokenIn, Cond.instanceMethod yX8_brokenIn, Cond.selects RX8 yX8_brokenIn yX8_brokenIn, Cond.code yX8_brokenIn cX8_brokenIn 6 (some .int), Cond.methodLink RX8 147 yX3_frontOf, Cond.instanceMethod yX3_frontOf, Cond.selects RX3 yX3_frontOf yX3_frontOf, Cond.code yX3_frontOf cX3_frontOf 2 (some .int), Cond.fieldLink RX3 9 "PromiseWheel$Lines" "first" "[I", Cond.methodLink RX8 100 yX5_isIn]
def wsX9_slot_r2 : List Cond := [Cond.instanceMethod yX5_isIn, Cond.selects RX5 yX5_isIn yX5_isIn, Cond.initialized RX5, Cond.code yX5_isIn cX5_isIn 3 (some .boolean), Cond.methodLink RX5 25 yX5_fact, Cond.instanceMethod yX5_fact, Cond.selects RX5 yX5_fact yX5_fact, Cond.code yX5_fact cX5_fact 3 (some .int), Cond.fieldLink RX5 11 "PromiseWheel$Promises" "facts" "[I", Cond.methodLink RX8 172 yX3_follower, Cond.instanceMethod yX3_follower, Cond.selects RX3 yX3_follower yX3_follower, Cond.code yX3_follower cX3_follower 2 (some .int), Cond.fieldLink RX3 24 "PromiseWheel$Lines" "behind" "[I", Cond.methodLink RX8 169 yX8_earliestIn, Cond.instanceMethod yX8_earliestIn, Cond.selects RX8 yX8_earliestIn yX8_earliestIn, Cond.code yX8_earliestIn cX8_earliestIn 6 (some .int), Cond.methodLink RX8 175 yX5_earlier, Cond.instanceMethod yX5_earlier, Cond.selects RX5 yX5_earlier yX5_earlier, Cond.code yX5_earlier cX5_earlier 5 (some .int), Cond.methodLink RX5 37 Lib.Math.min.name, Cond.static Lib.Math.min.name]
def wsX9_slot_r3 : List Cond := [Cond.initialized "java/lang/Math", Cond.code Lib.Math.min.name Lib.Math.min.code 2 (some .int), Cond.methodLink RX8 104 yX5_fact]
def wsX9_slot : List Cond := .code yX9_slot cX9_slot 4 (some .int) :: ((wsX9_slot_r1 ++ (wsX9_slot_r2 ++ wsX9_slot_r3)) ++ wsX90 ++ wsX60 ++ wsX80 ++ wsX30 ++ wsX50)
def wsX9_stands : List Cond := .code yX9_stands cX9_stands 7 (some .int) :: ([.fieldLink RX9 12 "PromiseWheel" "state" "LPromiseWheel$State;", .methodLink RX9 152 yX3_at, .instanceMethod yX3_at, .selects RX3 yX3_at yX3_at, .initialized RX3, .code yX3_at cX3_at 5 (some .int), .methodLink RX3 39 yX3_lengthOf, .instanceMethod yX3_lengthOf, .selects RX3 yX3_lengthOf yX3_lengthOf, .code yX3_lengthOf cX3_lengthOf 2 (some .int), .fieldLink RX3 18 "PromiseWheel$Lines" "length" "[I", .methodLink RX3 43 yX3_frontOf, .instanceMethod yX3_frontOf, .selects RX3 yX3_frontOf yX3_frontOf, .code yX3_frontOf cX3_frontOf 2 (some .int), .fieldLink RX3 9 "PromiseWheel$Lines" "first" "[I", .methodLink RX3 46 yX3_follower, .instanceMethod yX3_follower, .selects RX3 yX3_follower yX3_follower, .code yX3_follower cX3_follower 2 (some .int), .fieldLink RX3 24 "PromiseWheel$Lines" "behind" "[I"] ++ wsX90 ++ wsX60 ++ wsX80 ++ wsX30)
def wsX9_call : List Cond := .code yX9_call cX9_call 3 (some .int) :: ([.fieldLink RX9 12 "PromiseWheel" "state" "LPromiseWheel$State;", .methodLink RX9 163 yX0_read, .instanceMethod yX0_read, .selects RX0 yX0_read yX0_read, .initialized RX0, .code yX0_read cX0_read 3 (some .int), .fieldLink RX0 21 "PromiseWheel$Diary" "calls" "I", .methodLink RX0 31 Lib.Math.min.name, .static Lib.Math.min.name, .initialized "java/lang/Math", .code Lib.Math.min.name Lib.Math.min.code 2 (some .int), .fieldLink RX0 11 "PromiseWheel$Diary" "facts" "[I", .methodLink RX0 25 yJ9_floorMod_7cf53, .static yJ9_floorMod_7cf53, .initialized RJ9, .code yJ9_floorMod_7cf53 cJ9_floorMod_7cf53 3 (some .int)] ++ wsX90 ++ wsX60 ++ wsX80 ++ wsX00)
def wsX9_next_r1 : List Cond := [Cond.fieldLink RX9 12 "PromiseWheel" "state" "LPromiseWheel$State;", Cond.methodLink RX9 166 yX8_earliestOfAll, Cond.instanceMethod yX8_earliestOfAll, Cond.selects RX8 yX8_earliestOfAll yX8_earliestOfAll, Cond.initialized RX8, Cond.code yX8_earliestOfAll cX8_earliestOfAll 3 (some .int), Cond.fieldLink RX8 12 "PromiseWheel$Wheel" "promises" "LPromiseWheel$Promises;", Cond.methodLink RX8 73 yX5_given, Cond.instanceMethod yX5_given, Cond.selects RX5 yX5_given yX5_given, Cond.initialized RX5, Cond.code yX5_given cX5_given 1 (some .int), Cond.fieldLink RX5 21 "PromiseWheel$Promises" "given" "I", Cond.methodLink RX8 100 yX5_isIn, Cond.instanceMethod yX5_isIn, Cond.selects RX5 yX5_isIn yX5_isIn, Cond.code yX5_isIn cX5_isIn 3 (some .boolean), Cond.methodLink RX5 25 yX5_fact, Cond.instanceMethod yX5_fact, Cond.selects RX5 yX5_fact yX5_fact, Cond.code yX5_fact cX5_fact 3 (some .int), Cond.fieldLink RX5 11 "PromiseWheel$Promises" "facts" "[I", Cond.methodLink RX8 175 yX5_earlier, Cond.instanceMethod yX5_earlier]
def wsX9_next_r2 : List Cond := [Cond.selects RX5 yX5_earlier yX5_earlier, Cond.code yX5_earlier cX5_earlier 5 (some .int), Cond.methodLink RX5 37 Lib.Math.min.name, Cond.static Lib.Math.min.name, Cond.initialized "java/lang/Math", Cond.code Lib.Math.min.name Lib.Math.min.code 2 (some .int), Cond.methodLink RX9 169 yX8_earliestByRings, Cond.instanceMethod yX8_earliestByRings, Cond.selects RX8 yX8_earliestByRings yX8_earliestByRings, Cond.code yX8_earliestByRings cX8_earliestByRings 3 (some .int), Cond.methodLink RX8 178 yX8_earliestInRing, Cond.instanceMethod yX8_earliestInRing, Cond.selects RX8 yX8_earliestInRing yX8_earliestInRing, Cond.code yX8_earliestInRing cX8_earliestInRing 5 (some .int), Cond.methodLink RX8 144 yX8_presentSlot, Cond.instanceMethod yX8_presentSlot, Cond.selects RX8 yX8_presentSlot yX8_presentSlot, Cond.code yX8_presentSlot cX8_presentSlot 2 (some .int), Cond.fieldLink RX8 49 "PromiseWheel$Wheel" "now" "I", Cond.methodLink RX8 169 yX8_earliestIn, Cond.instanceMethod yX8_earliestIn, Cond.selects RX8 yX8_earliestIn yX8_earliestIn, Cond.code yX8_earliestIn cX8_earliestIn 6 (some .int), Cond.fieldLink RX8 21 "PromiseWheel$Wheel" "lines" "LPromiseWheel$Lines;"]
def wsX9_next_r3 : List Cond := [Cond.methodLink RX8 136 yX3_lengthOf, Cond.instanceMethod yX3_lengthOf, Cond.selects RX3 yX3_lengthOf yX3_lengthOf, Cond.initialized RX3, Cond.code yX3_lengthOf cX3_lengthOf 2 (some .int), Cond.fieldLink RX3 18 "PromiseWheel$Lines" "length" "[I", Cond.methodLink RX8 147 yX3_frontOf, Cond.instanceMethod yX3_frontOf, Cond.selects RX3 yX3_frontOf yX3_frontOf, Cond.code yX3_frontOf cX3_frontOf 2 (some .int), Cond.fieldLink RX3 9 "PromiseWheel$Lines" "first" "[I", Cond.methodLink RX8 172 yX3_follower, Cond.instanceMethod yX3_follower, Cond.selects RX3 yX3_follower yX3_follower, Cond.code yX3_follower cX3_follower 2 (some .int), Cond.fieldLink RX3 24 "PromiseWheel$Lines" "behind" "[I", Cond.methodLink RX9 172 yX5_fact]
def wsX9_next : List Cond := .code yX9_next cX9_next 5 (some .int) :: ((wsX9_next_r1 ++ (wsX9_next_r2 ++ wsX9_next_r3)) ++ wsX90 ++ wsX60 ++ wsX80 ++ wsX50 ++ wsX30)
def wsX9_when_r1 : List Cond := [Cond.fieldLink RX9 12 "PromiseWheel" "state" "LPromiseWheel$State;", Cond.fieldLink RX9 33 "PromiseWheel" "forecast" "LPromiseWheel$Forecast;", Cond.methodLink RX9 136 yX5_has, Cond.instanceMethod yX5_has, Cond.selects RX5 yX5_has yX5_has, Cond.initialized RX5, Cond.code yX5_has cX5_has 2 (some .boolean), Cond.fieldLink RX5 21 "PromiseWheel$Promises" "given" "I", Cond.methodLink RX9 175 yX5_isAlive, Cond.instanceMethod yX5_isAlive, Cond.selects RX5 yX5_isAlive yX5_isAlive, Cond.code yX5_isAlive cX5_isAlive 3 (some .boolean), Cond.methodLink RX5 25 yX5_fact, Cond.instanceMethod yX5_fact, Cond.selects RX5 yX5_fact yX5_fact, Cond.code yX5_fact cX5_fact 3 (some .int), Cond.fieldLink RX5 11 "PromiseWheel$Promises" "facts" "[I", Cond.methodLink RX9 178 yX1_tickOfCall, Cond.instanceMethod yX1_tickOfCall, Cond.selects RX1 yX1_tickOfCall yX1_tickOfCall, Cond.initialized RX1, Cond.code yX1_tickOfCall cX1_tickOfCall 5 (some .int), Cond.fieldLink RX1 12 "PromiseWheel$Forecast" "imagined" "LPromiseWheel$Wheel;", Cond.methodLink RX1 18 yX8_copyFrom]
def wsX9_when_r2 : List Cond := [Cond.instanceMethod yX8_copyFrom, Cond.selects RX8 yX8_copyFrom yX8_copyFrom, Cond.initialized RX8, Cond.code yX8_copyFrom cX8_copyFrom 2 none, Cond.fieldLink RX8 12 "PromiseWheel$Wheel" "promises" "LPromiseWheel$Promises;", Cond.fieldLink RX8 21 "PromiseWheel$Wheel" "lines" "LPromiseWheel$Lines;", Cond.fieldLink RX8 28 "PromiseWheel$Wheel" "diary" "LPromiseWheel$Diary;", Cond.fieldLink RX8 49 "PromiseWheel$Wheel" "now" "I", Cond.fieldLink RX8 32 "PromiseWheel$Wheel" "room" "I", Cond.fieldLink RX8 36 "PromiseWheel$Wheel" "bound" "I", Cond.fieldLink RX8 52 "PromiseWheel$Wheel" "drift" "I", Cond.fieldLink RX8 55 "PromiseWheel$Wheel" "brokenStanding" "I", Cond.fieldLink RX8 58 "PromiseWheel$Wheel" "lateCalls" "I", Cond.fieldLink RX8 61 "PromiseWheel$Wheel" "falls" "I", Cond.fieldLink RX8 64 "PromiseWheel$Wheel" "swept" "I", Cond.fieldLink RX8 67 "PromiseWheel$Wheel" "passedOver" "I", Cond.fieldLink RX8 70 "PromiseWheel$Wheel" "longestQueue" "I", Cond.methodLink RX8 39 yX5_copyFrom, Cond.instanceMethod yX5_copyFrom, Cond.selects RX5 yX5_copyFrom yX5_copyFrom, Cond.code yX5_copyFrom cX5_copyFrom 2 none, Cond.methodLink RX5 15 arraycopyName, Cond.native arraycopyName, Cond.static arraycopyName]
def wsX9_when_r3 : List Cond := [Cond.initialized "java/lang/System", Cond.methodLink RX8 43 yX3_copyFrom, Cond.instanceMethod yX3_copyFrom, Cond.selects RX3 yX3_copyFrom yX3_copyFrom, Cond.initialized RX3, Cond.code yX3_copyFrom cX3_copyFrom 2 none, Cond.fieldLink RX3 9 "PromiseWheel$Lines" "first" "[I", Cond.methodLink RX3 33 arraycopyName, Cond.fieldLink RX3 15 "PromiseWheel$Lines" "last" "[I", Cond.fieldLink RX3 18 "PromiseWheel$Lines" "length" "[I", Cond.fieldLink RX3 21 "PromiseWheel$Lines" "line" "[I", Cond.fieldLink RX3 24 "PromiseWheel$Lines" "behind" "[I", Cond.methodLink RX8 46 yX0_copyFrom, Cond.instanceMethod yX0_copyFrom, Cond.selects RX0 yX0_copyFrom yX0_copyFrom, Cond.initialized RX0, Cond.code yX0_copyFrom cX0_copyFrom 2 none, Cond.fieldLink RX0 11 "PromiseWheel$Diary" "facts" "[I", Cond.methodLink RX0 15 arraycopyName, Cond.fieldLink RX0 21 "PromiseWheel$Diary" "calls" "I", Cond.methodLink RX1 28 yX5_fact, Cond.methodLink RX1 32 yX8_passTick, Cond.instanceMethod yX8_passTick, Cond.selects RX8 yX8_passTick yX8_passTick]
def wsX9_when_r4 : List Cond := [Cond.code yX8_passTick cX8_passTick 1 none, Cond.methodLink RX8 139 Lib.Math.max.name, Cond.static Lib.Math.max.name, Cond.initialized "java/lang/Math", Cond.code Lib.Math.max.name Lib.Math.max.code 2 (some .int), Cond.methodLink RX8 124 yX8_letFall, Cond.instanceMethod yX8_letFall, Cond.selects RX8 yX8_letFall yX8_letFall, Cond.code yX8_letFall cX8_letFall 6 none, Cond.methodLink RX8 144 yX8_presentSlot, Cond.instanceMethod yX8_presentSlot, Cond.selects RX8 yX8_presentSlot yX8_presentSlot, Cond.code yX8_presentSlot cX8_presentSlot 2 (some .int), Cond.methodLink RX8 136 yX3_lengthOf, Cond.instanceMethod yX3_lengthOf, Cond.selects RX3 yX3_lengthOf yX3_lengthOf, Cond.code yX3_lengthOf cX3_lengthOf 2 (some .int), Cond.methodLink RX8 147 yX3_frontOf, Cond.instanceMethod yX3_frontOf, Cond.selects RX3 yX3_frontOf yX3_frontOf, Cond.code yX3_frontOf cX3_frontOf 2 (some .int), Cond.methodLink RX8 108 yX3_leave, Cond.instanceMethod yX3_leave, Cond.selects RX3 yX3_leave yX3_leave]
def wsX9_when_r5 : List Cond := [Cond.code yX3_leave cX3_leave 6 none, Cond.methodLink RX3 49 yX3_lineOf, Cond.instanceMethod yX3_lineOf, Cond.selects RX3 yX3_lineOf yX3_lineOf, Cond.code yX3_lineOf cX3_lineOf 2 (some .int), Cond.methodLink RX3 46 yX3_follower, Cond.instanceMethod yX3_follower, Cond.selects RX3 yX3_follower yX3_follower, Cond.code yX3_follower cX3_follower 2 (some .int), Cond.methodLink RX8 100 yX5_isIn, Cond.instanceMethod yX5_isIn, Cond.selects RX5 yX5_isIn yX5_isIn, Cond.code yX5_isIn cX5_isIn 3 (some .boolean), Cond.methodLink RX8 118 yX8_noteSwept, Cond.instanceMethod yX8_noteSwept, Cond.selects RX8 yX8_noteSwept yX8_noteSwept, Cond.code yX8_noteSwept cX8_noteSwept 2 none, Cond.methodLink RX8 96 yX5_write, Cond.instanceMethod yX5_write, Cond.selects RX5 yX5_write yX5_write, Cond.code yX5_write cX5_write 4 none, Cond.methodLink RX8 104 yX5_fact, Cond.methodLink RX8 81 yX8_lineFor, Cond.instanceMethod yX8_lineFor]
def wsX9_when_r6 : List Cond := [Cond.selects RX8 yX8_lineFor yX8_lineFor, Cond.code yX8_lineFor cX8_lineFor 3 (some .int), Cond.methodLink RX8 85 yX3_join, Cond.instanceMethod yX3_join, Cond.selects RX3 yX3_join yX3_join, Cond.code yX3_join cX3_join 4 none, Cond.methodLink RX8 127 yX8_letArrive, Cond.instanceMethod yX8_letArrive, Cond.selects RX8 yX8_letArrive yX8_letArrive, Cond.code yX8_letArrive cX8_letArrive 5 none, Cond.methodLink RX8 130 yX8_serveQueue, Cond.instanceMethod yX8_serveQueue, Cond.selects RX8 yX8_serveQueue yX8_serveQueue, Cond.code yX8_serveQueue cX8_serveQueue 5 none, Cond.methodLink RX8 150 yX8_callPromise, Cond.instanceMethod yX8_callPromise, Cond.selects RX8 yX8_callPromise yX8_callPromise, Cond.code yX8_callPromise cX8_callPromise 6 none, Cond.methodLink RX8 153 yX0_write, Cond.instanceMethod yX0_write, Cond.selects RX0 yX0_write yX0_write, Cond.code yX0_write cX0_write 5 none, Cond.methodLink RX0 25 yJ9_floorMod_7cf53, Cond.static yJ9_floorMod_7cf53]
def wsX9_when_r7 : List Cond := [Cond.initialized RJ9, Cond.code yJ9_floorMod_7cf53 cJ9_floorMod_7cf53 3 (some .int), Cond.methodLink RX8 154 yX8_dueOfRepetition, Cond.instanceMethod yX8_dueOfRepetition, Cond.selects RX8 yX8_dueOfRepetition yX8_dueOfRepetition, Cond.code yX8_dueOfRepetition cX8_dueOfRepetition 4 (some .int), Cond.methodLink RX8 133 yX8_sweepAll, Cond.instanceMethod yX8_sweepAll, Cond.selects RX8 yX8_sweepAll yX8_sweepAll, Cond.code yX8_sweepAll cX8_sweepAll 3 (some .int), Cond.methodLink RX8 73 yX5_given, Cond.instanceMethod yX5_given, Cond.selects RX5 yX5_given yX5_given, Cond.code yX5_given cX5_given 1 (some .int)]
def wsX9_when : List Cond := .code yX9_when cX9_when 3 (some .int) :: ((wsX9_when_r1 ++ (wsX9_when_r2 ++ (wsX9_when_r3 ++ (wsX9_when_r4 ++ (wsX9_when_r5 ++ (wsX9_when_r6 ++ wsX9_when_r7)))))) ++ wsX90 ++ wsX60 ++ wsX80 ++ wsX50 ++ wsX10 ++ wsX30 ++ wsX00)
def wsX9_would_r1 : List Cond := [Cond.fieldLink RX9 33 "PromiseWheel" "forecast" "LPromiseWheel$Forecast;", Cond.fieldLink RX9 12 "PromiseWheel" "state" "LPromiseWheel$State;", Cond.methodLink RX9 182 yX1_outcome, Cond.instanceMethod yX1_outcome, Cond.selects RX1 yX1_outcome yX1_outcome, Cond.initialized RX1, Cond.code yX1_outcome cX1_outcome 6 (some .int), Cond.fieldLink RX1 12 "PromiseWheel$Forecast" "imagined" "LPromiseWheel$Wheel;", Cond.methodLink RX1 43 Lib.Math.max.name, Cond.static Lib.Math.max.name, Cond.initialized "java/lang/Math", Cond.code Lib.Math.max.name Lib.Math.max.code 2 (some .int), Cond.methodLink RX1 18 yX8_copyFrom, Cond.instanceMethod yX8_copyFrom, Cond.selects RX8 yX8_copyFrom yX8_copyFrom, Cond.initialized RX8, Cond.code yX8_copyFrom cX8_copyFrom 2 none, Cond.fieldLink RX8 12 "PromiseWheel$Wheel" "promises" "LPromiseWheel$Promises;", Cond.fieldLink RX8 21 "PromiseWheel$Wheel" "lines" "LPromiseWheel$Lines;", Cond.fieldLink RX8 28 "PromiseWheel$Wheel" "diary" "LPromiseWheel$Diary;", Cond.fieldLink RX8 49 "PromiseWheel$Wheel" "now" "I", Cond.fieldLink RX8 32 "PromiseWheel$Wheel" "room" "I", Cond.fieldLink RX8 36 "PromiseWheel$Wheel" "bound" "I", Cond.fieldLink RX8 52 "PromiseWheel$Wheel" "drift" "I"]
def wsX9_would_r2 : List Cond := [Cond.fieldLink RX8 55 "PromiseWheel$Wheel" "brokenStanding" "I", Cond.fieldLink RX8 58 "PromiseWheel$Wheel" "lateCalls" "I", Cond.fieldLink RX8 61 "PromiseWheel$Wheel" "falls" "I", Cond.fieldLink RX8 64 "PromiseWheel$Wheel" "swept" "I", Cond.fieldLink RX8 67 "PromiseWheel$Wheel" "passedOver" "I", Cond.fieldLink RX8 70 "PromiseWheel$Wheel" "longestQueue" "I", Cond.methodLink RX8 39 yX5_copyFrom, Cond.instanceMethod yX5_copyFrom, Cond.selects RX5 yX5_copyFrom yX5_copyFrom, Cond.initialized RX5, Cond.code yX5_copyFrom cX5_copyFrom 2 none, Cond.fieldLink RX5 11 "PromiseWheel$Promises" "facts" "[I", Cond.methodLink RX5 15 arraycopyName, Cond.native arraycopyName, Cond.static arraycopyName, Cond.initialized "java/lang/System", Cond.fieldLink RX5 21 "PromiseWheel$Promises" "given" "I", Cond.methodLink RX8 43 yX3_copyFrom, Cond.instanceMethod yX3_copyFrom, Cond.selects RX3 yX3_copyFrom yX3_copyFrom, Cond.initialized RX3, Cond.code yX3_copyFrom cX3_copyFrom 2 none, Cond.fieldLink RX3 9 "PromiseWheel$Lines" "first" "[I", Cond.methodLink RX3 33 arraycopyName]
def wsX9_would_r3 : List Cond := [Cond.fieldLink RX3 15 "PromiseWheel$Lines" "last" "[I", Cond.fieldLink RX3 18 "PromiseWheel$Lines" "length" "[I", Cond.fieldLink RX3 21 "PromiseWheel$Lines" "line" "[I", Cond.fieldLink RX3 24 "PromiseWheel$Lines" "behind" "[I", Cond.methodLink RX8 46 yX0_copyFrom, Cond.instanceMethod yX0_copyFrom, Cond.selects RX0 yX0_copyFrom yX0_copyFrom, Cond.initialized RX0, Cond.code yX0_copyFrom cX0_copyFrom 2 none, Cond.fieldLink RX0 11 "PromiseWheel$Diary" "facts" "[I", Cond.methodLink RX0 15 arraycopyName, Cond.fieldLink RX0 21 "PromiseWheel$Diary" "calls" "I", Cond.methodLink RX1 32 yX8_passTick, Cond.instanceMethod yX8_passTick, Cond.selects RX8 yX8_passTick yX8_passTick, Cond.code yX8_passTick cX8_passTick 1 none, Cond.methodLink RX8 139 Lib.Math.max.name, Cond.methodLink RX8 124 yX8_letFall, Cond.instanceMethod yX8_letFall, Cond.selects RX8 yX8_letFall yX8_letFall, Cond.code yX8_letFall cX8_letFall 6 none, Cond.methodLink RX8 144 yX8_presentSlot, Cond.instanceMethod yX8_presentSlot, Cond.selects RX8 yX8_presentSlot yX8_presentSlot]
def wsX9_would_r4 : List Cond := [Cond.code yX8_presentSlot cX8_presentSlot 2 (some .int), Cond.methodLink RX8 136 yX3_lengthOf, Cond.instanceMethod yX3_lengthOf, Cond.selects RX3 yX3_lengthOf yX3_lengthOf, Cond.code yX3_lengthOf cX3_lengthOf 2 (some .int), Cond.methodLink RX8 147 yX3_frontOf, Cond.instanceMethod yX3_frontOf, Cond.selects RX3 yX3_frontOf yX3_frontOf, Cond.code yX3_frontOf cX3_frontOf 2 (some .int), Cond.methodLink RX8 108 yX3_leave, Cond.instanceMethod yX3_leave, Cond.selects RX3 yX3_leave yX3_leave, Cond.code yX3_leave cX3_leave 6 none, Cond.methodLink RX3 49 yX3_lineOf, Cond.instanceMethod yX3_lineOf, Cond.selects RX3 yX3_lineOf yX3_lineOf, Cond.code yX3_lineOf cX3_lineOf 2 (some .int), Cond.methodLink RX3 46 yX3_follower, Cond.instanceMethod yX3_follower, Cond.selects RX3 yX3_follower yX3_follower, Cond.code yX3_follower cX3_follower 2 (some .int), Cond.methodLink RX8 100 yX5_isIn, Cond.instanceMethod yX5_isIn, Cond.selects RX5 yX5_isIn yX5_isIn]
def wsX9_would_r5 : List Cond := [Cond.code yX5_isIn cX5_isIn 3 (some .boolean), Cond.methodLink RX5 25 yX5_fact, Cond.instanceMethod yX5_fact, Cond.selects RX5 yX5_fact yX5_fact, Cond.code yX5_fact cX5_fact 3 (some .int), Cond.methodLink RX8 118 yX8_noteSwept, Cond.instanceMethod yX8_noteSwept, Cond.selects RX8 yX8_noteSwept yX8_noteSwept, Cond.code yX8_noteSwept cX8_noteSwept 2 none, Cond.methodLink RX8 96 yX5_write, Cond.instanceMethod yX5_write, Cond.selects RX5 yX5_write yX5_write, Cond.code yX5_write cX5_write 4 none, Cond.methodLink RX8 104 yX5_fact, Cond.methodLink RX8 81 yX8_lineFor, Cond.instanceMethod yX8_lineFor, Cond.selects RX8 yX8_lineFor yX8_lineFor, Cond.code yX8_lineFor cX8_lineFor 3 (some .int), Cond.methodLink RX8 85 yX3_join, Cond.instanceMethod yX3_join, Cond.selects RX3 yX3_join yX3_join, Cond.code yX3_join cX3_join 4 none, Cond.methodLink RX8 127 yX8_letArrive, Cond.instanceMethod yX8_letArrive]
def wsX9_would_r6 : List Cond := [Cond.selects RX8 yX8_letArrive yX8_letArrive, Cond.code yX8_letArrive cX8_letArrive 5 none, Cond.methodLink RX8 130 yX8_serveQueue, Cond.instanceMethod yX8_serveQueue, Cond.selects RX8 yX8_serveQueue yX8_serveQueue, Cond.code yX8_serveQueue cX8_serveQueue 5 none, Cond.methodLink RX8 150 yX8_callPromise, Cond.instanceMethod yX8_callPromise, Cond.selects RX8 yX8_callPromise yX8_callPromise, Cond.code yX8_callPromise cX8_callPromise 6 none, Cond.methodLink RX8 153 yX0_write, Cond.instanceMethod yX0_write, Cond.selects RX0 yX0_write yX0_write, Cond.code yX0_write cX0_write 5 none, Cond.methodLink RX0 25 yJ9_floorMod_7cf53, Cond.static yJ9_floorMod_7cf53, Cond.initialized RJ9, Cond.code yJ9_floorMod_7cf53 cJ9_floorMod_7cf53 3 (some .int), Cond.methodLink RX8 154 yX8_dueOfRepetition, Cond.instanceMethod yX8_dueOfRepetition, Cond.selects RX8 yX8_dueOfRepetition yX8_dueOfRepetition, Cond.code yX8_dueOfRepetition cX8_dueOfRepetition 4 (some .int), Cond.methodLink RX8 133 yX8_sweepAll, Cond.instanceMethod yX8_sweepAll]
def wsX9_would_r7 : List Cond := [Cond.selects RX8 yX8_sweepAll yX8_sweepAll, Cond.code yX8_sweepAll cX8_sweepAll 3 (some .int), Cond.methodLink RX8 73 yX5_given, Cond.instanceMethod yX5_given, Cond.selects RX5 yX5_given yX5_given, Cond.code yX5_given cX5_given 1 (some .int), Cond.methodLink RX1 39 yX5_howManyIn, Cond.instanceMethod yX5_howManyIn, Cond.selects RX5 yX5_howManyIn yX5_howManyIn, Cond.code yX5_howManyIn cX5_howManyIn 4 (some .int), Cond.methodLink RX5 33 yX5_isIn, Cond.methodLink RX1 52 yX0_calls, Cond.instanceMethod yX0_calls, Cond.selects RX0 yX0_calls yX0_calls, Cond.code yX0_calls cX0_calls 1 (some .int)]
def wsX9_would : List Cond := .code yX9_would cX9_would 3 (some .int) :: ((wsX9_would_r1 ++ (wsX9_would_r2 ++ (wsX9_would_r3 ++ (wsX9_would_r4 ++ (wsX9_would_r5 ++ (wsX9_would_r6 ++ wsX9_would_r7)))))) ++ wsX90 ++ wsX60 ++ wsX10 ++ wsX80 ++ wsX50 ++ wsX30 ++ wsX00)
def wsX9_leastRoom_r1 : List Cond := [Cond.fieldLink RX9 33 "PromiseWheel" "forecast" "LPromiseWheel$Forecast;", Cond.fieldLink RX9 12 "PromiseWheel" "state" "LPromiseWheel$State;", Cond.methodLink RX9 186 yX1_leastTimelyRoom, Cond.instanceMethod yX1_leastTimelyRoom, Cond.selects RX1 yX1_leastTimelyRoom yX1_leastTimelyRoom, Cond.initialized RX1, Cond.code yX1_leastTimelyRoom cX1_leastTimelyRoom 4 (some .int), Cond.fieldLink RX1 12 "PromiseWheel$Forecast" "imagined" "LPromiseWheel$Wheel;", Cond.methodLink RX1 18 yX8_copyFrom, Cond.instanceMethod yX8_copyFrom, Cond.selects RX8 yX8_copyFrom yX8_copyFrom, Cond.initialized RX8, Cond.code yX8_copyFrom cX8_copyFrom 2 none, Cond.fieldLink RX8 12 "PromiseWheel$Wheel" "promises" "LPromiseWheel$Promises;", Cond.fieldLink RX8 21 "PromiseWheel$Wheel" "lines" "LPromiseWheel$Lines;", Cond.fieldLink RX8 28 "PromiseWheel$Wheel" "diary" "LPromiseWheel$Diary;", Cond.fieldLink RX8 49 "PromiseWheel$Wheel" "now" "I", Cond.fieldLink RX8 32 "PromiseWheel$Wheel" "room" "I", Cond.fieldLink RX8 36 "PromiseWheel$Wheel" "bound" "I", Cond.fieldLink RX8 52 "PromiseWheel$Wheel" "drift" "I", Cond.fieldLink RX8 55 "PromiseWheel$Wheel" "brokenStanding" "I", Cond.fieldLink RX8 58 "PromiseWheel$Wheel" "lateCalls" "I", Cond.fieldLink RX8 61 "PromiseWheel$Wheel" "falls" "I", Cond.fieldLink RX8 64 "PromiseWheel$Wheel" "swept" "I"]
def wsX9_leastRoom_r2 : List Cond := [Cond.fieldLink RX8 67 "PromiseWheel$Wheel" "passedOver" "I", Cond.fieldLink RX8 70 "PromiseWheel$Wheel" "longestQueue" "I", Cond.methodLink RX8 39 yX5_copyFrom, Cond.instanceMethod yX5_copyFrom, Cond.selects RX5 yX5_copyFrom yX5_copyFrom, Cond.initialized RX5, Cond.code yX5_copyFrom cX5_copyFrom 2 none, Cond.fieldLink RX5 11 "PromiseWheel$Promises" "facts" "[I", Cond.methodLink RX5 15 arraycopyName, Cond.native arraycopyName, Cond.static arraycopyName, Cond.initialized "java/lang/System", Cond.fieldLink RX5 21 "PromiseWheel$Promises" "given" "I", Cond.methodLink RX8 43 yX3_copyFrom, Cond.instanceMethod yX3_copyFrom, Cond.selects RX3 yX3_copyFrom yX3_copyFrom, Cond.initialized RX3, Cond.code yX3_copyFrom cX3_copyFrom 2 none, Cond.fieldLink RX3 9 "PromiseWheel$Lines" "first" "[I", Cond.methodLink RX3 33 arraycopyName, Cond.fieldLink RX3 15 "PromiseWheel$Lines" "last" "[I", Cond.fieldLink RX3 18 "PromiseWheel$Lines" "length" "[I", Cond.fieldLink RX3 21 "PromiseWheel$Lines" "line" "[I", Cond.fieldLink RX3 24 "PromiseWheel$Lines" "behind" "[I"]
def wsX9_leastRoom_r3 : List Cond := [Cond.methodLink RX8 46 yX0_copyFrom, Cond.instanceMethod yX0_copyFrom, Cond.selects RX0 yX0_copyFrom yX0_copyFrom, Cond.initialized RX0, Cond.code yX0_copyFrom cX0_copyFrom 2 none, Cond.fieldLink RX0 11 "PromiseWheel$Diary" "facts" "[I", Cond.methodLink RX0 15 arraycopyName, Cond.fieldLink RX0 21 "PromiseWheel$Diary" "calls" "I", Cond.methodLink RX1 64 yX1_isTimely, Cond.instanceMethod yX1_isTimely, Cond.selects RX1 yX1_isTimely yX1_isTimely, Cond.code yX1_isTimely cX1_isTimely 4 (some .boolean), Cond.methodLink RX1 32 yX8_passTick, Cond.instanceMethod yX8_passTick, Cond.selects RX8 yX8_passTick yX8_passTick, Cond.code yX8_passTick cX8_passTick 1 none, Cond.methodLink RX8 139 Lib.Math.max.name, Cond.static Lib.Math.max.name, Cond.initialized "java/lang/Math", Cond.code Lib.Math.max.name Lib.Math.max.code 2 (some .int), Cond.methodLink RX8 124 yX8_letFall, Cond.instanceMethod yX8_letFall, Cond.selects RX8 yX8_letFall yX8_letFall, Cond.code yX8_letFall cX8_letFall 6 none]
def wsX9_leastRoom_r4 : List Cond := [Cond.methodLink RX8 144 yX8_presentSlot, Cond.instanceMethod yX8_presentSlot, Cond.selects RX8 yX8_presentSlot yX8_presentSlot, Cond.code yX8_presentSlot cX8_presentSlot 2 (some .int), Cond.methodLink RX8 136 yX3_lengthOf, Cond.instanceMethod yX3_lengthOf, Cond.selects RX3 yX3_lengthOf yX3_lengthOf, Cond.code yX3_lengthOf cX3_lengthOf 2 (some .int), Cond.methodLink RX8 147 yX3_frontOf, Cond.instanceMethod yX3_frontOf, Cond.selects RX3 yX3_frontOf yX3_frontOf, Cond.code yX3_frontOf cX3_frontOf 2 (some .int), Cond.methodLink RX8 108 yX3_leave, Cond.instanceMethod yX3_leave, Cond.selects RX3 yX3_leave yX3_leave, Cond.code yX3_leave cX3_leave 6 none, Cond.methodLink RX3 49 yX3_lineOf, Cond.instanceMethod yX3_lineOf, Cond.selects RX3 yX3_lineOf yX3_lineOf, Cond.code yX3_lineOf cX3_lineOf 2 (some .int), Cond.methodLink RX3 46 yX3_follower, Cond.instanceMethod yX3_follower, Cond.selects RX3 yX3_follower yX3_follower, Cond.code yX3_follower cX3_follower 2 (some .int)]
def wsX9_leastRoom_r5 : List Cond := [Cond.methodLink RX8 100 yX5_isIn, Cond.instanceMethod yX5_isIn, Cond.selects RX5 yX5_isIn yX5_isIn, Cond.code yX5_isIn cX5_isIn 3 (some .boolean), Cond.methodLink RX5 25 yX5_fact, Cond.instanceMethod yX5_fact, Cond.selects RX5 yX5_fact yX5_fact, Cond.code yX5_fact cX5_fact 3 (some .int), Cond.methodLink RX8 118 yX8_noteSwept, Cond.instanceMethod yX8_noteSwept, Cond.selects RX8 yX8_noteSwept yX8_noteSwept, Cond.code yX8_noteSwept cX8_noteSwept 2 none, Cond.methodLink RX8 96 yX5_write, Cond.instanceMethod yX5_write, Cond.selects RX5 yX5_write yX5_write, Cond.code yX5_write cX5_write 4 none, Cond.methodLink RX8 104 yX5_fact, Cond.methodLink RX8 81 yX8_lineFor, Cond.instanceMethod yX8_lineFor, Cond.selects RX8 yX8_lineFor yX8_lineFor, Cond.code yX8_lineFor cX8_lineFor 3 (some .int), Cond.methodLink RX8 85 yX3_join, Cond.instanceMethod yX3_join, Cond.selects RX3 yX3_join yX3_join]
def wsX9_leastRoom_r6 : List Cond := [Cond.code yX3_join cX3_join 4 none, Cond.methodLink RX8 127 yX8_letArrive, Cond.instanceMethod yX8_letArrive, Cond.selects RX8 yX8_letArrive yX8_letArrive, Cond.code yX8_letArrive cX8_letArrive 5 none, Cond.methodLink RX8 130 yX8_serveQueue, Cond.instanceMethod yX8_serveQueue, Cond.selects RX8 yX8_serveQueue yX8_serveQueue, Cond.code yX8_serveQueue cX8_serveQueue 5 none, Cond.methodLink RX8 150 yX8_callPromise, Cond.instanceMethod yX8_callPromise, Cond.selects RX8 yX8_callPromise yX8_callPromise, Cond.code yX8_callPromise cX8_callPromise 6 none, Cond.methodLink RX8 153 yX0_write, Cond.instanceMethod yX0_write, Cond.selects RX0 yX0_write yX0_write, Cond.code yX0_write cX0_write 5 none, Cond.methodLink RX0 25 yJ9_floorMod_7cf53, Cond.static yJ9_floorMod_7cf53, Cond.initialized RJ9, Cond.code yJ9_floorMod_7cf53 cJ9_floorMod_7cf53 3 (some .int), Cond.methodLink RX8 154 yX8_dueOfRepetition, Cond.instanceMethod yX8_dueOfRepetition, Cond.selects RX8 yX8_dueOfRepetition yX8_dueOfRepetition]
def wsX9_leastRoom_r7 : List Cond := [Cond.code yX8_dueOfRepetition cX8_dueOfRepetition 4 (some .int), Cond.methodLink RX8 133 yX8_sweepAll, Cond.instanceMethod yX8_sweepAll, Cond.selects RX8 yX8_sweepAll yX8_sweepAll, Cond.code yX8_sweepAll cX8_sweepAll 3 (some .int), Cond.methodLink RX8 73 yX5_given, Cond.instanceMethod yX5_given, Cond.selects RX5 yX5_given yX5_given, Cond.code yX5_given cX5_given 1 (some .int)]
def wsX9_leastRoom : List Cond := .code yX9_leastRoom cX9_leastRoom 2 (some .int) :: ((wsX9_leastRoom_r1 ++ (wsX9_leastRoom_r2 ++ (wsX9_leastRoom_r3 ++ (wsX9_leastRoom_r4 ++ (wsX9_leastRoom_r5 ++ (wsX9_leastRoom_r6 ++ wsX9_leastRoom_r7)))))) ++ wsX90 ++ wsX60 ++ wsX10 ++ wsX80 ++ wsX50 ++ wsX30 ++ wsX00)
def wsX10_init : List Cond := .code yX10_init cX10_init 2 none :: ([.methodLink RX10 1 objectInit, .instanceMethod objectInit, .code objectInit ⟨#[0xb1]⟩ 1 none, .arrayClass .int, .fieldLink RX10 7 "PromiseWheelModel" "z" "[I", .fieldLink RX10 13 "PromiseWheelModel" "snaps" "[I", .arrayClass .boolean, .fieldLink RX10 16 "PromiseWheelModel" "hasSnap" "[Z", .fieldLink RX10 20 "PromiseWheelModel" "past" "[I", .fieldLink RX10 23 "PromiseWheelModel" "pastHas" "[Z", .fieldLink RX10 26 "PromiseWheelModel" "before" "[I", .fieldLink RX10 29 "PromiseWheelModel" "spare" "[I", .arrayClass .char, .fieldLink RX10 32 "PromiseWheelModel" "text" "[C", .fieldLink RX10 36 "PromiseWheelModel" "failure" "[I", .fieldLink RX10 39 "PromiseWheelModel" "numbers" "[I"] ++ wsX100)
def wsX10_push : List Cond := .code yX10_push cX10_push 3 none :: ([.fieldLink RX10 42 "PromiseWheelModel" "pastMany" "I", .fieldLink RX10 20 "PromiseWheelModel" "past" "[I", .fieldLink RX10 23 "PromiseWheelModel" "pastHas" "[Z", .fieldLink RX10 26 "PromiseWheelModel" "before" "[I", .fieldLink RX10 7 "PromiseWheelModel" "z" "[I", .fieldLink RX10 13 "PromiseWheelModel" "snaps" "[I", .fieldLink RX10 16 "PromiseWheelModel" "hasSnap" "[Z"] ++ wsX100)
def wsX10_record : List Cond := .code yX10_record cX10_record 1 none :: ([.fieldLink RX10 46 "PromiseWheelModel" "isQuiet" "Z", .methodLink RX10 50 yX10_push, .instanceMethod yX10_push, .selects RX10 yX10_push yX10_push, .initialized RX10, .code yX10_push cX10_push 3 none, .fieldLink RX10 42 "PromiseWheelModel" "pastMany" "I", .fieldLink RX10 20 "PromiseWheelModel" "past" "[I", .fieldLink RX10 23 "PromiseWheelModel" "pastHas" "[Z", .fieldLink RX10 26 "PromiseWheelModel" "before" "[I", .fieldLink RX10 7 "PromiseWheelModel" "z" "[I", .fieldLink RX10 13 "PromiseWheelModel" "snaps" "[I", .fieldLink RX10 16 "PromiseWheelModel" "hasSnap" "[Z"] ++ wsX100)
def wsX10_undo : List Cond := .code yX10_undo cX10_undo 2 (some .int) :: ([.fieldLink RX10 42 "PromiseWheelModel" "pastMany" "I", .fieldLink RX10 7 "PromiseWheelModel" "z" "[I", .fieldLink RX10 20 "PromiseWheelModel" "past" "[I", .fieldLink RX10 13 "PromiseWheelModel" "snaps" "[I", .fieldLink RX10 16 "PromiseWheelModel" "hasSnap" "[Z", .fieldLink RX10 23 "PromiseWheelModel" "pastHas" "[Z"] ++ wsX100)
def wsX10_take : List Cond := .code yX10_take cX10_take 3 (some .int) :: ([.fieldLink RX10 16 "PromiseWheelModel" "hasSnap" "[Z", .fieldLink RX10 13 "PromiseWheelModel" "snaps" "[I", .fieldLink RX10 7 "PromiseWheelModel" "z" "[I", .methodLink RX10 54 yX10_record, .instanceMethod yX10_record, .selects RX10 yX10_record yX10_record, .initialized RX10, .code yX10_record cX10_record 1 none, .fieldLink RX10 46 "PromiseWheelModel" "isQuiet" "Z", .methodLink RX10 50 yX10_push, .instanceMethod yX10_push, .selects RX10 yX10_push yX10_push, .code yX10_push cX10_push 3 none, .fieldLink RX10 42 "PromiseWheelModel" "pastMany" "I", .fieldLink RX10 20 "PromiseWheelModel" "past" "[I", .fieldLink RX10 23 "PromiseWheelModel" "pastHas" "[Z", .fieldLink RX10 26 "PromiseWheelModel" "before" "[I"] ++ wsX100)
def wsX10_restore : List Cond := .code yX10_restore cX10_restore 3 (some .int) :: ([.fieldLink RX10 16 "PromiseWheelModel" "hasSnap" "[Z", .fieldLink RX10 7 "PromiseWheelModel" "z" "[I", .fieldLink RX10 13 "PromiseWheelModel" "snaps" "[I", .methodLink RX10 54 yX10_record, .instanceMethod yX10_record, .selects RX10 yX10_record yX10_record, .initialized RX10, .code yX10_record cX10_record 1 none, .fieldLink RX10 46 "PromiseWheelModel" "isQuiet" "Z", .methodLink RX10 50 yX10_push, .instanceMethod yX10_push, .selects RX10 yX10_push yX10_push, .code yX10_push cX10_push 3 none, .fieldLink RX10 42 "PromiseWheelModel" "pastMany" "I", .fieldLink RX10 20 "PromiseWheelModel" "past" "[I", .fieldLink RX10 23 "PromiseWheelModel" "pastHas" "[Z", .fieldLink RX10 26 "PromiseWheelModel" "before" "[I"] ++ wsX100)
def wsX10_isPromise : List Cond := .code yX10_isPromise cX10_isPromise 2 (some .boolean) :: ([.fieldLink RX10 7 "PromiseWheelModel" "z" "[I"] ++ wsX100)
def wsX10_stand : List Cond := .code yX10_stand cX10_stand 3 none :: ([.fieldLink RX10 7 "PromiseWheelModel" "z" "[I"] ++ wsX100)
def wsX10_standByDistance : List Cond := .code yX10_standByDistance cX10_standByDistance 4 none :: ([.fieldLink RX10 7 "PromiseWheelModel" "z" "[I", .methodLink RX10 57 yX10_stand, .instanceMethod yX10_stand, .selects RX10 yX10_stand yX10_stand, .initialized RX10, .code yX10_stand cX10_stand 3 none] ++ wsX100)
def wsX10_front : List Cond := .code yX10_front cX10_front 5 (some .int) :: ([.fieldLink RX10 7 "PromiseWheelModel" "z" "[I"] ++ wsX100)
def wsX10_manyAt : List Cond := .code yX10_manyAt cX10_manyAt 4 (some .int) :: ([.fieldLink RX10 7 "PromiseWheelModel" "z" "[I"] ++ wsX100)
def wsX10_placeOf : List Cond := .code yX10_placeOf cX10_placeOf 4 (some .int) :: ([.fieldLink RX10 7 "PromiseWheelModel" "z" "[I"] ++ wsX100)
def wsX10_sweepOne : List Cond := .code yX10_sweepOne cX10_sweepOne 2 none :: ([.fieldLink RX10 7 "PromiseWheelModel" "z" "[I"] ++ wsX100)
def wsX10_inState : List Cond := .code yX10_inState cX10_inState 4 (some .int) :: ([.fieldLink RX10 7 "PromiseWheelModel" "z" "[I"] ++ wsX100)
def wsX10_sweepAll : List Cond := .code yX10_sweepAll cX10_sweepAll 3 (some .int) :: ([.fieldLink RX10 7 "PromiseWheelModel" "z" "[I", .methodLink RX10 61 yX10_sweepOne, .instanceMethod yX10_sweepOne, .selects RX10 yX10_sweepOne yX10_sweepOne, .initialized RX10, .code yX10_sweepOne cX10_sweepOne 2 none] ++ wsX100)
def wsX10_fall : List Cond := .code yX10_fall cX10_fall 5 none :: ([.fieldLink RX10 7 "PromiseWheelModel" "z" "[I", .methodLink RX10 65 yX10_manyAt, .instanceMethod yX10_manyAt, .selects RX10 yX10_manyAt yX10_manyAt, .initialized RX10, .code yX10_manyAt cX10_manyAt 4 (some .int), .methodLink RX10 69 yX10_front, .instanceMethod yX10_front, .selects RX10 yX10_front yX10_front, .code yX10_front cX10_front 5 (some .int), .methodLink RX10 61 yX10_sweepOne, .instanceMethod yX10_sweepOne, .selects RX10 yX10_sweepOne yX10_sweepOne, .code yX10_sweepOne cX10_sweepOne 2 none, .methodLink RX10 72 yX10_standByDistance, .instanceMethod yX10_standByDistance, .selects RX10 yX10_standByDistance yX10_standByDistance, .code yX10_standByDistance cX10_standByDistance 4 none, .methodLink RX10 57 yX10_stand, .instanceMethod yX10_stand, .selects RX10 yX10_stand yX10_stand, .code yX10_stand cX10_stand 3 none] ++ wsX100)
def wsX10_getReady : List Cond := .code yX10_getReady cX10_getReady 5 none :: ([.fieldLink RX10 7 "PromiseWheelModel" "z" "[I", .methodLink RX10 65 yX10_manyAt, .instanceMethod yX10_manyAt, .selects RX10 yX10_manyAt yX10_manyAt, .initialized RX10, .code yX10_manyAt cX10_manyAt 4 (some .int), .methodLink RX10 69 yX10_front, .instanceMethod yX10_front, .selects RX10 yX10_front yX10_front, .code yX10_front cX10_front 5 (some .int), .methodLink RX10 61 yX10_sweepOne, .instanceMethod yX10_sweepOne, .selects RX10 yX10_sweepOne yX10_sweepOne, .code yX10_sweepOne cX10_sweepOne 2 none, .methodLink RX10 57 yX10_stand, .instanceMethod yX10_stand, .selects RX10 yX10_stand yX10_stand, .code yX10_stand cX10_stand 3 none] ++ wsX100)
def wsX10_noteCall : List Cond := .code yX10_noteCall cX10_noteCall 3 none :: ([.fieldLink RX10 7 "PromiseWheelModel" "z" "[I"] ++ wsX100)
def wsX10_callOne : List Cond := .code yX10_callOne cX10_callOne 3 none :: ([.fieldLink RX10 7 "PromiseWheelModel" "z" "[I", .methodLink RX10 75 yX10_noteCall, .instanceMethod yX10_noteCall, .selects RX10 yX10_noteCall yX10_noteCall, .initialized RX10, .code yX10_noteCall cX10_noteCall 3 none, .methodLink RX10 72 yX10_standByDistance, .instanceMethod yX10_standByDistance, .selects RX10 yX10_standByDistance yX10_standByDistance, .code yX10_standByDistance cX10_standByDistance 4 none, .methodLink RX10 57 yX10_stand, .instanceMethod yX10_stand, .selects RX10 yX10_stand yX10_stand, .code yX10_stand cX10_stand 3 none] ++ wsX100)
def wsX10_callSome_r1 : List Cond := [Cond.fieldLink RX10 7 "PromiseWheelModel" "z" "[I", Cond.methodLink RX10 69 yX10_front, Cond.instanceMethod yX10_front, Cond.selects RX10 yX10_front yX10_front, Cond.initialized RX10, Cond.code yX10_front cX10_front 5 (some .int), Cond.methodLink RX10 61 yX10_sweepOne, Cond.instanceMethod yX10_sweepOne, Cond.selects RX10 yX10_sweepOne yX10_sweepOne, Cond.code yX10_sweepOne cX10_sweepOne 2 none, Cond.methodLink RX10 78 yX10_callOne, Cond.instanceMethod yX10_callOne, Cond.selects RX10 yX10_callOne yX10_callOne, Cond.code yX10_callOne cX10_callOne 3 none, Cond.methodLink RX10 75 yX10_noteCall, Cond.instanceMethod yX10_noteCall, Cond.selects RX10 yX10_noteCall yX10_noteCall, Cond.code yX10_noteCall cX10_noteCall 3 none, Cond.methodLink RX10 72 yX10_standByDistance, Cond.instanceMethod yX10_standByDistance, Cond.selects RX10 yX10_standByDistance yX10_standByDistance, Cond.code yX10_standByDistance cX10_standByDistance 4 none, Cond.methodLink RX10 57 yX10_stand, Cond.instanceMethod yX10_stand]
def wsX10_callSome_r2 : List Cond := [Cond.selects RX10 yX10_stand yX10_stand, Cond.code yX10_stand cX10_stand 3 none]
def wsX10_callSome : List Cond := .code yX10_callSome cX10_callSome 3 none :: ((wsX10_callSome_r1 ++ wsX10_callSome_r2) ++ wsX100)
def wsX10_tick_r1 : List Cond := [Cond.fieldLink RX10 7 "PromiseWheelModel" "z" "[I", Cond.methodLink RX10 81 yX10_fall, Cond.instanceMethod yX10_fall, Cond.selects RX10 yX10_fall yX10_fall, Cond.initialized RX10, Cond.code yX10_fall cX10_fall 5 none, Cond.methodLink RX10 65 yX10_manyAt, Cond.instanceMethod yX10_manyAt, Cond.selects RX10 yX10_manyAt yX10_manyAt, Cond.code yX10_manyAt cX10_manyAt 4 (some .int), Cond.methodLink RX10 69 yX10_front, Cond.instanceMethod yX10_front, Cond.selects RX10 yX10_front yX10_front, Cond.code yX10_front cX10_front 5 (some .int), Cond.methodLink RX10 61 yX10_sweepOne, Cond.instanceMethod yX10_sweepOne, Cond.selects RX10 yX10_sweepOne yX10_sweepOne, Cond.code yX10_sweepOne cX10_sweepOne 2 none, Cond.methodLink RX10 72 yX10_standByDistance, Cond.instanceMethod yX10_standByDistance, Cond.selects RX10 yX10_standByDistance yX10_standByDistance, Cond.code yX10_standByDistance cX10_standByDistance 4 none, Cond.methodLink RX10 57 yX10_stand, Cond.instanceMethod yX10_stand]
def wsX10_tick_r2 : List Cond := [Cond.selects RX10 yX10_stand yX10_stand, Cond.code yX10_stand cX10_stand 3 none, Cond.methodLink RX10 84 yX10_getReady, Cond.instanceMethod yX10_getReady, Cond.selects RX10 yX10_getReady yX10_getReady, Cond.code yX10_getReady cX10_getReady 5 none, Cond.methodLink RX10 87 yX10_callSome, Cond.instanceMethod yX10_callSome, Cond.selects RX10 yX10_callSome yX10_callSome, Cond.code yX10_callSome cX10_callSome 3 none, Cond.methodLink RX10 78 yX10_callOne, Cond.instanceMethod yX10_callOne, Cond.selects RX10 yX10_callOne yX10_callOne, Cond.code yX10_callOne cX10_callOne 3 none, Cond.methodLink RX10 75 yX10_noteCall, Cond.instanceMethod yX10_noteCall, Cond.selects RX10 yX10_noteCall yX10_noteCall, Cond.code yX10_noteCall cX10_noteCall 3 none, Cond.methodLink RX10 90 yX10_inState, Cond.instanceMethod yX10_inState, Cond.selects RX10 yX10_inState yX10_inState, Cond.code yX10_inState cX10_inState 4 (some .int), Cond.methodLink RX10 93 yX10_sweepAll, Cond.instanceMethod yX10_sweepAll]
def wsX10_tick_r3 : List Cond := [Cond.selects RX10 yX10_sweepAll yX10_sweepAll, Cond.code yX10_sweepAll cX10_sweepAll 3 (some .int)]
def wsX10_tick : List Cond := .code yX10_tick cX10_tick 2 none :: ((wsX10_tick_r1 ++ (wsX10_tick_r2 ++ wsX10_tick_r3)) ++ wsX100)
def wsX10_give_r1 : List Cond := [Cond.fieldLink RX10 7 "PromiseWheelModel" "z" "[I", Cond.methodLink RX10 54 yX10_record, Cond.instanceMethod yX10_record, Cond.selects RX10 yX10_record yX10_record, Cond.initialized RX10, Cond.code yX10_record cX10_record 1 none, Cond.fieldLink RX10 46 "PromiseWheelModel" "isQuiet" "Z", Cond.methodLink RX10 50 yX10_push, Cond.instanceMethod yX10_push, Cond.selects RX10 yX10_push yX10_push, Cond.code yX10_push cX10_push 3 none, Cond.fieldLink RX10 42 "PromiseWheelModel" "pastMany" "I", Cond.fieldLink RX10 20 "PromiseWheelModel" "past" "[I", Cond.fieldLink RX10 23 "PromiseWheelModel" "pastHas" "[Z", Cond.fieldLink RX10 26 "PromiseWheelModel" "before" "[I", Cond.fieldLink RX10 13 "PromiseWheelModel" "snaps" "[I", Cond.fieldLink RX10 16 "PromiseWheelModel" "hasSnap" "[Z", Cond.methodLink RX10 72 yX10_standByDistance, Cond.instanceMethod yX10_standByDistance, Cond.selects RX10 yX10_standByDistance yX10_standByDistance, Cond.code yX10_standByDistance cX10_standByDistance 4 none, Cond.methodLink RX10 57 yX10_stand, Cond.instanceMethod yX10_stand, Cond.selects RX10 yX10_stand yX10_stand]
def wsX10_give_r2 : List Cond := [Cond.code yX10_stand cX10_stand 3 none]
def wsX10_give : List Cond := .code yX10_give cX10_give 6 (some .int) :: ((wsX10_give_r1 ++ wsX10_give_r2) ++ wsX100)
def wsX10_breakOff_r1 : List Cond := [Cond.fieldLink RX10 7 "PromiseWheelModel" "z" "[I", Cond.methodLink RX10 97 yX10_isPromise, Cond.instanceMethod yX10_isPromise, Cond.selects RX10 yX10_isPromise yX10_isPromise, Cond.initialized RX10, Cond.code yX10_isPromise cX10_isPromise 2 (some .boolean), Cond.methodLink RX10 54 yX10_record, Cond.instanceMethod yX10_record, Cond.selects RX10 yX10_record yX10_record, Cond.code yX10_record cX10_record 1 none, Cond.fieldLink RX10 46 "PromiseWheelModel" "isQuiet" "Z", Cond.methodLink RX10 50 yX10_push, Cond.instanceMethod yX10_push, Cond.selects RX10 yX10_push yX10_push, Cond.code yX10_push cX10_push 3 none, Cond.fieldLink RX10 42 "PromiseWheelModel" "pastMany" "I", Cond.fieldLink RX10 20 "PromiseWheelModel" "past" "[I", Cond.fieldLink RX10 23 "PromiseWheelModel" "pastHas" "[Z", Cond.fieldLink RX10 26 "PromiseWheelModel" "before" "[I", Cond.fieldLink RX10 13 "PromiseWheelModel" "snaps" "[I", Cond.fieldLink RX10 16 "PromiseWheelModel" "hasSnap" "[Z", Cond.methodLink RX10 90 yX10_inState, Cond.instanceMethod yX10_inState, Cond.selects RX10 yX10_inState yX10_inState]
def wsX10_breakOff_r2 : List Cond := [Cond.code yX10_inState cX10_inState 4 (some .int)]
def wsX10_breakOff : List Cond := .code yX10_breakOff cX10_breakOff 2 (some .int) :: ((wsX10_breakOff_r1 ++ wsX10_breakOff_r2) ++ wsX100)
def wsX10_move_r1 : List Cond := [Cond.fieldLink RX10 7 "PromiseWheelModel" "z" "[I", Cond.methodLink RX10 97 yX10_isPromise, Cond.instanceMethod yX10_isPromise, Cond.selects RX10 yX10_isPromise yX10_isPromise, Cond.initialized RX10, Cond.code yX10_isPromise cX10_isPromise 2 (some .boolean), Cond.methodLink RX10 54 yX10_record, Cond.instanceMethod yX10_record, Cond.selects RX10 yX10_record yX10_record, Cond.code yX10_record cX10_record 1 none, Cond.fieldLink RX10 46 "PromiseWheelModel" "isQuiet" "Z", Cond.methodLink RX10 50 yX10_push, Cond.instanceMethod yX10_push, Cond.selects RX10 yX10_push yX10_push, Cond.code yX10_push cX10_push 3 none, Cond.fieldLink RX10 42 "PromiseWheelModel" "pastMany" "I", Cond.fieldLink RX10 20 "PromiseWheelModel" "past" "[I", Cond.fieldLink RX10 23 "PromiseWheelModel" "pastHas" "[Z", Cond.fieldLink RX10 26 "PromiseWheelModel" "before" "[I", Cond.fieldLink RX10 13 "PromiseWheelModel" "snaps" "[I", Cond.fieldLink RX10 16 "PromiseWheelModel" "hasSnap" "[Z", Cond.methodLink RX10 72 yX10_standByDistance, Cond.instanceMethod yX10_standByDistance, Cond.selects RX10 yX10_standByDistance yX10_standByDistance]
def wsX10_move_r2 : List Cond := [Cond.code yX10_standByDistance cX10_standByDistance 4 none, Cond.methodLink RX10 57 yX10_stand, Cond.instanceMethod yX10_stand, Cond.selects RX10 yX10_stand yX10_stand, Cond.code yX10_stand cX10_stand 3 none]
def wsX10_move : List Cond := .code yX10_move cX10_move 4 (some .int) :: ((wsX10_move_r1 ++ wsX10_move_r2) ++ wsX100)
def wsX10_pass_r1 : List Cond := [Cond.fieldLink RX10 7 "PromiseWheelModel" "z" "[I", Cond.methodLink RX10 54 yX10_record, Cond.instanceMethod yX10_record, Cond.selects RX10 yX10_record yX10_record, Cond.initialized RX10, Cond.code yX10_record cX10_record 1 none, Cond.fieldLink RX10 46 "PromiseWheelModel" "isQuiet" "Z", Cond.methodLink RX10 50 yX10_push, Cond.instanceMethod yX10_push, Cond.selects RX10 yX10_push yX10_push, Cond.code yX10_push cX10_push 3 none, Cond.fieldLink RX10 42 "PromiseWheelModel" "pastMany" "I", Cond.fieldLink RX10 20 "PromiseWheelModel" "past" "[I", Cond.fieldLink RX10 23 "PromiseWheelModel" "pastHas" "[Z", Cond.fieldLink RX10 26 "PromiseWheelModel" "before" "[I", Cond.fieldLink RX10 13 "PromiseWheelModel" "snaps" "[I", Cond.fieldLink RX10 16 "PromiseWheelModel" "hasSnap" "[Z", Cond.methodLink RX10 101 yX10_tick, Cond.instanceMethod yX10_tick, Cond.selects RX10 yX10_tick yX10_tick, Cond.code yX10_tick cX10_tick 2 none, Cond.methodLink RX10 81 yX10_fall, Cond.instanceMethod yX10_fall, Cond.selects RX10 yX10_fall yX10_fall]
def wsX10_pass_r2 : List Cond := [Cond.code yX10_fall cX10_fall 5 none, Cond.methodLink RX10 65 yX10_manyAt, Cond.instanceMethod yX10_manyAt, Cond.selects RX10 yX10_manyAt yX10_manyAt, Cond.code yX10_manyAt cX10_manyAt 4 (some .int), Cond.methodLink RX10 69 yX10_front, Cond.instanceMethod yX10_front, Cond.selects RX10 yX10_front yX10_front, Cond.code yX10_front cX10_front 5 (some .int), Cond.methodLink RX10 61 yX10_sweepOne, Cond.instanceMethod yX10_sweepOne, Cond.selects RX10 yX10_sweepOne yX10_sweepOne, Cond.code yX10_sweepOne cX10_sweepOne 2 none, Cond.methodLink RX10 72 yX10_standByDistance, Cond.instanceMethod yX10_standByDistance, Cond.selects RX10 yX10_standByDistance yX10_standByDistance, Cond.code yX10_standByDistance cX10_standByDistance 4 none, Cond.methodLink RX10 57 yX10_stand, Cond.instanceMethod yX10_stand, Cond.selects RX10 yX10_stand yX10_stand, Cond.code yX10_stand cX10_stand 3 none, Cond.methodLink RX10 84 yX10_getReady, Cond.instanceMethod yX10_getReady, Cond.selects RX10 yX10_getReady yX10_getReady]
def wsX10_pass_r3 : List Cond := [Cond.code yX10_getReady cX10_getReady 5 none, Cond.methodLink RX10 87 yX10_callSome, Cond.instanceMethod yX10_callSome, Cond.selects RX10 yX10_callSome yX10_callSome, Cond.code yX10_callSome cX10_callSome 3 none, Cond.methodLink RX10 78 yX10_callOne, Cond.instanceMethod yX10_callOne, Cond.selects RX10 yX10_callOne yX10_callOne, Cond.code yX10_callOne cX10_callOne 3 none, Cond.methodLink RX10 75 yX10_noteCall, Cond.instanceMethod yX10_noteCall, Cond.selects RX10 yX10_noteCall yX10_noteCall, Cond.code yX10_noteCall cX10_noteCall 3 none, Cond.methodLink RX10 90 yX10_inState, Cond.instanceMethod yX10_inState, Cond.selects RX10 yX10_inState yX10_inState, Cond.code yX10_inState cX10_inState 4 (some .int), Cond.methodLink RX10 93 yX10_sweepAll, Cond.instanceMethod yX10_sweepAll, Cond.selects RX10 yX10_sweepAll yX10_sweepAll, Cond.code yX10_sweepAll cX10_sweepAll 3 (some .int)]
def wsX10_pass : List Cond := .code yX10_pass cX10_pass 4 (some .int) :: ((wsX10_pass_r1 ++ (wsX10_pass_r2 ++ wsX10_pass_r3)) ++ wsX100)
def wsX10_sweep_r1 : List Cond := [Cond.methodLink RX10 54 yX10_record, Cond.instanceMethod yX10_record, Cond.selects RX10 yX10_record yX10_record, Cond.initialized RX10, Cond.code yX10_record cX10_record 1 none, Cond.fieldLink RX10 46 "PromiseWheelModel" "isQuiet" "Z", Cond.methodLink RX10 50 yX10_push, Cond.instanceMethod yX10_push, Cond.selects RX10 yX10_push yX10_push, Cond.code yX10_push cX10_push 3 none, Cond.fieldLink RX10 42 "PromiseWheelModel" "pastMany" "I", Cond.fieldLink RX10 20 "PromiseWheelModel" "past" "[I", Cond.fieldLink RX10 23 "PromiseWheelModel" "pastHas" "[Z", Cond.fieldLink RX10 26 "PromiseWheelModel" "before" "[I", Cond.fieldLink RX10 7 "PromiseWheelModel" "z" "[I", Cond.fieldLink RX10 13 "PromiseWheelModel" "snaps" "[I", Cond.fieldLink RX10 16 "PromiseWheelModel" "hasSnap" "[Z", Cond.methodLink RX10 93 yX10_sweepAll, Cond.instanceMethod yX10_sweepAll, Cond.selects RX10 yX10_sweepAll yX10_sweepAll, Cond.code yX10_sweepAll cX10_sweepAll 3 (some .int), Cond.methodLink RX10 61 yX10_sweepOne, Cond.instanceMethod yX10_sweepOne, Cond.selects RX10 yX10_sweepOne yX10_sweepOne]
def wsX10_sweep_r2 : List Cond := [Cond.code yX10_sweepOne cX10_sweepOne 2 none]
def wsX10_sweep : List Cond := .code yX10_sweep cX10_sweep 1 (some .int) :: ((wsX10_sweep_r1 ++ wsX10_sweep_r2) ++ wsX100)
def wsX10_set : List Cond := .code yX10_set cX10_set 6 (some .int) :: ([.fieldLink RX10 7 "PromiseWheelModel" "z" "[I", .methodLink RX10 54 yX10_record, .instanceMethod yX10_record, .selects RX10 yX10_record yX10_record, .initialized RX10, .code yX10_record cX10_record 1 none, .fieldLink RX10 46 "PromiseWheelModel" "isQuiet" "Z", .methodLink RX10 50 yX10_push, .instanceMethod yX10_push, .selects RX10 yX10_push yX10_push, .code yX10_push cX10_push 3 none, .fieldLink RX10 42 "PromiseWheelModel" "pastMany" "I", .fieldLink RX10 20 "PromiseWheelModel" "past" "[I", .fieldLink RX10 23 "PromiseWheelModel" "pastHas" "[Z", .fieldLink RX10 26 "PromiseWheelModel" "before" "[I", .fieldLink RX10 13 "PromiseWheelModel" "snaps" "[I", .fieldLink RX10 16 "PromiseWheelModel" "hasSnap" "[Z"] ++ wsX100)
def wsX10_append : List Cond := .code yX10_append cX10_append 2 (some .int) :: ([.fieldLink RX10 104 "PromiseWheelModel" "typed" "I", .fieldLink RX10 32 "PromiseWheelModel" "text" "[C"] ++ wsX100)
def wsX10_clearText : List Cond := .code yX10_clearText cX10_clearText 2 (some .int) :: ([.fieldLink RX10 104 "PromiseWheelModel" "typed" "I"] ++ wsX100)
def wsX10_isSmall : List Cond := .code yX10_isSmall cX10_isSmall 2 (some .boolean) :: ([.fieldLink RX10 104 "PromiseWheelModel" "typed" "I", .fieldLink RX10 32 "PromiseWheelModel" "text" "[C"] ++ wsX100)
def wsX10_isDigit : List Cond := .code yX10_isDigit cX10_isDigit 2 (some .boolean) :: ([.fieldLink RX10 104 "PromiseWheelModel" "typed" "I", .fieldLink RX10 32 "PromiseWheelModel" "text" "[C"] ++ wsX100)
def wsX10_readToken : List Cond := .code yX10_readToken cX10_readToken 1 none :: ([.fieldLink RX10 107 "PromiseWheelModel" "end" "I", .fieldLink RX10 110 "PromiseWheelModel" "from" "I", .fieldLink RX10 104 "PromiseWheelModel" "typed" "I", .fieldLink RX10 32 "PromiseWheelModel" "text" "[C", .methodLink RX10 113 yX10_isSmall, .instanceMethod yX10_isSmall, .selects RX10 yX10_isSmall yX10_isSmall, .initialized RX10, .code yX10_isSmall cX10_isSmall 2 (some .boolean), .methodLink RX10 116 yX10_isDigit, .instanceMethod yX10_isDigit, .selects RX10 yX10_isDigit yX10_isDigit, .code yX10_isDigit cX10_isDigit 2 (some .boolean)] ++ wsX100)
def wsX10_spells : List Cond := .code yX10_spells cX10_spells 4 (some .boolean) :: ([.fieldLink RX10 32 "PromiseWheelModel" "text" "[C", .fieldLink RX10 110 "PromiseWheelModel" "from" "I"] ++ wsX100)
def wsX10_command : List Cond := .code yX10_command cX10_command 5 (some .int) :: ([.fieldLink RX10 107 "PromiseWheelModel" "end" "I", .fieldLink RX10 110 "PromiseWheelModel" "from" "I", .fieldLink RX10 32 "PromiseWheelModel" "text" "[C", .methodLink RX10 113 yX10_isSmall, .instanceMethod yX10_isSmall, .selects RX10 yX10_isSmall yX10_isSmall, .initialized RX10, .code yX10_isSmall cX10_isSmall 2 (some .boolean), .fieldLink RX10 104 "PromiseWheelModel" "typed" "I", .methodLink RX10 119 yX10_spells, .instanceMethod yX10_spells, .selects RX10 yX10_spells yX10_spells, .code yX10_spells cX10_spells 4 (some .boolean)] ++ wsX100)
def wsX10_isNumber : List Cond := .code yX10_isNumber cX10_isNumber 2 (some .boolean) :: ([.fieldLink RX10 107 "PromiseWheelModel" "end" "I", .fieldLink RX10 110 "PromiseWheelModel" "from" "I", .fieldLink RX10 32 "PromiseWheelModel" "text" "[C", .methodLink RX10 116 yX10_isDigit, .instanceMethod yX10_isDigit, .selects RX10 yX10_isDigit yX10_isDigit, .initialized RX10, .code yX10_isDigit cX10_isDigit 2 (some .boolean), .fieldLink RX10 104 "PromiseWheelModel" "typed" "I"] ++ wsX100)
def wsX10_number : List Cond := .code yX10_number cX10_number 3 (some .int) :: ([.fieldLink RX10 110 "PromiseWheelModel" "from" "I", .fieldLink RX10 107 "PromiseWheelModel" "end" "I", .fieldLink RX10 32 "PromiseWheelModel" "text" "[C"] ++ wsX100)
def wsX10_readNumbers_r1 : List Cond := [Cond.fieldLink RX10 39 "PromiseWheelModel" "numbers" "[I", Cond.fieldLink RX10 107 "PromiseWheelModel" "end" "I", Cond.fieldLink RX10 110 "PromiseWheelModel" "from" "I", Cond.fieldLink RX10 32 "PromiseWheelModel" "text" "[C", Cond.methodLink RX10 123 yX10_readToken, Cond.instanceMethod yX10_readToken, Cond.selects RX10 yX10_readToken yX10_readToken, Cond.initialized RX10, Cond.code yX10_readToken cX10_readToken 1 none, Cond.fieldLink RX10 104 "PromiseWheelModel" "typed" "I", Cond.methodLink RX10 113 yX10_isSmall, Cond.instanceMethod yX10_isSmall, Cond.selects RX10 yX10_isSmall yX10_isSmall, Cond.code yX10_isSmall cX10_isSmall 2 (some .boolean), Cond.methodLink RX10 116 yX10_isDigit, Cond.instanceMethod yX10_isDigit, Cond.selects RX10 yX10_isDigit yX10_isDigit, Cond.code yX10_isDigit cX10_isDigit 2 (some .boolean), Cond.methodLink RX10 126 yX10_isNumber, Cond.instanceMethod yX10_isNumber, Cond.selects RX10 yX10_isNumber yX10_isNumber, Cond.code yX10_isNumber cX10_isNumber 2 (some .boolean), Cond.methodLink RX10 130 yX10_number, Cond.instanceMethod yX10_number]
def wsX10_readNumbers_r2 : List Cond := [Cond.selects RX10 yX10_number yX10_number, Cond.code yX10_number cX10_number 3 (some .int)]
def wsX10_readNumbers : List Cond := .code yX10_readNumbers cX10_readNumbers 3 (some .boolean) :: ((wsX10_readNumbers_r1 ++ wsX10_readNumbers_r2) ++ wsX100)
def wsX10_does_r1 : List Cond := [Cond.fieldLink RX10 39 "PromiseWheelModel" "numbers" "[I", Cond.methodLink RX10 133 yX10_give, Cond.instanceMethod yX10_give, Cond.selects RX10 yX10_give yX10_give, Cond.initialized RX10, Cond.code yX10_give cX10_give 6 (some .int), Cond.fieldLink RX10 7 "PromiseWheelModel" "z" "[I", Cond.methodLink RX10 54 yX10_record, Cond.instanceMethod yX10_record, Cond.selects RX10 yX10_record yX10_record, Cond.code yX10_record cX10_record 1 none, Cond.fieldLink RX10 46 "PromiseWheelModel" "isQuiet" "Z", Cond.methodLink RX10 50 yX10_push, Cond.instanceMethod yX10_push, Cond.selects RX10 yX10_push yX10_push, Cond.code yX10_push cX10_push 3 none, Cond.fieldLink RX10 42 "PromiseWheelModel" "pastMany" "I", Cond.fieldLink RX10 20 "PromiseWheelModel" "past" "[I", Cond.fieldLink RX10 23 "PromiseWheelModel" "pastHas" "[Z", Cond.fieldLink RX10 26 "PromiseWheelModel" "before" "[I", Cond.fieldLink RX10 13 "PromiseWheelModel" "snaps" "[I", Cond.fieldLink RX10 16 "PromiseWheelModel" "hasSnap" "[Z", Cond.methodLink RX10 72 yX10_standByDistance, Cond.instanceMethod yX10_standByDistance]
def wsX10_does_r2 : List Cond := [Cond.selects RX10 yX10_standByDistance yX10_standByDistance, Cond.code yX10_standByDistance cX10_standByDistance 4 none, Cond.methodLink RX10 57 yX10_stand, Cond.instanceMethod yX10_stand, Cond.selects RX10 yX10_stand yX10_stand, Cond.code yX10_stand cX10_stand 3 none, Cond.methodLink RX10 137 yX10_breakOff, Cond.instanceMethod yX10_breakOff, Cond.selects RX10 yX10_breakOff yX10_breakOff, Cond.code yX10_breakOff cX10_breakOff 2 (some .int), Cond.methodLink RX10 97 yX10_isPromise, Cond.instanceMethod yX10_isPromise, Cond.selects RX10 yX10_isPromise yX10_isPromise, Cond.code yX10_isPromise cX10_isPromise 2 (some .boolean), Cond.methodLink RX10 90 yX10_inState, Cond.instanceMethod yX10_inState, Cond.selects RX10 yX10_inState yX10_inState, Cond.code yX10_inState cX10_inState 4 (some .int), Cond.methodLink RX10 140 yX10_move, Cond.instanceMethod yX10_move, Cond.selects RX10 yX10_move yX10_move, Cond.code yX10_move cX10_move 4 (some .int), Cond.methodLink RX10 144 yX10_pass, Cond.instanceMethod yX10_pass]
def wsX10_does_r3 : List Cond := [Cond.selects RX10 yX10_pass yX10_pass, Cond.code yX10_pass cX10_pass 4 (some .int), Cond.methodLink RX10 101 yX10_tick, Cond.instanceMethod yX10_tick, Cond.selects RX10 yX10_tick yX10_tick, Cond.code yX10_tick cX10_tick 2 none, Cond.methodLink RX10 81 yX10_fall, Cond.instanceMethod yX10_fall, Cond.selects RX10 yX10_fall yX10_fall, Cond.code yX10_fall cX10_fall 5 none, Cond.methodLink RX10 65 yX10_manyAt, Cond.instanceMethod yX10_manyAt, Cond.selects RX10 yX10_manyAt yX10_manyAt, Cond.code yX10_manyAt cX10_manyAt 4 (some .int), Cond.methodLink RX10 69 yX10_front, Cond.instanceMethod yX10_front, Cond.selects RX10 yX10_front yX10_front, Cond.code yX10_front cX10_front 5 (some .int), Cond.methodLink RX10 61 yX10_sweepOne, Cond.instanceMethod yX10_sweepOne, Cond.selects RX10 yX10_sweepOne yX10_sweepOne, Cond.code yX10_sweepOne cX10_sweepOne 2 none, Cond.methodLink RX10 84 yX10_getReady, Cond.instanceMethod yX10_getReady]
def wsX10_does_r4 : List Cond := [Cond.selects RX10 yX10_getReady yX10_getReady, Cond.code yX10_getReady cX10_getReady 5 none, Cond.methodLink RX10 87 yX10_callSome, Cond.instanceMethod yX10_callSome, Cond.selects RX10 yX10_callSome yX10_callSome, Cond.code yX10_callSome cX10_callSome 3 none, Cond.methodLink RX10 78 yX10_callOne, Cond.instanceMethod yX10_callOne, Cond.selects RX10 yX10_callOne yX10_callOne, Cond.code yX10_callOne cX10_callOne 3 none, Cond.methodLink RX10 75 yX10_noteCall, Cond.instanceMethod yX10_noteCall, Cond.selects RX10 yX10_noteCall yX10_noteCall, Cond.code yX10_noteCall cX10_noteCall 3 none, Cond.methodLink RX10 93 yX10_sweepAll, Cond.instanceMethod yX10_sweepAll, Cond.selects RX10 yX10_sweepAll yX10_sweepAll, Cond.code yX10_sweepAll cX10_sweepAll 3 (some .int), Cond.methodLink RX10 147 yX10_sweep, Cond.instanceMethod yX10_sweep, Cond.selects RX10 yX10_sweep yX10_sweep, Cond.code yX10_sweep cX10_sweep 1 (some .int)]
def wsX10_does : List Cond := .code yX10_does cX10_does 2 (some .int) :: ((wsX10_does_r1 ++ (wsX10_does_r2 ++ (wsX10_does_r3 ++ wsX10_does_r4))) ++ wsX100)
def wsX10_numbersOf : List Cond := .code yX10_numbersOf cX10_numbersOf 1 (some .int) :: ([])
def wsX10_fail : List Cond := .code yX10_fail cX10_fail 6 (some .int) :: ([.fieldLink RX10 46 "PromiseWheelModel" "isQuiet" "Z", .fieldLink RX10 7 "PromiseWheelModel" "z" "[I", .fieldLink RX10 26 "PromiseWheelModel" "before" "[I", .fieldLink RX10 150 "PromiseWheelModel" "hasFailed" "Z", .fieldLink RX10 36 "PromiseWheelModel" "failure" "[I"] ++ wsX100)
def wsX10_run_r1 : List Cond := [Cond.fieldLink RX10 26 "PromiseWheelModel" "before" "[I", Cond.fieldLink RX10 7 "PromiseWheelModel" "z" "[I", Cond.fieldLink RX10 46 "PromiseWheelModel" "isQuiet" "Z", Cond.fieldLink RX10 107 "PromiseWheelModel" "end" "I", Cond.fieldLink RX10 110 "PromiseWheelModel" "from" "I", Cond.fieldLink RX10 104 "PromiseWheelModel" "typed" "I", Cond.methodLink RX10 123 yX10_readToken, Cond.instanceMethod yX10_readToken, Cond.selects RX10 yX10_readToken yX10_readToken, Cond.initialized RX10, Cond.code yX10_readToken cX10_readToken 1 none, Cond.fieldLink RX10 32 "PromiseWheelModel" "text" "[C", Cond.methodLink RX10 113 yX10_isSmall, Cond.instanceMethod yX10_isSmall, Cond.selects RX10 yX10_isSmall yX10_isSmall, Cond.code yX10_isSmall cX10_isSmall 2 (some .boolean), Cond.methodLink RX10 116 yX10_isDigit, Cond.instanceMethod yX10_isDigit, Cond.selects RX10 yX10_isDigit yX10_isDigit, Cond.code yX10_isDigit cX10_isDigit 2 (some .boolean), Cond.methodLink RX10 153 yX10_command, Cond.instanceMethod yX10_command, Cond.selects RX10 yX10_command yX10_command, Cond.code yX10_command cX10_command 5 (some .int)]
def wsX10_run_r2 : List Cond := [Cond.methodLink RX10 119 yX10_spells, Cond.instanceMethod yX10_spells, Cond.selects RX10 yX10_spells yX10_spells, Cond.code yX10_spells cX10_spells 4 (some .boolean), Cond.methodLink RX10 156 yX10_numbersOf, Cond.static yX10_numbersOf, Cond.code yX10_numbersOf cX10_numbersOf 1 (some .int), Cond.methodLink RX10 159 yX10_readNumbers, Cond.instanceMethod yX10_readNumbers, Cond.selects RX10 yX10_readNumbers yX10_readNumbers, Cond.code yX10_readNumbers cX10_readNumbers 3 (some .boolean), Cond.fieldLink RX10 39 "PromiseWheelModel" "numbers" "[I", Cond.methodLink RX10 126 yX10_isNumber, Cond.instanceMethod yX10_isNumber, Cond.selects RX10 yX10_isNumber yX10_isNumber, Cond.code yX10_isNumber cX10_isNumber 2 (some .boolean), Cond.methodLink RX10 130 yX10_number, Cond.instanceMethod yX10_number, Cond.selects RX10 yX10_number yX10_number, Cond.code yX10_number cX10_number 3 (some .int), Cond.methodLink RX10 162 yX10_fail, Cond.instanceMethod yX10_fail, Cond.selects RX10 yX10_fail yX10_fail, Cond.code yX10_fail cX10_fail 6 (some .int)]
def wsX10_run_r3 : List Cond := [Cond.fieldLink RX10 150 "PromiseWheelModel" "hasFailed" "Z", Cond.fieldLink RX10 36 "PromiseWheelModel" "failure" "[I", Cond.methodLink RX10 166 yX10_does, Cond.instanceMethod yX10_does, Cond.selects RX10 yX10_does yX10_does, Cond.code yX10_does cX10_does 2 (some .int), Cond.methodLink RX10 133 yX10_give, Cond.instanceMethod yX10_give, Cond.selects RX10 yX10_give yX10_give, Cond.code yX10_give cX10_give 6 (some .int), Cond.methodLink RX10 54 yX10_record, Cond.instanceMethod yX10_record, Cond.selects RX10 yX10_record yX10_record, Cond.code yX10_record cX10_record 1 none, Cond.methodLink RX10 50 yX10_push, Cond.instanceMethod yX10_push, Cond.selects RX10 yX10_push yX10_push, Cond.code yX10_push cX10_push 3 none, Cond.fieldLink RX10 42 "PromiseWheelModel" "pastMany" "I", Cond.fieldLink RX10 20 "PromiseWheelModel" "past" "[I", Cond.fieldLink RX10 23 "PromiseWheelModel" "pastHas" "[Z", Cond.fieldLink RX10 13 "PromiseWheelModel" "snaps" "[I", Cond.fieldLink RX10 16 "PromiseWheelModel" "hasSnap" "[Z", Cond.methodLink RX10 72 yX10_standByDistance]
def wsX10_run_r4 : List Cond := [Cond.instanceMethod yX10_standByDistance, Cond.selects RX10 yX10_standByDistance yX10_standByDistance, Cond.code yX10_standByDistance cX10_standByDistance 4 none, Cond.methodLink RX10 57 yX10_stand, Cond.instanceMethod yX10_stand, Cond.selects RX10 yX10_stand yX10_stand, Cond.code yX10_stand cX10_stand 3 none, Cond.methodLink RX10 137 yX10_breakOff, Cond.instanceMethod yX10_breakOff, Cond.selects RX10 yX10_breakOff yX10_breakOff, Cond.code yX10_breakOff cX10_breakOff 2 (some .int), Cond.methodLink RX10 97 yX10_isPromise, Cond.instanceMethod yX10_isPromise, Cond.selects RX10 yX10_isPromise yX10_isPromise, Cond.code yX10_isPromise cX10_isPromise 2 (some .boolean), Cond.methodLink RX10 90 yX10_inState, Cond.instanceMethod yX10_inState, Cond.selects RX10 yX10_inState yX10_inState, Cond.code yX10_inState cX10_inState 4 (some .int), Cond.methodLink RX10 140 yX10_move, Cond.instanceMethod yX10_move, Cond.selects RX10 yX10_move yX10_move, Cond.code yX10_move cX10_move 4 (some .int), Cond.methodLink RX10 144 yX10_pass]
def wsX10_run_r5 : List Cond := [Cond.instanceMethod yX10_pass, Cond.selects RX10 yX10_pass yX10_pass, Cond.code yX10_pass cX10_pass 4 (some .int), Cond.methodLink RX10 101 yX10_tick, Cond.instanceMethod yX10_tick, Cond.selects RX10 yX10_tick yX10_tick, Cond.code yX10_tick cX10_tick 2 none, Cond.methodLink RX10 81 yX10_fall, Cond.instanceMethod yX10_fall, Cond.selects RX10 yX10_fall yX10_fall, Cond.code yX10_fall cX10_fall 5 none, Cond.methodLink RX10 65 yX10_manyAt, Cond.instanceMethod yX10_manyAt, Cond.selects RX10 yX10_manyAt yX10_manyAt, Cond.code yX10_manyAt cX10_manyAt 4 (some .int), Cond.methodLink RX10 69 yX10_front, Cond.instanceMethod yX10_front, Cond.selects RX10 yX10_front yX10_front, Cond.code yX10_front cX10_front 5 (some .int), Cond.methodLink RX10 61 yX10_sweepOne, Cond.instanceMethod yX10_sweepOne, Cond.selects RX10 yX10_sweepOne yX10_sweepOne, Cond.code yX10_sweepOne cX10_sweepOne 2 none, Cond.methodLink RX10 84 yX10_getReady]
def wsX10_run_r6 : List Cond := [Cond.instanceMethod yX10_getReady, Cond.selects RX10 yX10_getReady yX10_getReady, Cond.code yX10_getReady cX10_getReady 5 none, Cond.methodLink RX10 87 yX10_callSome, Cond.instanceMethod yX10_callSome, Cond.selects RX10 yX10_callSome yX10_callSome, Cond.code yX10_callSome cX10_callSome 3 none, Cond.methodLink RX10 78 yX10_callOne, Cond.instanceMethod yX10_callOne, Cond.selects RX10 yX10_callOne yX10_callOne, Cond.code yX10_callOne cX10_callOne 3 none, Cond.methodLink RX10 75 yX10_noteCall, Cond.instanceMethod yX10_noteCall, Cond.selects RX10 yX10_noteCall yX10_noteCall, Cond.code yX10_noteCall cX10_noteCall 3 none, Cond.methodLink RX10 93 yX10_sweepAll, Cond.instanceMethod yX10_sweepAll, Cond.selects RX10 yX10_sweepAll yX10_sweepAll, Cond.code yX10_sweepAll cX10_sweepAll 3 (some .int), Cond.methodLink RX10 147 yX10_sweep, Cond.instanceMethod yX10_sweep, Cond.selects RX10 yX10_sweep yX10_sweep, Cond.code yX10_sweep cX10_sweep 1 (some .int)]
def wsX10_run : List Cond := .code yX10_run cX10_run 5 (some .int) :: ((wsX10_run_r1 ++ (wsX10_run_r2 ++ (wsX10_run_r3 ++ (wsX10_run_r4 ++ (wsX10_run_r5 ++ wsX10_run_r6))))) ++ wsX100)
def wsX10_failure : List Cond := .code yX10_failure cX10_failure 2 (some .int) :: ([.fieldLink RX10 150 "PromiseWheelModel" "hasFailed" "Z", .fieldLink RX10 36 "PromiseWheelModel" "failure" "[I"] ++ wsX100)
def wsX10_snapshots : List Cond := .code yX10_snapshots cX10_snapshots 2 (some .int) :: ([.fieldLink RX10 16 "PromiseWheelModel" "hasSnap" "[Z"] ++ wsX100)
def wsX10_count : List Cond := .code yX10_count cX10_count 2 (some .int) :: ([.fieldLink RX10 7 "PromiseWheelModel" "z" "[I", .fieldLink RX10 42 "PromiseWheelModel" "pastMany" "I", .fieldLink RX10 104 "PromiseWheelModel" "typed" "I", .methodLink RX10 90 yX10_inState, .instanceMethod yX10_inState, .selects RX10 yX10_inState yX10_inState, .initialized RX10, .code yX10_inState cX10_inState 4 (some .int), .methodLink RX10 169 yX10_snapshots, .instanceMethod yX10_snapshots, .selects RX10 yX10_snapshots yX10_snapshots, .code yX10_snapshots cX10_snapshots 2 (some .int), .fieldLink RX10 16 "PromiseWheelModel" "hasSnap" "[Z"] ++ wsX100)
def wsX10_promise : List Cond := .code yX10_promise cX10_promise 5 (some .int) :: ([.fieldLink RX10 7 "PromiseWheelModel" "z" "[I", .methodLink RX10 97 yX10_isPromise, .instanceMethod yX10_isPromise, .selects RX10 yX10_isPromise yX10_isPromise, .initialized RX10, .code yX10_isPromise cX10_isPromise 2 (some .boolean), .methodLink RX10 172 yX10_placeOf, .instanceMethod yX10_placeOf, .selects RX10 yX10_placeOf yX10_placeOf, .code yX10_placeOf cX10_placeOf 4 (some .int)] ++ wsX100)
def wsX10_slot : List Cond := .code yX10_slot cX10_slot 11 (some .int) :: ([.fieldLink RX10 7 "PromiseWheelModel" "z" "[I", .methodLink RX10 65 yX10_manyAt, .instanceMethod yX10_manyAt, .selects RX10 yX10_manyAt yX10_manyAt, .initialized RX10, .code yX10_manyAt cX10_manyAt 4 (some .int)] ++ wsX100)
def wsX10_stands : List Cond := .code yX10_stands cX10_stands 7 (some .int) :: ([.fieldLink RX10 7 "PromiseWheelModel" "z" "[I", .methodLink RX10 172 yX10_placeOf, .instanceMethod yX10_placeOf, .selects RX10 yX10_placeOf yX10_placeOf, .initialized RX10, .code yX10_placeOf cX10_placeOf 4 (some .int)] ++ wsX100)
def wsX10_call : List Cond := .code yX10_call cX10_call 3 (some .int) :: ([.fieldLink RX10 7 "PromiseWheelModel" "z" "[I"] ++ wsX100)
def wsX10_better : List Cond := .code yX10_better cX10_better 4 (some .int) :: ([.fieldLink RX10 7 "PromiseWheelModel" "z" "[I"] ++ wsX100)
def wsX10_bestAt : List Cond := .code yX10_bestAt cX10_bestAt 4 (some .int) :: ([.fieldLink RX10 7 "PromiseWheelModel" "z" "[I", .methodLink RX10 175 yX10_better, .instanceMethod yX10_better, .selects RX10 yX10_better yX10_better, .initialized RX10, .code yX10_better cX10_better 4 (some .int)] ++ wsX100)
def wsX10_bestOfRing : List Cond := .code yX10_bestOfRing cX10_bestOfRing 5 (some .int) :: ([.fieldLink RX10 7 "PromiseWheelModel" "z" "[I", .methodLink RX10 178 yX10_bestAt, .instanceMethod yX10_bestAt, .selects RX10 yX10_bestAt yX10_bestAt, .initialized RX10, .code yX10_bestAt cX10_bestAt 4 (some .int), .methodLink RX10 175 yX10_better, .instanceMethod yX10_better, .selects RX10 yX10_better yX10_better, .code yX10_better cX10_better 4 (some .int)] ++ wsX100)
def wsX10_next : List Cond := .code yX10_next cX10_next 4 (some .int) :: ([.fieldLink RX10 7 "PromiseWheelModel" "z" "[I", .methodLink RX10 178 yX10_bestAt, .instanceMethod yX10_bestAt, .selects RX10 yX10_bestAt yX10_bestAt, .initialized RX10, .code yX10_bestAt cX10_bestAt 4 (some .int), .methodLink RX10 175 yX10_better, .instanceMethod yX10_better, .selects RX10 yX10_better yX10_better, .code yX10_better cX10_better 4 (some .int), .methodLink RX10 181 yX10_bestOfRing, .instanceMethod yX10_bestOfRing, .selects RX10 yX10_bestOfRing yX10_bestOfRing, .code yX10_bestOfRing cX10_bestOfRing 5 (some .int)] ++ wsX100)
def wsX10_keepAside : List Cond := .code yX10_keepAside cX10_keepAside 2 none :: ([.fieldLink RX10 29 "PromiseWheelModel" "spare" "[I", .fieldLink RX10 7 "PromiseWheelModel" "z" "[I"] ++ wsX100)
def wsX10_bringBack : List Cond := .code yX10_bringBack cX10_bringBack 2 none :: ([.fieldLink RX10 7 "PromiseWheelModel" "z" "[I", .fieldLink RX10 29 "PromiseWheelModel" "spare" "[I"] ++ wsX100)
def wsX10_when_r1 : List Cond := [Cond.fieldLink RX10 7 "PromiseWheelModel" "z" "[I", Cond.methodLink RX10 97 yX10_isPromise, Cond.instanceMethod yX10_isPromise, Cond.selects RX10 yX10_isPromise yX10_isPromise, Cond.initialized RX10, Cond.code yX10_isPromise cX10_isPromise 2 (some .boolean), Cond.methodLink RX10 184 yX10_keepAside, Cond.instanceMethod yX10_keepAside, Cond.selects RX10 yX10_keepAside yX10_keepAside, Cond.code yX10_keepAside cX10_keepAside 2 none, Cond.fieldLink RX10 29 "PromiseWheelModel" "spare" "[I", Cond.methodLink RX10 101 yX10_tick, Cond.instanceMethod yX10_tick, Cond.selects RX10 yX10_tick yX10_tick, Cond.code yX10_tick cX10_tick 2 none, Cond.methodLink RX10 81 yX10_fall, Cond.instanceMethod yX10_fall, Cond.selects RX10 yX10_fall yX10_fall, Cond.code yX10_fall cX10_fall 5 none, Cond.methodLink RX10 65 yX10_manyAt, Cond.instanceMethod yX10_manyAt, Cond.selects RX10 yX10_manyAt yX10_manyAt, Cond.code yX10_manyAt cX10_manyAt 4 (some .int), Cond.methodLink RX10 69 yX10_front]
def wsX10_when_r2 : List Cond := [Cond.instanceMethod yX10_front, Cond.selects RX10 yX10_front yX10_front, Cond.code yX10_front cX10_front 5 (some .int), Cond.methodLink RX10 61 yX10_sweepOne, Cond.instanceMethod yX10_sweepOne, Cond.selects RX10 yX10_sweepOne yX10_sweepOne, Cond.code yX10_sweepOne cX10_sweepOne 2 none, Cond.methodLink RX10 72 yX10_standByDistance, Cond.instanceMethod yX10_standByDistance, Cond.selects RX10 yX10_standByDistance yX10_standByDistance, Cond.code yX10_standByDistance cX10_standByDistance 4 none, Cond.methodLink RX10 57 yX10_stand, Cond.instanceMethod yX10_stand, Cond.selects RX10 yX10_stand yX10_stand, Cond.code yX10_stand cX10_stand 3 none, Cond.methodLink RX10 84 yX10_getReady, Cond.instanceMethod yX10_getReady, Cond.selects RX10 yX10_getReady yX10_getReady, Cond.code yX10_getReady cX10_getReady 5 none, Cond.methodLink RX10 87 yX10_callSome, Cond.instanceMethod yX10_callSome, Cond.selects RX10 yX10_callSome yX10_callSome, Cond.code yX10_callSome cX10_callSome 3 none, Cond.methodLink RX10 78 yX10_callOne]
def wsX10_when_r3 : List Cond := [Cond.instanceMethod yX10_callOne, Cond.selects RX10 yX10_callOne yX10_callOne, Cond.code yX10_callOne cX10_callOne 3 none, Cond.methodLink RX10 75 yX10_noteCall, Cond.instanceMethod yX10_noteCall, Cond.selects RX10 yX10_noteCall yX10_noteCall, Cond.code yX10_noteCall cX10_noteCall 3 none, Cond.methodLink RX10 90 yX10_inState, Cond.instanceMethod yX10_inState, Cond.selects RX10 yX10_inState yX10_inState, Cond.code yX10_inState cX10_inState 4 (some .int), Cond.methodLink RX10 93 yX10_sweepAll, Cond.instanceMethod yX10_sweepAll, Cond.selects RX10 yX10_sweepAll yX10_sweepAll, Cond.code yX10_sweepAll cX10_sweepAll 3 (some .int), Cond.methodLink RX10 187 yX10_bringBack, Cond.instanceMethod yX10_bringBack, Cond.selects RX10 yX10_bringBack yX10_bringBack, Cond.code yX10_bringBack cX10_bringBack 2 none]
def wsX10_when : List Cond := .code yX10_when cX10_when 4 (some .int) :: ((wsX10_when_r1 ++ (wsX10_when_r2 ++ wsX10_when_r3)) ++ wsX100)
def wsX10_would_r1 : List Cond := [Cond.fieldLink RX10 7 "PromiseWheelModel" "z" "[I", Cond.fieldLink RX10 29 "PromiseWheelModel" "spare" "[I", Cond.methodLink RX10 184 yX10_keepAside, Cond.instanceMethod yX10_keepAside, Cond.selects RX10 yX10_keepAside yX10_keepAside, Cond.initialized RX10, Cond.code yX10_keepAside cX10_keepAside 2 none, Cond.methodLink RX10 101 yX10_tick, Cond.instanceMethod yX10_tick, Cond.selects RX10 yX10_tick yX10_tick, Cond.code yX10_tick cX10_tick 2 none, Cond.methodLink RX10 81 yX10_fall, Cond.instanceMethod yX10_fall, Cond.selects RX10 yX10_fall yX10_fall, Cond.code yX10_fall cX10_fall 5 none, Cond.methodLink RX10 65 yX10_manyAt, Cond.instanceMethod yX10_manyAt, Cond.selects RX10 yX10_manyAt yX10_manyAt, Cond.code yX10_manyAt cX10_manyAt 4 (some .int), Cond.methodLink RX10 69 yX10_front, Cond.instanceMethod yX10_front, Cond.selects RX10 yX10_front yX10_front, Cond.code yX10_front cX10_front 5 (some .int), Cond.methodLink RX10 61 yX10_sweepOne]
def wsX10_would_r2 : List Cond := [Cond.instanceMethod yX10_sweepOne, Cond.selects RX10 yX10_sweepOne yX10_sweepOne, Cond.code yX10_sweepOne cX10_sweepOne 2 none, Cond.methodLink RX10 72 yX10_standByDistance, Cond.instanceMethod yX10_standByDistance, Cond.selects RX10 yX10_standByDistance yX10_standByDistance, Cond.code yX10_standByDistance cX10_standByDistance 4 none, Cond.methodLink RX10 57 yX10_stand, Cond.instanceMethod yX10_stand, Cond.selects RX10 yX10_stand yX10_stand, Cond.code yX10_stand cX10_stand 3 none, Cond.methodLink RX10 84 yX10_getReady, Cond.instanceMethod yX10_getReady, Cond.selects RX10 yX10_getReady yX10_getReady, Cond.code yX10_getReady cX10_getReady 5 none, Cond.methodLink RX10 87 yX10_callSome, Cond.instanceMethod yX10_callSome, Cond.selects RX10 yX10_callSome yX10_callSome, Cond.code yX10_callSome cX10_callSome 3 none, Cond.methodLink RX10 78 yX10_callOne, Cond.instanceMethod yX10_callOne, Cond.selects RX10 yX10_callOne yX10_callOne, Cond.code yX10_callOne cX10_callOne 3 none, Cond.methodLink RX10 75 yX10_noteCall]
def wsX10_would_r3 : List Cond := [Cond.instanceMethod yX10_noteCall, Cond.selects RX10 yX10_noteCall yX10_noteCall, Cond.code yX10_noteCall cX10_noteCall 3 none, Cond.methodLink RX10 90 yX10_inState, Cond.instanceMethod yX10_inState, Cond.selects RX10 yX10_inState yX10_inState, Cond.code yX10_inState cX10_inState 4 (some .int), Cond.methodLink RX10 93 yX10_sweepAll, Cond.instanceMethod yX10_sweepAll, Cond.selects RX10 yX10_sweepAll yX10_sweepAll, Cond.code yX10_sweepAll cX10_sweepAll 3 (some .int), Cond.methodLink RX10 187 yX10_bringBack, Cond.instanceMethod yX10_bringBack, Cond.selects RX10 yX10_bringBack yX10_bringBack, Cond.code yX10_bringBack cX10_bringBack 2 none]
def wsX10_would : List Cond := .code yX10_would cX10_would 6 (some .int) :: ((wsX10_would_r1 ++ (wsX10_would_r2 ++ wsX10_would_r3)) ++ wsX100)
def wsX10_isNeverLate_r1 : List Cond := [Cond.fieldLink RX10 7 "PromiseWheelModel" "z" "[I", Cond.fieldLink RX10 29 "PromiseWheelModel" "spare" "[I", Cond.methodLink RX10 184 yX10_keepAside, Cond.instanceMethod yX10_keepAside, Cond.selects RX10 yX10_keepAside yX10_keepAside, Cond.initialized RX10, Cond.code yX10_keepAside cX10_keepAside 2 none, Cond.methodLink RX10 101 yX10_tick, Cond.instanceMethod yX10_tick, Cond.selects RX10 yX10_tick yX10_tick, Cond.code yX10_tick cX10_tick 2 none, Cond.methodLink RX10 81 yX10_fall, Cond.instanceMethod yX10_fall, Cond.selects RX10 yX10_fall yX10_fall, Cond.code yX10_fall cX10_fall 5 none, Cond.methodLink RX10 65 yX10_manyAt, Cond.instanceMethod yX10_manyAt, Cond.selects RX10 yX10_manyAt yX10_manyAt, Cond.code yX10_manyAt cX10_manyAt 4 (some .int), Cond.methodLink RX10 69 yX10_front, Cond.instanceMethod yX10_front, Cond.selects RX10 yX10_front yX10_front, Cond.code yX10_front cX10_front 5 (some .int), Cond.methodLink RX10 61 yX10_sweepOne]
def wsX10_isNeverLate_r2 : List Cond := [Cond.instanceMethod yX10_sweepOne, Cond.selects RX10 yX10_sweepOne yX10_sweepOne, Cond.code yX10_sweepOne cX10_sweepOne 2 none, Cond.methodLink RX10 72 yX10_standByDistance, Cond.instanceMethod yX10_standByDistance, Cond.selects RX10 yX10_standByDistance yX10_standByDistance, Cond.code yX10_standByDistance cX10_standByDistance 4 none, Cond.methodLink RX10 57 yX10_stand, Cond.instanceMethod yX10_stand, Cond.selects RX10 yX10_stand yX10_stand, Cond.code yX10_stand cX10_stand 3 none, Cond.methodLink RX10 84 yX10_getReady, Cond.instanceMethod yX10_getReady, Cond.selects RX10 yX10_getReady yX10_getReady, Cond.code yX10_getReady cX10_getReady 5 none, Cond.methodLink RX10 87 yX10_callSome, Cond.instanceMethod yX10_callSome, Cond.selects RX10 yX10_callSome yX10_callSome, Cond.code yX10_callSome cX10_callSome 3 none, Cond.methodLink RX10 78 yX10_callOne, Cond.instanceMethod yX10_callOne, Cond.selects RX10 yX10_callOne yX10_callOne, Cond.code yX10_callOne cX10_callOne 3 none, Cond.methodLink RX10 75 yX10_noteCall]
def wsX10_isNeverLate_r3 : List Cond := [Cond.instanceMethod yX10_noteCall, Cond.selects RX10 yX10_noteCall yX10_noteCall, Cond.code yX10_noteCall cX10_noteCall 3 none, Cond.methodLink RX10 90 yX10_inState, Cond.instanceMethod yX10_inState, Cond.selects RX10 yX10_inState yX10_inState, Cond.code yX10_inState cX10_inState 4 (some .int), Cond.methodLink RX10 93 yX10_sweepAll, Cond.instanceMethod yX10_sweepAll, Cond.selects RX10 yX10_sweepAll yX10_sweepAll, Cond.code yX10_sweepAll cX10_sweepAll 3 (some .int), Cond.methodLink RX10 187 yX10_bringBack, Cond.instanceMethod yX10_bringBack, Cond.selects RX10 yX10_bringBack yX10_bringBack, Cond.code yX10_bringBack cX10_bringBack 2 none]
def wsX10_isNeverLate : List Cond := .code yX10_isNeverLate cX10_isNeverLate 4 (some .boolean) :: ((wsX10_isNeverLate_r1 ++ (wsX10_isNeverLate_r2 ++ wsX10_isNeverLate_r3)) ++ wsX100)
def wsX10_leastRoom_r1 : List Cond := [Cond.methodLink RX10 190 yX10_isNeverLate, Cond.instanceMethod yX10_isNeverLate, Cond.selects RX10 yX10_isNeverLate yX10_isNeverLate, Cond.initialized RX10, Cond.code yX10_isNeverLate cX10_isNeverLate 4 (some .boolean), Cond.fieldLink RX10 7 "PromiseWheelModel" "z" "[I", Cond.fieldLink RX10 29 "PromiseWheelModel" "spare" "[I", Cond.methodLink RX10 184 yX10_keepAside, Cond.instanceMethod yX10_keepAside, Cond.selects RX10 yX10_keepAside yX10_keepAside, Cond.code yX10_keepAside cX10_keepAside 2 none, Cond.methodLink RX10 101 yX10_tick, Cond.instanceMethod yX10_tick, Cond.selects RX10 yX10_tick yX10_tick, Cond.code yX10_tick cX10_tick 2 none, Cond.methodLink RX10 81 yX10_fall, Cond.instanceMethod yX10_fall, Cond.selects RX10 yX10_fall yX10_fall, Cond.code yX10_fall cX10_fall 5 none, Cond.methodLink RX10 65 yX10_manyAt, Cond.instanceMethod yX10_manyAt, Cond.selects RX10 yX10_manyAt yX10_manyAt, Cond.code yX10_manyAt cX10_manyAt 4 (some .int), Cond.methodLink RX10 69 yX10_front]
def wsX10_leastRoom_r2 : List Cond := [Cond.instanceMethod yX10_front, Cond.selects RX10 yX10_front yX10_front, Cond.code yX10_front cX10_front 5 (some .int), Cond.methodLink RX10 61 yX10_sweepOne, Cond.instanceMethod yX10_sweepOne, Cond.selects RX10 yX10_sweepOne yX10_sweepOne, Cond.code yX10_sweepOne cX10_sweepOne 2 none, Cond.methodLink RX10 72 yX10_standByDistance, Cond.instanceMethod yX10_standByDistance, Cond.selects RX10 yX10_standByDistance yX10_standByDistance, Cond.code yX10_standByDistance cX10_standByDistance 4 none, Cond.methodLink RX10 57 yX10_stand, Cond.instanceMethod yX10_stand, Cond.selects RX10 yX10_stand yX10_stand, Cond.code yX10_stand cX10_stand 3 none, Cond.methodLink RX10 84 yX10_getReady, Cond.instanceMethod yX10_getReady, Cond.selects RX10 yX10_getReady yX10_getReady, Cond.code yX10_getReady cX10_getReady 5 none, Cond.methodLink RX10 87 yX10_callSome, Cond.instanceMethod yX10_callSome, Cond.selects RX10 yX10_callSome yX10_callSome, Cond.code yX10_callSome cX10_callSome 3 none, Cond.methodLink RX10 78 yX10_callOne]
def wsX10_leastRoom_r3 : List Cond := [Cond.instanceMethod yX10_callOne, Cond.selects RX10 yX10_callOne yX10_callOne, Cond.code yX10_callOne cX10_callOne 3 none, Cond.methodLink RX10 75 yX10_noteCall, Cond.instanceMethod yX10_noteCall, Cond.selects RX10 yX10_noteCall yX10_noteCall, Cond.code yX10_noteCall cX10_noteCall 3 none, Cond.methodLink RX10 90 yX10_inState, Cond.instanceMethod yX10_inState, Cond.selects RX10 yX10_inState yX10_inState, Cond.code yX10_inState cX10_inState 4 (some .int), Cond.methodLink RX10 93 yX10_sweepAll, Cond.instanceMethod yX10_sweepAll, Cond.selects RX10 yX10_sweepAll yX10_sweepAll, Cond.code yX10_sweepAll cX10_sweepAll 3 (some .int), Cond.methodLink RX10 187 yX10_bringBack, Cond.instanceMethod yX10_bringBack, Cond.selects RX10 yX10_bringBack yX10_bringBack, Cond.code yX10_bringBack cX10_bringBack 2 none]
def wsX10_leastRoom : List Cond := .code yX10_leastRoom cX10_leastRoom 4 (some .int) :: ((wsX10_leastRoom_r1 ++ (wsX10_leastRoom_r2 ++ wsX10_leastRoom_r3)) ++ wsX100)
def wsJ9_max_7cf53 : List Cond := .code yJ9_max_7cf53 cJ9_max_7cf53 2 (some .int) :: ([])
def wsJ9_min_7cf53 : List Cond := .code yJ9_min_7cf53 cJ9_min_7cf53 2 (some .int) :: ([])
def wsL_law_r1 : List Cond := [Cond.classLink RL 7 RX9, Cond.instantiable RX9 4, Cond.initialized RX9, Cond.classLink RL 10 RX10, Cond.instantiable RX10 16, Cond.initialized RX10, Cond.methodLink RL 9 yX9_init, Cond.instanceMethod yX9_init, Cond.code yX9_init cX9_init 1 none, Cond.methodLink RX9 3 objectInit, Cond.instanceMethod objectInit, Cond.code objectInit ⟨#[0xb1]⟩ 1 none, Cond.classLink RX9 9 RX6, Cond.instantiable RX6 3, Cond.initialized RX6, Cond.fieldLink RX9 12 "PromiseWheel" "state" "LPromiseWheel$State;", Cond.classLink RX9 16 RX2, Cond.instantiable RX2 3, Cond.initialized RX2, Cond.fieldLink RX9 19 "PromiseWheel" "history" "LPromiseWheel$History;", Cond.classLink RX9 23 RX4, Cond.instantiable RX4 8, Cond.initialized RX4, Cond.fieldLink RX9 26 "PromiseWheel" "program" "LPromiseWheel$Program;"]
def wsL_law_r2 : List Cond := [Cond.classLink RX9 30 RX1, Cond.instantiable RX1 1, Cond.initialized RX1, Cond.fieldLink RX9 33 "PromiseWheel" "forecast" "LPromiseWheel$Forecast;", Cond.methodLink RX9 11 yX6_init, Cond.instanceMethod yX6_init, Cond.code yX6_init cX6_init 2 none, Cond.methodLink RX6 3 objectInit, Cond.classLink RX6 9 RX8, Cond.instantiable RX8 13, Cond.initialized RX8, Cond.fieldLink RX6 12 "PromiseWheel$State" "wheel" "LPromiseWheel$Wheel;", Cond.fieldLink RX6 18 "PromiseWheel$State" "snapshots" "[LPromiseWheel$Wheel;", Cond.arrayClass .boolean, Cond.fieldLink RX6 22 "PromiseWheel$State" "taken" "[Z", Cond.instanceMethod yX8_init, Cond.code yX8_init cX8_init 1 none, Cond.methodLink RX8 3 objectInit, Cond.classLink RX8 9 RX5, Cond.instantiable RX5 2, Cond.initialized RX5, Cond.fieldLink RX8 12 "PromiseWheel$Wheel" "promises" "LPromiseWheel$Promises;", Cond.classLink RX8 18 RX3, Cond.instantiable RX3 5]
def wsL_law_r3 : List Cond := [Cond.initialized RX3, Cond.fieldLink RX8 21 "PromiseWheel$Wheel" "lines" "LPromiseWheel$Lines;", Cond.classLink RX8 25 RX0, Cond.instantiable RX0 2, Cond.initialized RX0, Cond.fieldLink RX8 28 "PromiseWheel$Wheel" "diary" "LPromiseWheel$Diary;", Cond.fieldLink RX8 32 "PromiseWheel$Wheel" "room" "I", Cond.fieldLink RX8 36 "PromiseWheel$Wheel" "bound" "I", Cond.instanceMethod yX5_init, Cond.code yX5_init cX5_init 1 none, Cond.methodLink RX5 3 objectInit, Cond.arrayClass .int, Cond.fieldLink RX5 11 "PromiseWheel$Promises" "facts" "[I", Cond.methodLink RX8 20 yX3_init, Cond.instanceMethod yX3_init, Cond.code yX3_init cX3_init 1 none, Cond.methodLink RX3 3 objectInit, Cond.fieldLink RX3 9 "PromiseWheel$Lines" "first" "[I", Cond.fieldLink RX3 15 "PromiseWheel$Lines" "last" "[I", Cond.fieldLink RX3 18 "PromiseWheel$Lines" "length" "[I", Cond.fieldLink RX3 21 "PromiseWheel$Lines" "line" "[I", Cond.fieldLink RX3 24 "PromiseWheel$Lines" "behind" "[I", Cond.methodLink RX3 27 yJ7_fill_53178, Cond.static yJ7_fill_53178]
def wsL_law_r4 : List Cond := [Cond.initialized RJ7, Cond.code yJ7_fill_53178 cJ7_fill_53178 4 none, Cond.instanceMethod yX0_init, Cond.code yX0_init cX0_init 1 none, Cond.methodLink RX0 3 objectInit, Cond.fieldLink RX0 11 "PromiseWheel$Diary" "facts" "[I", Cond.methodLink RX9 18 yX2_init, Cond.instanceMethod yX2_init, Cond.code yX2_init cX2_init 2 none, Cond.methodLink RX2 5 objectInit, Cond.classLink RX2 11 RX6, Cond.fieldLink RX2 13 "PromiseWheel$History" "rows" "[LPromiseWheel$State;", Cond.methodLink RX2 17 yX6_init, Cond.instanceMethod yX4_init, Cond.code yX4_init cX4_init 1 none, Cond.methodLink RX4 3 objectInit, Cond.classLink RX4 9 RX7, Cond.instantiable RX7 5, Cond.initialized RX7, Cond.fieldLink RX4 12 "PromiseWheel$Program" "text" "LPromiseWheel$Text;", Cond.fieldLink RX4 18 "PromiseWheel$Program" "numbers" "[I", Cond.fieldLink RX4 22 "PromiseWheel$Program" "failureParts" "[I", Cond.instanceMethod yX7_init, Cond.code yX7_init cX7_init 1 none]
def wsL_law_r5 : List Cond := [Cond.methodLink RX7 3 objectInit, Cond.fieldLink RX7 9 "PromiseWheel$Text" "characters" "[I", Cond.instanceMethod yX1_init, Cond.code yX1_init cX1_init 1 none, Cond.methodLink RX1 3 objectInit, Cond.classLink RX1 9 RX8, Cond.fieldLink RX1 12 "PromiseWheel$Forecast" "imagined" "LPromiseWheel$Wheel;", Cond.methodLink RL 12 yX10_init, Cond.instanceMethod yX10_init, Cond.code yX10_init cX10_init 2 none, Cond.methodLink RX10 1 objectInit, Cond.fieldLink RX10 7 "PromiseWheelModel" "z" "[I", Cond.fieldLink RX10 13 "PromiseWheelModel" "snaps" "[I", Cond.fieldLink RX10 16 "PromiseWheelModel" "hasSnap" "[Z", Cond.fieldLink RX10 20 "PromiseWheelModel" "past" "[I", Cond.fieldLink RX10 23 "PromiseWheelModel" "pastHas" "[Z", Cond.fieldLink RX10 26 "PromiseWheelModel" "before" "[I", Cond.fieldLink RX10 29 "PromiseWheelModel" "spare" "[I", Cond.arrayClass .char, Cond.fieldLink RX10 32 "PromiseWheelModel" "text" "[C", Cond.fieldLink RX10 36 "PromiseWheelModel" "failure" "[I", Cond.fieldLink RX10 39 "PromiseWheelModel" "numbers" "[I", Cond.methodLink RL 13 yX9_give, Cond.instanceMethod yX9_give]
def wsL_law_r6 : List Cond := [Cond.selects RX9 yX9_give yX9_give, Cond.code yX9_give cX9_give 4 (some .int), Cond.methodLink RX9 37 yX2_note, Cond.instanceMethod yX2_note, Cond.selects RX2 yX2_note yX2_note, Cond.code yX2_note cX2_note 3 none, Cond.fieldLink RX2 22 "PromiseWheel$History" "noted" "I", Cond.methodLink RX2 25 yX2_rowAt, Cond.instanceMethod yX2_rowAt, Cond.selects RX2 yX2_rowAt yX2_rowAt, Cond.code yX2_rowAt cX2_rowAt 2 (some (.object "PromiseWheel$State")), Cond.methodLink RX2 29 yX6_copyFrom, Cond.instanceMethod yX6_copyFrom, Cond.selects RX6 yX6_copyFrom yX6_copyFrom, Cond.code yX6_copyFrom cX6_copyFrom 5 none, Cond.methodLink RX6 26 yX8_copyFrom, Cond.instanceMethod yX8_copyFrom, Cond.selects RX8 yX8_copyFrom yX8_copyFrom, Cond.code yX8_copyFrom cX8_copyFrom 2 none, Cond.fieldLink RX8 49 "PromiseWheel$Wheel" "now" "I", Cond.fieldLink RX8 52 "PromiseWheel$Wheel" "drift" "I", Cond.fieldLink RX8 55 "PromiseWheel$Wheel" "brokenStanding" "I", Cond.fieldLink RX8 58 "PromiseWheel$Wheel" "lateCalls" "I", Cond.fieldLink RX8 61 "PromiseWheel$Wheel" "falls" "I"]
def wsL_law_r7 : List Cond := [Cond.fieldLink RX8 64 "PromiseWheel$Wheel" "swept" "I", Cond.fieldLink RX8 67 "PromiseWheel$Wheel" "passedOver" "I", Cond.fieldLink RX8 70 "PromiseWheel$Wheel" "longestQueue" "I", Cond.methodLink RX8 39 yX5_copyFrom, Cond.instanceMethod yX5_copyFrom, Cond.selects RX5 yX5_copyFrom yX5_copyFrom, Cond.code yX5_copyFrom cX5_copyFrom 2 none, Cond.methodLink RX5 15 arraycopyName, Cond.native arraycopyName, Cond.static arraycopyName, Cond.initialized "java/lang/System", Cond.fieldLink RX5 21 "PromiseWheel$Promises" "given" "I", Cond.methodLink RX8 43 yX3_copyFrom, Cond.instanceMethod yX3_copyFrom, Cond.selects RX3 yX3_copyFrom yX3_copyFrom, Cond.code yX3_copyFrom cX3_copyFrom 2 none, Cond.methodLink RX3 33 arraycopyName, Cond.methodLink RX8 46 yX0_copyFrom, Cond.instanceMethod yX0_copyFrom, Cond.selects RX0 yX0_copyFrom yX0_copyFrom, Cond.code yX0_copyFrom cX0_copyFrom 2 none, Cond.methodLink RX0 15 arraycopyName, Cond.fieldLink RX0 21 "PromiseWheel$Diary" "calls" "I", Cond.methodLink RX9 45 yX8_addPromise]
def wsL_law_r8 : List Cond := [Cond.instanceMethod yX8_addPromise, Cond.selects RX8 yX8_addPromise yX8_addPromise, Cond.code yX8_addPromise cX8_addPromise 7 (some .int), Cond.methodLink RX8 73 yX5_given, Cond.instanceMethod yX5_given, Cond.selects RX5 yX5_given yX5_given, Cond.code yX5_given cX5_given 1 (some .int), Cond.methodLink RX8 77 yX5_add, Cond.instanceMethod yX5_add, Cond.selects RX5 yX5_add yX5_add, Cond.code yX5_add cX5_add 5 (some .int), Cond.methodLink RX5 29 yX5_write, Cond.instanceMethod yX5_write, Cond.selects RX5 yX5_write yX5_write, Cond.code yX5_write cX5_write 4 none, Cond.methodLink RX8 81 yX8_lineFor, Cond.instanceMethod yX8_lineFor, Cond.selects RX8 yX8_lineFor yX8_lineFor, Cond.code yX8_lineFor cX8_lineFor 3 (some .int), Cond.methodLink RX8 85 yX3_join, Cond.instanceMethod yX3_join, Cond.selects RX3 yX3_join yX3_join, Cond.code yX3_join cX3_join 4 none, Cond.methodLink RX9 51 yX9_recorded]
def wsL_law_r9 : List Cond := [Cond.instanceMethod yX9_recorded, Cond.selects RX9 yX9_recorded yX9_recorded, Cond.code yX9_recorded cX9_recorded 2 (some .int), Cond.methodLink RX9 189 yX2_keepNoted, Cond.instanceMethod yX2_keepNoted, Cond.selects RX2 yX2_keepNoted yX2_keepNoted, Cond.code yX2_keepNoted cX2_keepNoted 1 none, Cond.fieldLink RX2 18 "PromiseWheel$History" "states" "I", Cond.methodLink RX2 33 Lib.Math.min.name, Cond.static Lib.Math.min.name, Cond.initialized "java/lang/Math", Cond.code Lib.Math.min.name Lib.Math.min.code 2 (some .int), Cond.methodLink RL 17 yX10_give, Cond.instanceMethod yX10_give, Cond.selects RX10 yX10_give yX10_give, Cond.code yX10_give cX10_give 6 (some .int), Cond.methodLink RX10 54 yX10_record, Cond.instanceMethod yX10_record, Cond.selects RX10 yX10_record yX10_record, Cond.code yX10_record cX10_record 1 none, Cond.fieldLink RX10 46 "PromiseWheelModel" "isQuiet" "Z", Cond.methodLink RX10 50 yX10_push, Cond.instanceMethod yX10_push, Cond.selects RX10 yX10_push yX10_push]
def wsL_law_r10 : List Cond := [Cond.code yX10_push cX10_push 3 none, Cond.fieldLink RX10 42 "PromiseWheelModel" "pastMany" "I", Cond.methodLink RX10 72 yX10_standByDistance, Cond.instanceMethod yX10_standByDistance, Cond.selects RX10 yX10_standByDistance yX10_standByDistance, Cond.code yX10_standByDistance cX10_standByDistance 4 none, Cond.methodLink RX10 57 yX10_stand, Cond.instanceMethod yX10_stand, Cond.selects RX10 yX10_stand yX10_stand, Cond.code yX10_stand cX10_stand 3 none, Cond.methodLink RL 18 yX9_breakOff, Cond.instanceMethod yX9_breakOff, Cond.selects RX9 yX9_breakOff yX9_breakOff, Cond.code yX9_breakOff cX9_breakOff 2 (some .int), Cond.methodLink RX9 55 yX8_breakPromise, Cond.instanceMethod yX8_breakPromise, Cond.selects RX8 yX8_breakPromise yX8_breakPromise, Cond.code yX8_breakPromise cX8_breakPromise 2 (some .int), Cond.methodLink RX8 89 yX5_has, Cond.instanceMethod yX5_has, Cond.selects RX5 yX5_has yX5_has, Cond.code yX5_has cX5_has 2 (some .boolean), Cond.methodLink RX8 93 yX5_isAlive, Cond.instanceMethod yX5_isAlive]
def wsL_law_r11 : List Cond := [Cond.selects RX5 yX5_isAlive yX5_isAlive, Cond.code yX5_isAlive cX5_isAlive 3 (some .boolean), Cond.methodLink RX5 25 yX5_fact, Cond.instanceMethod yX5_fact, Cond.selects RX5 yX5_fact yX5_fact, Cond.code yX5_fact cX5_fact 3 (some .int), Cond.methodLink RX8 96 yX5_write, Cond.methodLink RL 22 yX10_breakOff, Cond.instanceMethod yX10_breakOff, Cond.selects RX10 yX10_breakOff yX10_breakOff, Cond.code yX10_breakOff cX10_breakOff 2 (some .int), Cond.methodLink RX10 97 yX10_isPromise, Cond.instanceMethod yX10_isPromise, Cond.selects RX10 yX10_isPromise yX10_isPromise, Cond.code yX10_isPromise cX10_isPromise 2 (some .boolean), Cond.methodLink RX10 90 yX10_inState, Cond.instanceMethod yX10_inState, Cond.selects RX10 yX10_inState yX10_inState, Cond.code yX10_inState cX10_inState 4 (some .int), Cond.methodLink RL 23 yX9_move, Cond.instanceMethod yX9_move, Cond.selects RX9 yX9_move yX9_move, Cond.code yX9_move cX9_move 3 (some .int), Cond.methodLink RX9 58 yX8_movePromise]
def wsL_law_r12 : List Cond := [Cond.instanceMethod yX8_movePromise, Cond.selects RX8 yX8_movePromise yX8_movePromise, Cond.code yX8_movePromise cX8_movePromise 5 (some .int), Cond.methodLink RX8 100 yX5_isIn, Cond.instanceMethod yX5_isIn, Cond.selects RX5 yX5_isIn yX5_isIn, Cond.code yX5_isIn cX5_isIn 3 (some .boolean), Cond.methodLink RX8 104 yX5_fact, Cond.methodLink RX8 108 yX3_leave, Cond.instanceMethod yX3_leave, Cond.selects RX3 yX3_leave yX3_leave, Cond.code yX3_leave cX3_leave 6 none, Cond.methodLink RX3 49 yX3_lineOf, Cond.instanceMethod yX3_lineOf, Cond.selects RX3 yX3_lineOf yX3_lineOf, Cond.code yX3_lineOf cX3_lineOf 2 (some .int), Cond.methodLink RX3 46 yX3_follower, Cond.instanceMethod yX3_follower, Cond.selects RX3 yX3_follower yX3_follower, Cond.code yX3_follower cX3_follower 2 (some .int), Cond.methodLink RL 27 yX10_move, Cond.instanceMethod yX10_move, Cond.selects RX10 yX10_move yX10_move, Cond.code yX10_move cX10_move 4 (some .int)]
def wsL_law_r13 : List Cond := [Cond.methodLink RL 28 yX9_pass, Cond.instanceMethod yX9_pass, Cond.selects RX9 yX9_pass yX9_pass, Cond.code yX9_pass cX9_pass 2 (some .int), Cond.methodLink RX9 62 yX8_passTicks, Cond.instanceMethod yX8_passTicks, Cond.selects RX8 yX8_passTicks yX8_passTicks, Cond.code yX8_passTicks cX8_passTicks 4 (some .int), Cond.methodLink RX8 112 yX0_calls, Cond.instanceMethod yX0_calls, Cond.selects RX0 yX0_calls yX0_calls, Cond.code yX0_calls cX0_calls 1 (some .int), Cond.methodLink RX8 115 yX8_passTick, Cond.instanceMethod yX8_passTick, Cond.selects RX8 yX8_passTick yX8_passTick, Cond.code yX8_passTick cX8_passTick 1 none, Cond.methodLink RX8 139 Lib.Math.max.name, Cond.static Lib.Math.max.name, Cond.code Lib.Math.max.name Lib.Math.max.code 2 (some .int), Cond.methodLink RX8 124 yX8_letFall, Cond.instanceMethod yX8_letFall, Cond.selects RX8 yX8_letFall yX8_letFall, Cond.code yX8_letFall cX8_letFall 6 none, Cond.methodLink RX8 144 yX8_presentSlot]
def wsL_law_r14 : List Cond := [Cond.instanceMethod yX8_presentSlot, Cond.selects RX8 yX8_presentSlot yX8_presentSlot, Cond.code yX8_presentSlot cX8_presentSlot 2 (some .int), Cond.methodLink RX8 136 yX3_lengthOf, Cond.instanceMethod yX3_lengthOf, Cond.selects RX3 yX3_lengthOf yX3_lengthOf, Cond.code yX3_lengthOf cX3_lengthOf 2 (some .int), Cond.methodLink RX8 147 yX3_frontOf, Cond.instanceMethod yX3_frontOf, Cond.selects RX3 yX3_frontOf yX3_frontOf, Cond.code yX3_frontOf cX3_frontOf 2 (some .int), Cond.methodLink RX8 118 yX8_noteSwept, Cond.instanceMethod yX8_noteSwept, Cond.selects RX8 yX8_noteSwept yX8_noteSwept, Cond.code yX8_noteSwept cX8_noteSwept 2 none, Cond.methodLink RX8 127 yX8_letArrive, Cond.instanceMethod yX8_letArrive, Cond.selects RX8 yX8_letArrive yX8_letArrive, Cond.code yX8_letArrive cX8_letArrive 5 none, Cond.methodLink RX8 130 yX8_serveQueue, Cond.instanceMethod yX8_serveQueue, Cond.selects RX8 yX8_serveQueue yX8_serveQueue, Cond.code yX8_serveQueue cX8_serveQueue 5 none, Cond.methodLink RX8 150 yX8_callPromise]
def wsL_law_r15 : List Cond := [Cond.instanceMethod yX8_callPromise, Cond.selects RX8 yX8_callPromise yX8_callPromise, Cond.code yX8_callPromise cX8_callPromise 6 none, Cond.methodLink RX8 153 yX0_write, Cond.instanceMethod yX0_write, Cond.selects RX0 yX0_write yX0_write, Cond.code yX0_write cX0_write 5 none, Cond.methodLink RX0 25 yJ9_floorMod_7cf53, Cond.static yJ9_floorMod_7cf53, Cond.initialized RJ9, Cond.code yJ9_floorMod_7cf53 cJ9_floorMod_7cf53 3 (some .int), Cond.methodLink RX8 154 yX8_dueOfRepetition, Cond.instanceMethod yX8_dueOfRepetition, Cond.selects RX8 yX8_dueOfRepetition yX8_dueOfRepetition, Cond.code yX8_dueOfRepetition cX8_dueOfRepetition 4 (some .int), Cond.methodLink RX8 133 yX8_sweepAll, Cond.instanceMethod yX8_sweepAll, Cond.selects RX8 yX8_sweepAll yX8_sweepAll, Cond.code yX8_sweepAll cX8_sweepAll 3 (some .int), Cond.methodLink RL 31 yX10_pass, Cond.instanceMethod yX10_pass, Cond.selects RX10 yX10_pass yX10_pass, Cond.code yX10_pass cX10_pass 4 (some .int), Cond.methodLink RX10 101 yX10_tick]
def wsL_law_r16 : List Cond := [Cond.instanceMethod yX10_tick, Cond.selects RX10 yX10_tick yX10_tick, Cond.code yX10_tick cX10_tick 2 none, Cond.methodLink RX10 81 yX10_fall, Cond.instanceMethod yX10_fall, Cond.selects RX10 yX10_fall yX10_fall, Cond.code yX10_fall cX10_fall 5 none, Cond.methodLink RX10 65 yX10_manyAt, Cond.instanceMethod yX10_manyAt, Cond.selects RX10 yX10_manyAt yX10_manyAt, Cond.code yX10_manyAt cX10_manyAt 4 (some .int), Cond.methodLink RX10 69 yX10_front, Cond.instanceMethod yX10_front, Cond.selects RX10 yX10_front yX10_front, Cond.code yX10_front cX10_front 5 (some .int), Cond.methodLink RX10 61 yX10_sweepOne, Cond.instanceMethod yX10_sweepOne, Cond.selects RX10 yX10_sweepOne yX10_sweepOne, Cond.code yX10_sweepOne cX10_sweepOne 2 none, Cond.methodLink RX10 84 yX10_getReady, Cond.instanceMethod yX10_getReady, Cond.selects RX10 yX10_getReady yX10_getReady, Cond.code yX10_getReady cX10_getReady 5 none, Cond.methodLink RX10 87 yX10_callSome]
def wsL_law_r17 : List Cond := [Cond.instanceMethod yX10_callSome, Cond.selects RX10 yX10_callSome yX10_callSome, Cond.code yX10_callSome cX10_callSome 3 none, Cond.methodLink RX10 78 yX10_callOne, Cond.instanceMethod yX10_callOne, Cond.selects RX10 yX10_callOne yX10_callOne, Cond.code yX10_callOne cX10_callOne 3 none, Cond.methodLink RX10 75 yX10_noteCall, Cond.instanceMethod yX10_noteCall, Cond.selects RX10 yX10_noteCall yX10_noteCall, Cond.code yX10_noteCall cX10_noteCall 3 none, Cond.methodLink RX10 93 yX10_sweepAll, Cond.instanceMethod yX10_sweepAll, Cond.selects RX10 yX10_sweepAll yX10_sweepAll, Cond.code yX10_sweepAll cX10_sweepAll 3 (some .int), Cond.methodLink RL 32 yX9_sweep, Cond.instanceMethod yX9_sweep, Cond.selects RX9 yX9_sweep yX9_sweep, Cond.code yX9_sweep cX9_sweep 1 (some .int), Cond.methodLink RX9 65 yX8_sweepAll, Cond.methodLink RL 36 yX10_sweep, Cond.instanceMethod yX10_sweep, Cond.selects RX10 yX10_sweep yX10_sweep, Cond.code yX10_sweep cX10_sweep 1 (some .int)]
def wsL_law_r18 : List Cond := [Cond.methodLink RL 37 yX9_set, Cond.instanceMethod yX9_set, Cond.selects RX9 yX9_set yX9_set, Cond.code yX9_set cX9_set 3 (some .int), Cond.methodLink RX9 69 yX8_changeSetting, Cond.instanceMethod yX8_changeSetting, Cond.selects RX8 yX8_changeSetting yX8_changeSetting, Cond.code yX8_changeSetting cX8_changeSetting 4 (some .int), Cond.methodLink RX8 121 yX8_setting, Cond.instanceMethod yX8_setting, Cond.selects RX8 yX8_setting yX8_setting, Cond.code yX8_setting cX8_setting 2 (some .int), Cond.methodLink RL 40 yX10_set, Cond.instanceMethod yX10_set, Cond.selects RX10 yX10_set yX10_set, Cond.code yX10_set cX10_set 6 (some .int), Cond.methodLink RL 41 yX9_take, Cond.instanceMethod yX9_take, Cond.selects RX9 yX9_take yX9_take, Cond.code yX9_take cX9_take 2 (some .int), Cond.methodLink RX9 72 yX6_takeSnapshot, Cond.instanceMethod yX6_takeSnapshot, Cond.selects RX6 yX6_takeSnapshot yX6_takeSnapshot, Cond.code yX6_takeSnapshot cX6_takeSnapshot 3 (some .int)]
def wsL_law_r19 : List Cond := [Cond.methodLink RL 44 yX10_take, Cond.instanceMethod yX10_take, Cond.selects RX10 yX10_take yX10_take, Cond.code yX10_take cX10_take 3 (some .int), Cond.methodLink RL 45 yX9_restore, Cond.instanceMethod yX9_restore, Cond.selects RX9 yX9_restore yX9_restore, Cond.code yX9_restore cX9_restore 2 (some .int), Cond.methodLink RX9 75 yX6_restoreSnapshot, Cond.instanceMethod yX6_restoreSnapshot, Cond.selects RX6 yX6_restoreSnapshot yX6_restoreSnapshot, Cond.code yX6_restoreSnapshot cX6_restoreSnapshot 3 (some .int), Cond.methodLink RL 48 yX10_restore, Cond.instanceMethod yX10_restore, Cond.selects RX10 yX10_restore yX10_restore, Cond.code yX10_restore cX10_restore 3 (some .int), Cond.methodLink RL 49 yX9_undo, Cond.instanceMethod yX9_undo, Cond.selects RX9 yX9_undo yX9_undo, Cond.code yX9_undo cX9_undo 1 (some .int), Cond.methodLink RX9 78 yX2_stepBack, Cond.instanceMethod yX2_stepBack, Cond.selects RX2 yX2_stepBack yX2_stepBack, Cond.code yX2_stepBack cX2_stepBack 2 (some .int)]
def wsL_law_r20 : List Cond := [Cond.methodLink RX2 39 yX2_copyNotedInto, Cond.instanceMethod yX2_copyNotedInto, Cond.selects RX2 yX2_copyNotedInto yX2_copyNotedInto, Cond.code yX2_copyNotedInto cX2_copyNotedInto 3 none, Cond.methodLink RL 52 yX10_undo, Cond.instanceMethod yX10_undo, Cond.selects RX10 yX10_undo yX10_undo, Cond.code yX10_undo cX10_undo 2 (some .int), Cond.methodLink RL 53 yX9_append, Cond.instanceMethod yX9_append, Cond.selects RX9 yX9_append yX9_append, Cond.code yX9_append cX9_append 2 (some .int), Cond.methodLink RX9 86 yX7_add, Cond.instanceMethod yX7_add, Cond.selects RX7 yX7_add yX7_add, Cond.code yX7_add cX7_add 2 (some .int), Cond.fieldLink RX7 15 "PromiseWheel$Text" "length" "I", Cond.methodLink RL 56 yX10_append, Cond.instanceMethod yX10_append, Cond.selects RX10 yX10_append yX10_append, Cond.code yX10_append cX10_append 2 (some .int), Cond.fieldLink RX10 104 "PromiseWheelModel" "typed" "I", Cond.methodLink RL 57 yX9_clearText, Cond.instanceMethod yX9_clearText]
def wsL_law_r21 : List Cond := [Cond.selects RX9 yX9_clearText yX9_clearText, Cond.code yX9_clearText cX9_clearText 1 (some .int), Cond.methodLink RX9 91 yX7_makeEmpty, Cond.instanceMethod yX7_makeEmpty, Cond.selects RX7 yX7_makeEmpty yX7_makeEmpty, Cond.code yX7_makeEmpty cX7_makeEmpty 2 (some .int), Cond.methodLink RL 60 yX10_clearText, Cond.instanceMethod yX10_clearText, Cond.selects RX10 yX10_clearText yX10_clearText, Cond.code yX10_clearText cX10_clearText 2 (some .int), Cond.methodLink RL 61 yX9_run, Cond.instanceMethod yX9_run, Cond.selects RX9 yX9_run yX9_run, Cond.code yX9_run cX9_run 2 (some .int), Cond.methodLink RX9 94 yX4_begin, Cond.instanceMethod yX4_begin, Cond.selects RX4 yX4_begin yX4_begin, Cond.code yX4_begin cX4_begin 1 none, Cond.fieldLink RX4 28 "PromiseWheel$Program" "failed" "Z", Cond.fieldLink RX4 32 "PromiseWheel$Program" "command" "I", Cond.fieldLink RX4 36 "PromiseWheel$Program" "commandPlace" "I", Cond.fieldLink RX4 39 "PromiseWheel$Program" "commandsDone" "I", Cond.methodLink RX4 25 yX7_beginReading, Cond.instanceMethod yX7_beginReading]
def wsL_law_r22 : List Cond := [Cond.selects RX7 yX7_beginReading yX7_beginReading, Cond.code yX7_beginReading cX7_beginReading 1 none, Cond.fieldLink RX7 19 "PromiseWheel$Text" "start" "I", Cond.fieldLink RX7 22 "PromiseWheel$Text" "end" "I", Cond.fieldLink RX7 25 "PromiseWheel$Text" "kind" "I", Cond.methodLink RX9 97 yX4_readCommand, Cond.instanceMethod yX4_readCommand, Cond.selects RX4 yX4_readCommand yX4_readCommand, Cond.code yX4_readCommand cX4_readCommand 3 (some .boolean), Cond.methodLink RX4 45 yX7_readToken, Cond.instanceMethod yX7_readToken, Cond.selects RX7 yX7_readToken yX7_readToken, Cond.code yX7_readToken cX7_readToken 2 none, Cond.methodLink RX7 28 yX7_at, Cond.instanceMethod yX7_at, Cond.selects RX7 yX7_at yX7_at, Cond.code yX7_at cX7_at 2 (some .int), Cond.methodLink RX7 32 yX7_kindOf, Cond.static yX7_kindOf, Cond.code yX7_kindOf cX7_kindOf 1 (some .int), Cond.methodLink RX4 48 yX7_isAtEnd, Cond.instanceMethod yX7_isAtEnd, Cond.selects RX7 yX7_isAtEnd yX7_isAtEnd, Cond.code yX7_isAtEnd cX7_isAtEnd 1 (some .boolean)]
def wsL_law_r23 : List Cond := [Cond.methodLink RX4 52 yX4_commandOfWord, Cond.instanceMethod yX4_commandOfWord, Cond.selects RX4 yX4_commandOfWord yX4_commandOfWord, Cond.code yX4_commandOfWord cX4_commandOfWord 1 (some .int), Cond.methodLink RX4 81 yX7_isWord, Cond.instanceMethod yX7_isWord, Cond.selects RX7 yX7_isWord yX7_isWord, Cond.code yX7_isWord cX7_isWord 3 (some .boolean), Cond.methodLink RX7 35 yJ0_length_8abf5, Cond.instanceMethod yJ0_length_8abf5, Cond.selects RJ0 yJ0_length_8abf5 yJ0_length_8abf5, Cond.initialized RJ0, Cond.code yJ0_length_8abf5 cJ0_length_8abf5 1 (some .int), Cond.fieldLink RJ0 9 "java/lang/String" "value" "[B", Cond.methodLink RJ0 335 yJ0_coder_7d493, Cond.instanceMethod yJ0_coder_7d493, Cond.selects RJ0 yJ0_coder_7d493 yJ0_coder_7d493, Cond.code yJ0_coder_7d493 cJ0_coder_7d493 1 (some .byte), Cond.fieldLink RJ0 38 "java/lang/String" "COMPACT_STRINGS" "Z", Cond.fieldLink RJ0 15 "java/lang/String" "coder" "B", Cond.methodLink RX7 40 yJ0_charAt_5068e, Cond.instanceMethod yJ0_charAt_5068e, Cond.selects RJ0 yJ0_charAt_5068e yJ0_charAt_5068e, Cond.code yJ0_charAt_5068e cJ0_charAt_5068e 2 (some .char)]
def wsL_law_r24 : List Cond := [Cond.methodLink RJ0 492 yJ0_isLatin1_aae02, Cond.instanceMethod yJ0_isLatin1_aae02, Cond.selects RJ0 yJ0_isLatin1_aae02 yJ0_isLatin1_aae02, Cond.code yJ0_isLatin1_aae02 cJ0_isLatin1_aae02 1 (some .boolean), Cond.methodLink RJ0 495 yJ1_charAt_3b067, Cond.static yJ1_charAt_3b067, Cond.initialized RJ1, Cond.code yJ1_charAt_3b067 cJ1_charAt_3b067 2 (some .char), Cond.methodLink RJ1 9 yJ0_checkIndex_df160, Cond.static yJ0_checkIndex_df160, Cond.code yJ0_checkIndex_df160 cJ0_checkIndex_df160 2 none, Cond.fieldLink RJ0 1053 "jdk/internal/util/Preconditions" "SIOOBE_FORMATTER" "Ljava/util/function/BiFunction;", Cond.methodLink RJ0 1059 yJ3_checkIndex_8e157, Cond.static yJ3_checkIndex_8e157, Cond.initialized RJ3, Cond.code yJ3_checkIndex_8e157 cJ3_checkIndex_8e157 3 (some .int), Cond.methodLink RJ0 498 yJ2_charAt_3b067, Cond.static yJ2_charAt_3b067, Cond.initialized RJ2, Cond.code yJ2_charAt_3b067 cJ2_charAt_3b067 2 (some .char), Cond.methodLink RJ2 67 yJ2_checkIndex_2214a, Cond.static yJ2_checkIndex_2214a, Cond.code yJ2_checkIndex_2214a cJ2_checkIndex_2214a 2 none, Cond.methodLink RJ2 48 yJ2_length_9d52b]
def wsL_law_r25 : List Cond := [Cond.static yJ2_length_9d52b, Cond.code yJ2_length_9d52b cJ2_length_9d52b 1 (some .int), Cond.methodLink RJ2 414 yJ0_checkIndex_df160, Cond.methodLink RJ2 71 yJ2_getChar_3b067, Cond.static yJ2_getChar_3b067, Cond.code yJ2_getChar_3b067 cJ2_getChar_3b067 2 (some .char), Cond.fieldLink RJ2 44 "java/lang/StringUTF16" "$assertionsDisabled" "Z", Cond.fieldLink RJ2 59 "java/lang/StringUTF16" "HI_BYTE_SHIFT" "I", Cond.fieldLink RJ2 63 "java/lang/StringUTF16" "LO_BYTE_SHIFT" "I", Cond.methodLink RX4 56 yX7_tokenStart, Cond.instanceMethod yX7_tokenStart, Cond.selects RX7 yX7_tokenStart yX7_tokenStart, Cond.code yX7_tokenStart cX7_tokenStart 1 (some .int), Cond.methodLink RX4 59 yX4_failAtToken, Cond.instanceMethod yX4_failAtToken, Cond.selects RX4 yX4_failAtToken yX4_failAtToken, Cond.code yX4_failAtToken cX4_failAtToken 1 (some .boolean), Cond.methodLink RX4 75 yX4_fail, Cond.instanceMethod yX4_fail, Cond.selects RX4 yX4_fail yX4_fail, Cond.code yX4_fail cX4_fail 4 none, Cond.fieldLink RX4 42 "PromiseWheel$Program" "everFailed" "Z", Cond.methodLink RX4 62 yX4_numbersOf, Cond.static yX4_numbersOf]
def wsL_law_r26 : List Cond := [Cond.code yX4_numbersOf cX4_numbersOf 1 (some .int), Cond.methodLink RX4 66 yX7_isNumber, Cond.instanceMethod yX7_isNumber, Cond.selects RX7 yX7_isNumber yX7_isNumber, Cond.code yX7_isNumber cX7_isNumber 2 (some .boolean), Cond.methodLink RX4 69 yX7_numberValue, Cond.instanceMethod yX7_numberValue, Cond.selects RX7 yX7_numberValue yX7_numberValue, Cond.code yX7_numberValue cX7_numberValue 3 (some .int), Cond.methodLink RX4 72 yX7_isSemicolon, Cond.instanceMethod yX7_isSemicolon, Cond.selects RX7 yX7_isSemicolon yX7_isSemicolon, Cond.code yX7_isSemicolon cX7_isSemicolon 1 (some .boolean), Cond.methodLink RX9 101 yX9_performCommand, Cond.instanceMethod yX9_performCommand, Cond.selects RX9 yX9_performCommand yX9_performCommand, Cond.code yX9_performCommand cX9_performCommand 2 (some .int), Cond.methodLink RX9 192 yX4_command, Cond.instanceMethod yX4_command, Cond.selects RX4 yX4_command yX4_command, Cond.code yX4_command cX4_command 1 (some .int), Cond.methodLink RX9 195 yX4_number, Cond.instanceMethod yX4_number, Cond.selects RX4 yX4_number yX4_number]
def wsL_law_r27 : List Cond := [Cond.code yX4_number cX4_number 2 (some .int), Cond.methodLink RX9 104 yX4_finishCommand, Cond.instanceMethod yX4_finishCommand, Cond.selects RX4 yX4_finishCommand yX4_finishCommand, Cond.code yX4_finishCommand cX4_finishCommand 2 none, Cond.methodLink RX9 108 yX4_hasFailed, Cond.instanceMethod yX4_hasFailed, Cond.selects RX4 yX4_hasFailed yX4_hasFailed, Cond.code yX4_hasFailed cX4_hasFailed 1 (some .boolean), Cond.methodLink RX9 111 yX2_copyNotedInto, Cond.methodLink RX9 114 yX4_part, Cond.instanceMethod yX4_part, Cond.selects RX4 yX4_part yX4_part, Cond.code yX4_part cX4_part 2 (some .int), Cond.methodLink RX9 117 yX4_commandsDone, Cond.instanceMethod yX4_commandsDone, Cond.selects RX4 yX4_commandsDone yX4_commandsDone, Cond.code yX4_commandsDone cX4_commandsDone 1 (some .int), Cond.methodLink RL 64 yX10_run, Cond.instanceMethod yX10_run, Cond.selects RX10 yX10_run yX10_run, Cond.code yX10_run cX10_run 5 (some .int), Cond.fieldLink RX10 107 "PromiseWheelModel" "end" "I", Cond.fieldLink RX10 110 "PromiseWheelModel" "from" "I"]
def wsL_law_r28 : List Cond := [Cond.methodLink RX10 123 yX10_readToken, Cond.instanceMethod yX10_readToken, Cond.selects RX10 yX10_readToken yX10_readToken, Cond.code yX10_readToken cX10_readToken 1 none, Cond.methodLink RX10 113 yX10_isSmall, Cond.instanceMethod yX10_isSmall, Cond.selects RX10 yX10_isSmall yX10_isSmall, Cond.code yX10_isSmall cX10_isSmall 2 (some .boolean), Cond.methodLink RX10 116 yX10_isDigit, Cond.instanceMethod yX10_isDigit, Cond.selects RX10 yX10_isDigit yX10_isDigit, Cond.code yX10_isDigit cX10_isDigit 2 (some .boolean), Cond.methodLink RX10 153 yX10_command, Cond.instanceMethod yX10_command, Cond.selects RX10 yX10_command yX10_command, Cond.code yX10_command cX10_command 5 (some .int), Cond.methodLink RX10 119 yX10_spells, Cond.instanceMethod yX10_spells, Cond.selects RX10 yX10_spells yX10_spells, Cond.code yX10_spells cX10_spells 4 (some .boolean), Cond.methodLink RX10 156 yX10_numbersOf, Cond.static yX10_numbersOf, Cond.code yX10_numbersOf cX10_numbersOf 1 (some .int), Cond.methodLink RX10 159 yX10_readNumbers]
def wsL_law_r29 : List Cond := [Cond.instanceMethod yX10_readNumbers, Cond.selects RX10 yX10_readNumbers yX10_readNumbers, Cond.code yX10_readNumbers cX10_readNumbers 3 (some .boolean), Cond.methodLink RX10 126 yX10_isNumber, Cond.instanceMethod yX10_isNumber, Cond.selects RX10 yX10_isNumber yX10_isNumber, Cond.code yX10_isNumber cX10_isNumber 2 (some .boolean), Cond.methodLink RX10 130 yX10_number, Cond.instanceMethod yX10_number, Cond.selects RX10 yX10_number yX10_number, Cond.code yX10_number cX10_number 3 (some .int), Cond.methodLink RX10 162 yX10_fail, Cond.instanceMethod yX10_fail, Cond.selects RX10 yX10_fail yX10_fail, Cond.code yX10_fail cX10_fail 6 (some .int), Cond.fieldLink RX10 150 "PromiseWheelModel" "hasFailed" "Z", Cond.methodLink RX10 166 yX10_does, Cond.instanceMethod yX10_does, Cond.selects RX10 yX10_does yX10_does, Cond.code yX10_does cX10_does 2 (some .int), Cond.methodLink RX10 133 yX10_give, Cond.methodLink RX10 137 yX10_breakOff, Cond.methodLink RX10 140 yX10_move, Cond.methodLink RX10 144 yX10_pass]
def wsL_law_r30 : List Cond := [Cond.methodLink RX10 147 yX10_sweep, Cond.methodLink RL 65 yX9_failure, Cond.instanceMethod yX9_failure, Cond.selects RX9 yX9_failure yX9_failure, Cond.code yX9_failure cX9_failure 2 (some .int), Cond.methodLink RL 68 yX10_failure, Cond.instanceMethod yX10_failure, Cond.selects RX10 yX10_failure yX10_failure, Cond.code yX10_failure cX10_failure 2 (some .int), Cond.methodLink RL 69 yX9_count, Cond.instanceMethod yX9_count, Cond.selects RX9 yX9_count yX9_count, Cond.code yX9_count cX9_count 2 (some .int), Cond.methodLink RX9 120 yX6_snapshotsTaken, Cond.instanceMethod yX6_snapshotsTaken, Cond.selects RX6 yX6_snapshotsTaken yX6_snapshotsTaken, Cond.code yX6_snapshotsTaken cX6_snapshotsTaken 3 (some .int), Cond.methodLink RX9 123 yX2_size, Cond.instanceMethod yX2_size, Cond.selects RX2 yX2_size yX2_size, Cond.code yX2_size cX2_size 1 (some .int), Cond.methodLink RX9 126 yX7_length, Cond.instanceMethod yX7_length, Cond.selects RX7 yX7_length yX7_length]
def wsL_law_r31 : List Cond := [Cond.code yX7_length cX7_length 1 (some .int), Cond.methodLink RX9 129 yX8_figure, Cond.instanceMethod yX8_figure, Cond.selects RX8 yX8_figure yX8_figure, Cond.code yX8_figure cX8_figure 2 (some .int), Cond.methodLink RX8 157 yX5_howManyIn, Cond.instanceMethod yX5_howManyIn, Cond.selects RX5 yX5_howManyIn yX5_howManyIn, Cond.code yX5_howManyIn cX5_howManyIn 4 (some .int), Cond.methodLink RX5 33 yX5_isIn, Cond.methodLink RL 72 yX10_count, Cond.instanceMethod yX10_count, Cond.selects RX10 yX10_count yX10_count, Cond.code yX10_count cX10_count 2 (some .int), Cond.methodLink RX10 169 yX10_snapshots, Cond.instanceMethod yX10_snapshots, Cond.selects RX10 yX10_snapshots yX10_snapshots, Cond.code yX10_snapshots cX10_snapshots 2 (some .int), Cond.methodLink RL 73 yX9_promise, Cond.instanceMethod yX9_promise, Cond.selects RX9 yX9_promise yX9_promise, Cond.code yX9_promise cX9_promise 3 (some .int), Cond.methodLink RX9 136 yX5_has, Cond.methodLink RX9 142 yX8_tellPromise]
def wsL_law_r32 : List Cond := [Cond.instanceMethod yX8_tellPromise, Cond.selects RX8 yX8_tellPromise yX8_tellPromise, Cond.code yX8_tellPromise cX8_tellPromise 5 (some .int), Cond.methodLink RX8 160 yX3_lineOf, Cond.methodLink RX8 163 yX3_placeOf, Cond.instanceMethod yX3_placeOf, Cond.selects RX3 yX3_placeOf yX3_placeOf, Cond.code yX3_placeOf cX3_placeOf 6 (some .int), Cond.methodLink RX3 39 yX3_lengthOf, Cond.methodLink RX3 43 yX3_frontOf, Cond.methodLink RL 76 yX10_promise, Cond.instanceMethod yX10_promise, Cond.selects RX10 yX10_promise yX10_promise, Cond.code yX10_promise cX10_promise 5 (some .int), Cond.methodLink RX10 172 yX10_placeOf, Cond.instanceMethod yX10_placeOf, Cond.selects RX10 yX10_placeOf yX10_placeOf, Cond.code yX10_placeOf cX10_placeOf 4 (some .int), Cond.methodLink RL 77 yX9_slot, Cond.instanceMethod yX9_slot, Cond.selects RX9 yX9_slot yX9_slot, Cond.code yX9_slot cX9_slot 4 (some .int), Cond.methodLink RX9 145 yX8_tellLine, Cond.instanceMethod yX8_tellLine]
def wsL_law_r33 : List Cond := [Cond.selects RX8 yX8_tellLine yX8_tellLine, Cond.code yX8_tellLine cX8_tellLine 4 (some .int), Cond.methodLink RX8 166 yX8_brokenIn, Cond.instanceMethod yX8_brokenIn, Cond.selects RX8 yX8_brokenIn yX8_brokenIn, Cond.code yX8_brokenIn cX8_brokenIn 6 (some .int), Cond.methodLink RX8 172 yX3_follower, Cond.methodLink RX8 169 yX8_earliestIn, Cond.instanceMethod yX8_earliestIn, Cond.selects RX8 yX8_earliestIn yX8_earliestIn, Cond.code yX8_earliestIn cX8_earliestIn 6 (some .int), Cond.methodLink RX8 175 yX5_earlier, Cond.instanceMethod yX5_earlier, Cond.selects RX5 yX5_earlier yX5_earlier, Cond.code yX5_earlier cX5_earlier 5 (some .int), Cond.methodLink RX5 37 Lib.Math.min.name, Cond.methodLink RL 80 yX10_slot, Cond.instanceMethod yX10_slot, Cond.selects RX10 yX10_slot yX10_slot, Cond.code yX10_slot cX10_slot 11 (some .int), Cond.methodLink RL 81 yX9_stands, Cond.instanceMethod yX9_stands, Cond.selects RX9 yX9_stands yX9_stands, Cond.code yX9_stands cX9_stands 7 (some .int)]
def wsL_law_r34 : List Cond := [Cond.methodLink RX9 152 yX3_at, Cond.instanceMethod yX3_at, Cond.selects RX3 yX3_at yX3_at, Cond.code yX3_at cX3_at 5 (some .int), Cond.methodLink RL 84 yX10_stands, Cond.instanceMethod yX10_stands, Cond.selects RX10 yX10_stands yX10_stands, Cond.code yX10_stands cX10_stands 7 (some .int), Cond.methodLink RL 85 yX9_call, Cond.instanceMethod yX9_call, Cond.selects RX9 yX9_call yX9_call, Cond.code yX9_call cX9_call 3 (some .int), Cond.methodLink RX9 163 yX0_read, Cond.instanceMethod yX0_read, Cond.selects RX0 yX0_read yX0_read, Cond.code yX0_read cX0_read 3 (some .int), Cond.methodLink RX0 31 Lib.Math.min.name, Cond.methodLink RL 88 yX10_call, Cond.instanceMethod yX10_call, Cond.selects RX10 yX10_call yX10_call, Cond.code yX10_call cX10_call 3 (some .int), Cond.methodLink RL 89 yX9_next, Cond.instanceMethod yX9_next, Cond.selects RX9 yX9_next yX9_next]
def wsL_law_r35 : List Cond := [Cond.code yX9_next cX9_next 5 (some .int), Cond.methodLink RX9 166 yX8_earliestOfAll, Cond.instanceMethod yX8_earliestOfAll, Cond.selects RX8 yX8_earliestOfAll yX8_earliestOfAll, Cond.code yX8_earliestOfAll cX8_earliestOfAll 3 (some .int), Cond.methodLink RX9 169 yX8_earliestByRings, Cond.instanceMethod yX8_earliestByRings, Cond.selects RX8 yX8_earliestByRings yX8_earliestByRings, Cond.code yX8_earliestByRings cX8_earliestByRings 3 (some .int), Cond.methodLink RX8 178 yX8_earliestInRing, Cond.instanceMethod yX8_earliestInRing, Cond.selects RX8 yX8_earliestInRing yX8_earliestInRing, Cond.code yX8_earliestInRing cX8_earliestInRing 5 (some .int), Cond.methodLink RX9 172 yX5_fact, Cond.methodLink RL 92 yX10_next, Cond.instanceMethod yX10_next, Cond.selects RX10 yX10_next yX10_next, Cond.code yX10_next cX10_next 4 (some .int), Cond.methodLink RX10 178 yX10_bestAt, Cond.instanceMethod yX10_bestAt, Cond.selects RX10 yX10_bestAt yX10_bestAt, Cond.code yX10_bestAt cX10_bestAt 4 (some .int), Cond.methodLink RX10 175 yX10_better, Cond.instanceMethod yX10_better]
def wsL_law_r36 : List Cond := [Cond.selects RX10 yX10_better yX10_better, Cond.code yX10_better cX10_better 4 (some .int), Cond.methodLink RX10 181 yX10_bestOfRing, Cond.instanceMethod yX10_bestOfRing, Cond.selects RX10 yX10_bestOfRing yX10_bestOfRing, Cond.code yX10_bestOfRing cX10_bestOfRing 5 (some .int), Cond.methodLink RL 93 yX9_when, Cond.instanceMethod yX9_when, Cond.selects RX9 yX9_when yX9_when, Cond.code yX9_when cX9_when 3 (some .int), Cond.methodLink RX9 175 yX5_isAlive, Cond.methodLink RX9 178 yX1_tickOfCall, Cond.instanceMethod yX1_tickOfCall, Cond.selects RX1 yX1_tickOfCall yX1_tickOfCall, Cond.code yX1_tickOfCall cX1_tickOfCall 5 (some .int), Cond.methodLink RX1 18 yX8_copyFrom, Cond.methodLink RX1 28 yX5_fact, Cond.methodLink RX1 32 yX8_passTick, Cond.methodLink RL 96 yX10_when, Cond.instanceMethod yX10_when, Cond.selects RX10 yX10_when yX10_when, Cond.code yX10_when cX10_when 4 (some .int), Cond.methodLink RX10 184 yX10_keepAside, Cond.instanceMethod yX10_keepAside]
def wsL_law_r37 : List Cond := [Cond.selects RX10 yX10_keepAside yX10_keepAside, Cond.code yX10_keepAside cX10_keepAside 2 none, Cond.methodLink RX10 187 yX10_bringBack, Cond.instanceMethod yX10_bringBack, Cond.selects RX10 yX10_bringBack yX10_bringBack, Cond.code yX10_bringBack cX10_bringBack 2 none, Cond.methodLink RL 97 yX9_would, Cond.instanceMethod yX9_would, Cond.selects RX9 yX9_would yX9_would, Cond.code yX9_would cX9_would 3 (some .int), Cond.methodLink RX9 182 yX1_outcome, Cond.instanceMethod yX1_outcome, Cond.selects RX1 yX1_outcome yX1_outcome, Cond.code yX1_outcome cX1_outcome 6 (some .int), Cond.methodLink RX1 43 Lib.Math.max.name, Cond.methodLink RX1 39 yX5_howManyIn, Cond.methodLink RX1 52 yX0_calls, Cond.methodLink RL 100 yX10_would, Cond.instanceMethod yX10_would, Cond.selects RX10 yX10_would yX10_would, Cond.code yX10_would cX10_would 6 (some .int), Cond.methodLink RL 101 yX9_leastRoom, Cond.instanceMethod yX9_leastRoom, Cond.selects RX9 yX9_leastRoom yX9_leastRoom]
def wsL_law_r38 : List Cond := [Cond.code yX9_leastRoom cX9_leastRoom 2 (some .int), Cond.methodLink RX9 186 yX1_leastTimelyRoom, Cond.instanceMethod yX1_leastTimelyRoom, Cond.selects RX1 yX1_leastTimelyRoom yX1_leastTimelyRoom, Cond.code yX1_leastTimelyRoom cX1_leastTimelyRoom 4 (some .int), Cond.methodLink RX1 64 yX1_isTimely, Cond.instanceMethod yX1_isTimely, Cond.selects RX1 yX1_isTimely yX1_isTimely, Cond.code yX1_isTimely cX1_isTimely 4 (some .boolean), Cond.methodLink RL 104 yX10_leastRoom, Cond.instanceMethod yX10_leastRoom, Cond.selects RX10 yX10_leastRoom yX10_leastRoom, Cond.code yX10_leastRoom cX10_leastRoom 4 (some .int), Cond.methodLink RX10 190 yX10_isNeverLate, Cond.instanceMethod yX10_isNeverLate, Cond.selects RX10 yX10_isNeverLate yX10_isNeverLate, Cond.code yX10_isNeverLate cX10_isNeverLate 4 (some .boolean)]
def wsL_law : List Cond := (wsL_law_r1 ++ (wsL_law_r2 ++ (wsL_law_r3 ++ (wsL_law_r4 ++ (wsL_law_r5 ++ (wsL_law_r6 ++ (wsL_law_r7 ++ (wsL_law_r8 ++ (wsL_law_r9 ++ (wsL_law_r10 ++ (wsL_law_r11 ++ (wsL_law_r12 ++ (wsL_law_r13 ++ (wsL_law_r14 ++ (wsL_law_r15 ++ (wsL_law_r16 ++ (wsL_law_r17 ++ (wsL_law_r18 ++ (wsL_law_r19 ++ (wsL_law_r20 ++ (wsL_law_r21 ++ (wsL_law_r22 ++ (wsL_law_r23 ++ (wsL_law_r24 ++ (wsL_law_r25 ++ (wsL_law_r26 ++ (wsL_law_r27 ++ (wsL_law_r28 ++ (wsL_law_r29 ++ (wsL_law_r30 ++ (wsL_law_r31 ++ (wsL_law_r32 ++ (wsL_law_r33 ++ (wsL_law_r34 ++ (wsL_law_r35 ++ (wsL_law_r36 ++ (wsL_law_r37 ++ wsL_law_r38))))))))))))))))))))))))))))))))))))) ++ wsX90 ++ wsX100 ++ wsX60 ++ wsX20 ++ wsX40 ++ wsX10 ++ wsX80 ++ wsX50 ++ wsX30 ++ wsX00 ++ wsX70 ++ ([] : List Cond)
theorem inJx145de : ∀ w ∈ wsJx145de0, w ∈ lw_tbl := by decide +kernel
theorem inJx9f9b0 : ∀ w ∈ wsJx9f9b00, w ∈ lw_tbl := by decide +kernel
theorem inJxb160c : ∀ w ∈ wsJxb160c0, w ∈ lw_tbl := by decide +kernel
theorem inJ9 : ∀ w ∈ wsJ90, w ∈ lw_tbl := by decide +kernel
theorem inJ0 : ∀ w ∈ wsJ00, w ∈ lw_tbl := by decide +kernel
theorem inJ1 : ∀ w ∈ wsJ10, w ∈ lw_tbl := by decide +kernel
theorem inJ2 : ∀ w ∈ wsJ20, w ∈ lw_tbl := by decide +kernel
theorem inJ10 : ∀ w ∈ wsJ100, w ∈ lw_tbl := by decide +kernel
theorem inJxfd54e : ∀ w ∈ wsJxfd54e0, w ∈ lw_tbl := by decide +kernel
theorem inJx3cf43 : ∀ w ∈ wsJx3cf430, w ∈ lw_tbl := by decide +kernel
theorem inJ7 : ∀ w ∈ wsJ70, w ∈ lw_tbl := by decide +kernel
theorem inJ3 : ∀ w ∈ wsJ30, w ∈ lw_tbl := by decide +kernel
abbrev vwCl : List vw_C := [(RX0, TX0, 2), (RX1, TX1, 1), (RX2, TX2, 3), (RX3, TX3, 5), (RX4, TX4, 8), (RX5, TX5, 2), (RX6, TX6, 3), (RX7, TX7, 5), (RX8, TX8, 13), (RX9, TX9, 4), (RX10, TX10, 16)]
end
section
/-! MY KIT: worlds in groups, an environment, a judgement whose functional side is an Option, its rows -/
def zk_j (gs : List va_W) : va_W := gs.foldr (fun g r => g ++ r) []
theorem zk_j_cons (g : va_W) (gs : List va_W) : zk_j (g :: gs) = g ++ zk_j gs := rfl
theorem zk_j_app (a b : List va_W) : zk_j (a ++ b) = zk_j a ++ zk_j b := by
  induction a with
  | nil => rfl
  | cons g a ih => rw [List.cons_append, zk_j_cons, ih, zk_j_cons, List.append_assoc]
theorem zk_j_one (g : va_W) : zk_j [g] = g := List.append_nil g
theorem zk_at : ∀ (gs : List va_W) (i : Nat) (g : va_W), gs[i]? = some g → (zk_j gs).Perm (g ++ zk_j (gs.set i []))
  | [], i, g, h => by simp at h
  | g0 :: gs, 0, g, h => by
    rw [List.getElem?_cons_zero] at h
    cases h
    exact List.Perm.refl _
  | g0 :: gs, i + 1, g, h => by
    rw [List.getElem?_cons_succ] at h
    have ih := zk_at gs i g h
    show (g0 ++ zk_j gs).Perm (g ++ (g0 ++ zk_j (gs.set i [])))
    refine (List.Perm.append_left g0 ih).trans ?_
    rw [← List.append_assoc, ← List.append_assoc]
    exact List.Perm.append_right _ List.perm_append_comm
theorem zk_put (gs : List va_W) (i : Nat) (g' : va_W) (h : i < gs.length) : (zk_j (gs.set i g')).Perm (g' ++ zk_j (gs.set i [])) := by
  have h1 := zk_at (gs.set i g') i g' (List.getElem?_set_self h)
  rwa [List.set_set] at h1
theorem zk_lt {gs : List va_W} {i : Nat} {g : va_W} (h : gs[i]? = some g) : i < gs.length := (List.getElem?_eq_some_iff.mp h).1
/-- two groups out of a world -/
theorem zk_at2 (gs : List va_W) (i j : Nat) (g h : va_W) (hi : gs[i]? = some g) (hj : gs[j]? = some h) (n : i ≠ j) : (zk_j gs).Perm ((g ++ h) ++ zk_j ((gs.set i []).set j [])) := by
  have h2 := zk_at (gs.set i []) j h (by rw [List.getElem?_set_ne n]; exact hj)
  rw [List.append_assoc]
  exact (zk_at gs i g hi).trans (List.Perm.append_left g h2)
theorem zk_put2 (gs : List va_W) (i j : Nat) (g' h' : va_W) (hi : i < gs.length) (hj : j < gs.length) (n : i ≠ j) : (zk_j ((gs.set i g').set j h')).Perm ((g' ++ h') ++ zk_j ((gs.set i []).set j [])) := by
  have h1 := zk_at2 ((gs.set i g').set j h') i j g' h' (by rw [List.getElem?_set_ne (Ne.symm n)]; exact List.getElem?_set_self hi) (List.getElem?_set_self (by rw [List.length_set]; exact hj)) n
  have e : ((((gs.set i g').set j h').set i []).set j []) = (gs.set i []).set j [] := by
    rw [List.set_comm _ _ (Ne.symm n), List.set_set, List.set_set]
  rwa [e] at h1
theorem zk_P_mem {D : va_G} {cl : List vw_C} {ws : va_W} {H : Heap} : va_P D cl ws H ↔ ∀ q ∈ ws, va_at D cl q H :=
  ⟨fun h q hq => by obtain ⟨k, hk⟩ := List.getElem?_of_mem hq; exact h k q hk, fun h k q hk => h q (List.mem_of_getElem? hk)⟩
theorem zk_P_perm {D : va_G} {cl : List vw_C} {ws ws' : va_W} {H : Heap} (h : ws.Perm ws') (hP : va_P D cl ws H) : va_P D cl ws' H := zk_P_mem.mpr (fun q hq => zk_P_mem.mp hP q (h.mem_iff.mpr hq))
theorem zk_D_iff {A : Nat → Prop} {ws : va_W} : va_D A ws ↔ (ws.map (fun q => q.1)).Nodup ∧ ∀ q ∈ ws, A q.1 := by
  constructor
  · intro h
    refine ⟨?_, fun q hq => ?_⟩
    · refine List.pairwise_iff_getElem.mpr (fun i j hi hj hij e => ?_)
      rw [List.length_map] at hi hj
      rw [List.getElem_map, List.getElem_map] at e
      have := h.1 i j ws[i] ws[j] (List.getElem?_eq_getElem hi) (List.getElem?_eq_getElem hj) e
      omega
    · obtain ⟨k, hk⟩ := List.getElem?_of_mem hq
      exact h.2 k q hk
  · rintro ⟨h1, h2⟩
    refine ⟨fun i j p q hi hj e => ?_, fun k q hk => h2 q (List.mem_of_getElem? hk)⟩
    obtain ⟨hi1, hi2⟩ := List.getElem?_eq_some_iff.mp hi
    obtain ⟨hj1, hj2⟩ := List.getElem?_eq_some_iff.mp hj
    have key := List.pairwise_iff_getElem.mp h1
    rcases Nat.lt_trichotomy i j with g | g | g
    · exact absurd (by rw [List.getElem_map, List.getElem_map, hi2, hj2]; exact e) (key i j (by rw [List.length_map]; exact hi1) (by rw [List.length_map]; exact hj1) g)
    · exact g
    · exact absurd (by rw [List.getElem_map, List.getElem_map, hi2, hj2]; exact e.symm) (key j i (by rw [List.length_map]; exact hj1) (by rw [List.length_map]; exact hi1) g)
theorem zk_D_perm {A : Nat → Prop} {ws ws' : va_W} (h : ws.Perm ws') (hD : va_D A ws) : va_D A ws' := by
  obtain ⟨h1, h2⟩ := zk_D_iff.mp hD
  exact zk_D_iff.mpr ⟨(h.map _).nodup_iff.mp h1, fun q hq => h2 q (h.mem_iff.mpr hq)⟩
theorem zk_pre {A0 : Nat → Prop} {D : va_G} {cl : List vw_C} {ws wc wr : va_W} {H0 H : Heap} {locs : List Loc} (hP : va_P D cl ws H) (hD : va_D A0 ws) (hS : va_S A0 H0 H locs) (hA : ∀ q, H0.size ≤ q → A0 q) (hp : ws.Perm (wc ++ wr)) : va_P D cl wc H ∧ va_D (fun _ => True) wc ∧ ∀ q, va_A wc H.size q → A0 q := by
  have hP2 := zk_P_mem.mp (zk_P_perm hp hP)
  have hD2 := zk_D_iff.mp (zk_D_perm hp hD)
  refine ⟨zk_P_mem.mpr fun q hq => hP2 q (List.mem_append_left _ hq), zk_D_iff.mpr ⟨?_, fun _ _ => trivial⟩, fun q h => ?_⟩
  · have h1 := hD2.1
    rw [List.map_append] at h1
    exact (List.nodup_append.mp h1).1
  · rcases h with ⟨k, e, h⟩ | h
    · exact hD2.2 (q, e) (List.mem_append_left _ (List.mem_of_getElem? h))
    · exact hA q (Nat.le_trans hS.1 h)
theorem zk_post {A0 : Nat → Prop} {D : va_G} {cl : List vw_C} {ws wc wr wc' : va_W} {H H1 : Heap} (hP : va_P D cl ws H) (hD : va_D A0 ws) (hp : ws.Perm (wc ++ wr)) (hk : ∀ q : Nat, q < H.size → ¬ va_A wc H.size q → H1[q]? = H[q]?) (hF : ∀ q, va_A wc H.size q → A0 q) (hP1 : va_P D cl wc' H1) (hD1 : va_D (va_A wc H.size) wc') : va_P D cl (wc' ++ wr) H1 ∧ va_D A0 (wc' ++ wr) := by
  have hP2 := zk_P_mem.mp (zk_P_perm hp hP)
  obtain ⟨hN, hA⟩ := zk_D_iff.mp (zk_D_perm hp hD)
  rw [List.map_append] at hN
  obtain ⟨n1, n2, n3⟩ := List.nodup_append.mp hN
  have ap : ∀ q ∈ wr, q.1 < H.size ∧ ¬ va_A wc H.size q.1 := fun q hq => by
    have hl := (hP2 q (List.mem_append_right _ hq)).lt
    refine ⟨hl, fun h => ?_⟩
    rcases h with ⟨k, e, h⟩ | h
    · exact n3 q.1 (List.mem_map.mpr ⟨(q.1, e), List.mem_of_getElem? h, rfl⟩) q.1 (List.mem_map.mpr ⟨q, hq, rfl⟩) rfl
    · omega
  obtain ⟨m1, m2⟩ := zk_D_iff.mp hD1
  refine ⟨va_P.app hP1 (zk_P_mem.mpr fun q hq => (hP2 q (List.mem_append_right _ hq)).kept (hk q.1 (ap q hq).1 (ap q hq).2)), zk_D_iff.mpr ⟨?_, fun q hq => ?_⟩⟩
  · rw [List.map_append]
    refine List.nodup_append.mpr ⟨m1, n2, fun a ha b hb e => ?_⟩
    obtain ⟨x, hx, rfl⟩ := List.mem_map.mp ha
    obtain ⟨z, hz, rfl⟩ := List.mem_map.mp hb
    exact (ap z hz).2 (by rw [← e]; exact m2 x hx)
  · rcases List.mem_append.mp hq with h | h
    · exact hF _ (m2 q h)
    · exact hA q (List.mem_append_right _ h)
/-! the environment: classes, array classes, nest words, the five texts, two statics -/
abbrev zk_Env : Type := va_G × (ClassId × ClassId × ClassId × ClassId × ClassId) × (Nat → Nat) × (Nat → Nat)
abbrev zk_ci (E : zk_Env) : ClassId := E.2.1.1
abbrev zk_cz (E : zk_Env) : ClassId := E.2.1.2.1
abbrev zk_cc (E : zk_Env) : ClassId := E.2.1.2.2.1
abbrev zk_cw (E : zk_Env) : ClassId := E.2.1.2.2.2.1
abbrev zk_cs (E : zk_Env) : ClassId := E.2.1.2.2.2.2
abbrev zk_T (E : zk_Env) : List (ClassId × FieldType) := [(zk_ci E, .int), (zk_cz E, .boolean), (zk_cc E, .char), (zk_cw E, .object RX8), (zk_cs E, .object RX6)]
def zk_len : List Nat := [4, 5, 4, 4, 5]
def zk_byt : List (List Int32) := [[103, 105, 118, 101], [98, 114, 101, 97, 107], [109, 111, 118, 101], [112, 97, 115, 115], [115, 119, 101, 101, 112]]
def zk_lit : List (Nat × String) := [(79, "give"), (85, "break"), (87, "move"), (89, "pass"), (91, "sweep")]
def zk_NF : List (String × Nat × String × String × String) := [
  (RX9, 132, RX8, "promises", "LPromiseWheel$Promises;"), (RX9, 148, RX8, "lines", "LPromiseWheel$Lines;"), (RX9, 159, RX8, "diary", "LPromiseWheel$Diary;"), (RX9, 41, RX6, "wheel", "LPromiseWheel$Wheel;"), (RX9, 82, RX4, "text", "LPromiseWheel$Text;"),
  (RX1, 22, RX8, "promises", "LPromiseWheel$Promises;"), (RX1, 35, RX8, "now", "I"), (RX1, 48, RX8, "diary", "LPromiseWheel$Diary;"), (RX1, 58, RX8, "lateCalls", "I"), (RX1, 61, RX8, "room", "I"), (RX6, 30, RX8, "now", "I")]
def zk_NM : List (String × Nat × MethodName) := [(RX9, 25, yX4_init), (RX9, 32, yX1_init), (RX1, 11, yX8_init), (RX4, 11, yX7_init), (RX6, 11, yX8_init), (RX8, 11, yX5_init), (RX8, 27, yX0_init)]
def zk_E (E : zk_Env) (A : Nat → Prop) (U : State) (H : Heap) : Prop :=
  va_K E.1 vwCl (zk_T E) U ∧ (∀ q ∈ zk_NF, va_Nw (.fieldLinkNest q.1 q.2.1 q.2.2.1 q.2.2.2.1 q.2.2.2.2 RX9) U) ∧ (∀ q ∈ zk_NM, va_Nw (.methodLinkNest q.1 q.2.1 q.2.2 RX9) U) ∧
  vk_S 5 zk_len zk_byt E.2.2.1 E.2.2.2 A U H ∧ (∀ (i : Nat) (q : Nat × String), zk_lit[i]? = some q → vk_R RX4 q.1 q.2 (E.2.2.1 i) U) ∧
  va_Z "java/lang/String" "COMPACT_STRINGS" "Z" (.int 1) A U H ∧ va_Zq "jdk/internal/util/Preconditions" "SIOOBE_FORMATTER" "Ljava/util/function/BiFunction;" A U H
theorem zk_E.warm {E : zk_Env} {A B : Nat → Prop} {s U : State} {H : Heap} {locs : List Loc} (h : zk_E E A s s.heap) (hS : va_S A s.heap H locs) (hAB : ∀ q, B q → A q) (hU : U.heap = H) (hW : s.WarmedH U.vm) : zk_E E B U U.heap := by
  obtain ⟨h1, h2, h3, h4, h5, h6, h7⟩ := h
  rw [hU]
  exact ⟨va_K.moved hW.alike h1, fun q hq => va_Nw.warmF hW (h2 q hq), fun q hq => va_Nw.warmM hW (h3 q hq), ((vk_S.moved hW.alike h4).kept hS.2.1).narrow hAB, fun i q hq => vk_R.warm hW (h5 i q hq), ((va_Z.moved hW.alike h6).kept hS.2.1).narrow hAB, ((va_Zq.moved hW.alike h7).kept hS.2.1).narrow hAB⟩
theorem zk_E.calling {E : zk_Env} {A : Nat → Prop} {U : State} {a : Array Value} {g : JFrame} {mk : MethodId} (h : zk_E E A U U.heap) : zk_E E A (U.calling g mk a) (U.calling g mk a).heap := by
  obtain ⟨h1, h2, h3, h4, h5, h6, h7⟩ := h
  exact ⟨va_K.moved (u := U) (U := U.calling g mk a) (Vm.Alike.refl U.vm) h1, fun q hq => va_Nw.same (w := .fieldLinkNest q.1 q.2.1 q.2.2.1 q.2.2.2.1 q.2.2.2.2 RX9) rfl (u := U) rfl (h2 q hq), fun q hq => va_Nw.same (w := .methodLinkNest q.1 q.2.1 q.2.2 RX9) rfl (u := U) rfl (h3 q hq), vk_S.moved (u := U) (U := U.calling g mk a) (Vm.Alike.refl U.vm) h4, fun i q hq => vk_R.same (u := U) rfl (h5 i q hq), va_Z.moved (u := U) (U := U.calling g mk a) (Vm.Alike.refl U.vm) h6, va_Zq.moved (u := U) (U := U.calling g mk a) (Vm.Alike.refl U.vm) h7⟩
/-! contracts: what a method answers is a function's value -/
def zk_Pc (E : zk_Env) (w : va_W) (sz : Nat) (U : State) : Prop := U.heap.size = sz ∧ va_P E.1 vwCl w U.heap ∧ zk_E E (va_A w sz) U U.heap ∧ va_D (fun _ => True) w
def zk_Qc (E : zk_Env) (w : va_W) (sz : Nat) (v : Option Value) (w' : va_W) : Array Value → State → Outcome → State → Prop := fun _ st oc t => (oc = .returned v ∧ va_P E.1 vwCl w' t.heap ∧ va_D (va_A w sz) w') ∧ va_F (va_A w sz) st t
def zk_Mc {ρ : Type} (E : zk_Env) (l : Launch) (y : MethodName) (ws : List Cond) (rm : Room) (av : List Value) (w : va_W) (o : Option ρ) (rv : ρ → Option Value) (w' : ρ → va_W) : Prop :=
  ∀ r, o = some r → ∀ sz, Met l y ws rm (va_Pc av (zk_Pc E w sz)) (zk_Qc E w sz (rv r) (w' r)) 0 0 (va_A w sz)
/-- a constructor: its world comes with addresses -/
def zk_Qn {α : Type} (E : zk_Env) (w : va_W) (sz : Nat) (w' : α → va_W) : Array Value → State → Outcome → State → Prop := fun _ st oc t => (∃ a, oc = .returned none ∧ va_P E.1 vwCl (w' a) t.heap ∧ va_D (va_A w sz) (w' a)) ∧ va_F (va_A w sz) st t
def zk_Mn {α : Type} (E : zk_Env) (l : Launch) (y : MethodName) (ws : List Cond) (rm : Room) (av : List Value) (w : va_W) (w' : α → va_W) (mc ms : Nat) : Prop :=
  ∀ sz, Met l y ws rm (va_Pc av (zk_Pc E w sz)) (zk_Qn E w sz w') mc ms (va_A w sz)
/-! the judgement -/
abbrev zk_X : Type := Program × Env × State × MethodId × Array Value × List Frame × Method × Code × va_W
def zk_K (E : zk_Env) : zk_X → ByteArray → Nat → Option FieldType → String → List Cond → Prop
  | (p, _, s, m, args, _, meth, c, w0), cc, nL, ret, own, Ts => p.tables.exec = Jvm.exec ∧ c.code = cc ∧ c.maxLocals = nL ∧ meth.sig.returnType = ret ∧ s.vm.findClass own = some m.cls ∧ (∀ w ∈ Ts, w.before args s = true) ∧ zk_E E (va_A w0 s.heap.size) s s.heap ∧ meth.locks = false
def zk_G {ρ : Type} (E : zk_Env) (l : Launch) : zk_X → ByteArray → Nat → Option FieldType → String → List Cond → Room → Nat → Nat → (ρ → State → Prop) → va_W → List (Nat × Value) → Nat → List Value → Option ρ → Prop
  | (p, e, s, m, args, below, meth, c, w0), cc, nL, ret, own, Ts, R, kc, ks, Q, w, lv, pc, st, o => ∀ r, o = some r → zk_K E (p, e, s, m, args, below, meth, c, w0) cc nL ret own Ts → ∀ (H : Heap) (locs : List Loc) (ls : Array Slot), va_P E.1 vwCl w H → va_D (va_A w0 s.heap.size) w → va_S (va_A w0 s.heap.size) s.heap H locs → lv_has ls nL lv → W p l e R s m args below meth c H locs kc ks (Q r) (F0 m pc ls st)
theorem zk_hA {w0 : va_W} {n : Nat} : ∀ q : Nat, n ≤ q → va_A w0 n q := fun _ h => Or.inr h
section ZKR
variable {ρ : Type} {E : zk_Env} {l : Launch} {X : zk_X} {cc : ByteArray} {nL : Nat} {ret : Option FieldType} {own : String} {Ts : List Cond} {R : Room} {kc ks : Nat} {Q : ρ → State → Prop} {w : va_W} {lv : List (Nat × Value)} {pc : Nat} {st : List Value} {o : Option ρ}

theorem zk_iconst {n : Int} (v : Int32) (hdg : decode cc pc = .ok (.iconst n, 1)) (hv : Int32.ofInt n = v) (pc' : Nat) (hp : pc + 1 = pc') (kk : zk_G E l X cc nL ret own Ts R kc ks Q w lv pc' (.int v :: st) o) : zk_G E l X cc nL ret own Ts R kc ks Q w lv pc (st) o := by
  obtain ⟨p, e, s, m, args, below, meth, c, w0⟩ := X
  intro r hr hC H locs ls hP hD hS hl
  obtain ⟨hx, hb, hml, hret, hown, hts, hE, hlk⟩ := id hC
  subst hp
  exact lv_iconst hx hb hdg hv (kk r hr hC H locs ls hP hD hS hl)
theorem zk_bipush {n : Int} (v : Int32) (hdg : decode cc pc = .ok (.bipush n, 2)) (hv : (Int8.ofInt n).toInt32 = v) (pc' : Nat) (hp : pc + 2 = pc') (kk : zk_G E l X cc nL ret own Ts R kc ks Q w lv pc' (.int v :: st) o) : zk_G E l X cc nL ret own Ts R kc ks Q w lv pc (st) o := by
  obtain ⟨p, e, s, m, args, below, meth, c, w0⟩ := X
  intro r hr hC H locs ls hP hD hS hl
  obtain ⟨hx, hb, hml, hret, hown, hts, hE, hlk⟩ := id hC
  subst hp
  exact lv_bipush hx hb hdg hv (kk r hr hC H locs ls hP hD hS hl)
theorem zk_sipush {n : Int} (v : Int32) (hdg : decode cc pc = .ok (.sipush n, 3)) (hv : (Int16.ofInt n).toInt32 = v) (pc' : Nat) (hp : pc + 3 = pc') (kk : zk_G E l X cc nL ret own Ts R kc ks Q w lv pc' (.int v :: st) o) : zk_G E l X cc nL ret own Ts R kc ks Q w lv pc (st) o := by
  obtain ⟨p, e, s, m, args, below, meth, c, w0⟩ := X
  intro r hr hC H locs ls hP hD hS hl
  obtain ⟨hx, hb, hml, hret, hown, hts, hE, hlk⟩ := id hC
  subst hp
  exact lv_sipush hx hb hdg hv (kk r hr hC H locs ls hP hD hS hl)
theorem zk_iload_n {k : Fin 4} {x : Int32} (hdg : decode cc pc = .ok (.iload_n k, 1)) (j : Nat) (hj : lv[j]? = some (k.val, .int x)) (pc' : Nat) (hp : pc + 1 = pc') (kk : zk_G E l X cc nL ret own Ts R kc ks Q w lv pc' (.int x :: st) o) : zk_G E l X cc nL ret own Ts R kc ks Q w lv pc (st) o := by
  obtain ⟨p, e, s, m, args, below, meth, c, w0⟩ := X
  intro r hr hC H locs ls hP hD hS hl
  obtain ⟨hx, hb, hml, hret, hown, hts, hE, hlk⟩ := id hC
  subst hp
  exact lv_iload_n hx hb hdg rfl (lv_at hl j hj) (kk r hr hC H locs ls hP hD hS hl)
theorem zk_iload {i : Nat} {x : Int32} (hdg : decode cc pc = .ok (.iload i, 2)) (j : Nat) (hj : lv[j]? = some (i, .int x)) (pc' : Nat) (hp : pc + 2 = pc') (kk : zk_G E l X cc nL ret own Ts R kc ks Q w lv pc' (.int x :: st) o) : zk_G E l X cc nL ret own Ts R kc ks Q w lv pc (st) o := by
  obtain ⟨p, e, s, m, args, below, meth, c, w0⟩ := X
  intro r hr hC H locs ls hP hD hS hl
  obtain ⟨hx, hb, hml, hret, hown, hts, hE, hlk⟩ := id hC
  subst hp
  exact lv_iload hx hb hdg (lv_at hl j hj) (kk r hr hC H locs ls hP hD hS hl)
theorem zk_aload_n {k : Fin 4} {x : Nat} (hdg : decode cc pc = .ok (.aload_n k, 1)) (j : Nat) (hj : lv[j]? = some (k.val, .ref x)) (pc' : Nat) (hp : pc + 1 = pc') (kk : zk_G E l X cc nL ret own Ts R kc ks Q w lv pc' (.ref x :: st) o) : zk_G E l X cc nL ret own Ts R kc ks Q w lv pc (st) o := by
  obtain ⟨p, e, s, m, args, below, meth, c, w0⟩ := X
  intro r hr hC H locs ls hP hD hS hl
  obtain ⟨hx, hb, hml, hret, hown, hts, hE, hlk⟩ := id hC
  subst hp
  exact lv_aload_n hx hb hdg rfl (lv_at hl j hj) (kk r hr hC H locs ls hP hD hS hl)
theorem zk_aload_nN {k : Fin 4} (hdg : decode cc pc = .ok (.aload_n k, 1)) (j : Nat) (hj : lv[j]? = some (k.val, .null)) (pc' : Nat) (hp : pc + 1 = pc') (kk : zk_G E l X cc nL ret own Ts R kc ks Q w lv pc' (.null :: st) o) : zk_G E l X cc nL ret own Ts R kc ks Q w lv pc (st) o := by
  obtain ⟨p, e, s, m, args, below, meth, c, w0⟩ := X
  intro r hr hC H locs ls hP hD hS hl
  obtain ⟨hx, hb, hml, hret, hown, hts, hE, hlk⟩ := id hC
  subst hp
  exact lv_aload_nN hx hb hdg rfl (lv_at hl j hj) (kk r hr hC H locs ls hP hD hS hl)
theorem zk_aload {i : Nat} {x : Nat} (hdg : decode cc pc = .ok (.aload i, 2)) (j : Nat) (hj : lv[j]? = some (i, .ref x)) (pc' : Nat) (hp : pc + 2 = pc') (kk : zk_G E l X cc nL ret own Ts R kc ks Q w lv pc' (.ref x :: st) o) : zk_G E l X cc nL ret own Ts R kc ks Q w lv pc (st) o := by
  obtain ⟨p, e, s, m, args, below, meth, c, w0⟩ := X
  intro r hr hC H locs ls hP hD hS hl
  obtain ⟨hx, hb, hml, hret, hown, hts, hE, hlk⟩ := id hC
  subst hp
  exact lv_aload hx hb hdg (lv_at hl j hj) (kk r hr hC H locs ls hP hD hS hl)
theorem zk_istore_n {k : Fin 4} {x : Int32} (lv' : List (Nat × Value)) (hdg : decode cc pc = .ok (.istore_n k, 1)) (hn : k.val < nL) (hv : (k.val, Value.int x) :: lv.filter (fun q => !(q.1 == k.val) && !(q.1 + 1 == k.val && q.2.category == 2)) = lv') (pc' : Nat) (hp : pc + 1 = pc') (kk : zk_G E l X cc nL ret own Ts R kc ks Q w lv' pc' (st) o) : zk_G E l X cc nL ret own Ts R kc ks Q w lv pc (.int x :: st) o := by
  obtain ⟨p, e, s, m, args, below, meth, c, w0⟩ := X
  intro r hr hC H locs ls hP hD hS hl
  obtain ⟨hx, hb, hml, hret, hown, hts, hE, hlk⟩ := id hC
  subst hp
  exact lv_istore_n hx hb hdg rfl hl hn hv (fun ls1 hl1 => kk r hr hC H locs ls1 hP hD hS hl1)
theorem zk_istore {i : Nat} {x : Int32} (lv' : List (Nat × Value)) (hdg : decode cc pc = .ok (.istore i, 2)) (hn : i < nL) (hv : (i, Value.int x) :: lv.filter (fun q => !(q.1 == i) && !(q.1 + 1 == i && q.2.category == 2)) = lv') (pc' : Nat) (hp : pc + 2 = pc') (kk : zk_G E l X cc nL ret own Ts R kc ks Q w lv' pc' (st) o) : zk_G E l X cc nL ret own Ts R kc ks Q w lv pc (.int x :: st) o := by
  obtain ⟨p, e, s, m, args, below, meth, c, w0⟩ := X
  intro r hr hC H locs ls hP hD hS hl
  obtain ⟨hx, hb, hml, hret, hown, hts, hE, hlk⟩ := id hC
  subst hp
  exact lv_istore hx hb hdg hl hn hv (fun ls1 hl1 => kk r hr hC H locs ls1 hP hD hS hl1)
theorem zk_astore_n {k : Fin 4} {x : Nat} (lv' : List (Nat × Value)) (hdg : decode cc pc = .ok (.astore_n k, 1)) (hn : k.val < nL) (hv : (k.val, Value.ref x) :: lv.filter (fun q => !(q.1 == k.val) && !(q.1 + 1 == k.val && q.2.category == 2)) = lv') (pc' : Nat) (hp : pc + 1 = pc') (kk : zk_G E l X cc nL ret own Ts R kc ks Q w lv' pc' (st) o) : zk_G E l X cc nL ret own Ts R kc ks Q w lv pc (.ref x :: st) o := by
  obtain ⟨p, e, s, m, args, below, meth, c, w0⟩ := X
  intro r hr hC H locs ls hP hD hS hl
  obtain ⟨hx, hb, hml, hret, hown, hts, hE, hlk⟩ := id hC
  subst hp
  exact lv_astore_n hx hb hdg rfl hl hn hv (fun ls1 hl1 => kk r hr hC H locs ls1 hP hD hS hl1)
theorem zk_astore_nN {k : Fin 4} (lv' : List (Nat × Value)) (hdg : decode cc pc = .ok (.astore_n k, 1)) (hn : k.val < nL) (hv : (k.val, Value.null) :: lv.filter (fun q => !(q.1 == k.val) && !(q.1 + 1 == k.val && q.2.category == 2)) = lv') (pc' : Nat) (hp : pc + 1 = pc') (kk : zk_G E l X cc nL ret own Ts R kc ks Q w lv' pc' (st) o) : zk_G E l X cc nL ret own Ts R kc ks Q w lv pc (.null :: st) o := by
  obtain ⟨p, e, s, m, args, below, meth, c, w0⟩ := X
  intro r hr hC H locs ls hP hD hS hl
  obtain ⟨hx, hb, hml, hret, hown, hts, hE, hlk⟩ := id hC
  subst hp
  exact lv_astore_nN hx hb hdg rfl hl hn hv (fun ls1 hl1 => kk r hr hC H locs ls1 hP hD hS hl1)
theorem zk_astore {i : Nat} {x : Nat} (lv' : List (Nat × Value)) (hdg : decode cc pc = .ok (.astore i, 2)) (hn : i < nL) (hv : (i, Value.ref x) :: lv.filter (fun q => !(q.1 == i) && !(q.1 + 1 == i && q.2.category == 2)) = lv') (pc' : Nat) (hp : pc + 2 = pc') (kk : zk_G E l X cc nL ret own Ts R kc ks Q w lv' pc' (st) o) : zk_G E l X cc nL ret own Ts R kc ks Q w lv pc (.ref x :: st) o := by
  obtain ⟨p, e, s, m, args, below, meth, c, w0⟩ := X
  intro r hr hC H locs ls hP hD hS hl
  obtain ⟨hx, hb, hml, hret, hown, hts, hE, hlk⟩ := id hC
  subst hp
  exact lv_astore hx hb hdg hl hn hv (fun ls1 hl1 => kk r hr hC H locs ls1 hP hD hS hl1)
theorem zk_iinc {i : Nat} {n : Int} {x : Int32} (v : Int32) (lv' : List (Nat × Value)) (hdg : decode cc pc = .ok (.iinc i n, 3)) (j : Nat) (hj : lv[j]? = some (i, .int x)) (hv : x + Int32.ofInt n = v) (hn : i < nL) (hl' : (i, Value.int v) :: lv.filter (fun q => !(q.1 == i) && !(q.1 + 1 == i && q.2.category == 2)) = lv') (pc' : Nat) (hp : pc + 3 = pc') (kk : zk_G E l X cc nL ret own Ts R kc ks Q w lv' pc' (st) o) : zk_G E l X cc nL ret own Ts R kc ks Q w lv pc (st) o := by
  obtain ⟨p, e, s, m, args, below, meth, c, w0⟩ := X
  intro r hr hC H locs ls hP hD hS hl
  obtain ⟨hx, hb, hml, hret, hown, hts, hE, hlk⟩ := id hC
  subst hp
  exact lv_iinc hx hb hdg hl (k := j) hj hv hn hl' (fun ls1 hl1 => kk r hr hC H locs ls1 hP hD hS hl1)
theorem zk_iadd {x y : Int32} (hdg : decode cc pc = .ok (.iadd, 1)) (pc' : Nat) (hp : pc + 1 = pc') (kk : zk_G E l X cc nL ret own Ts R kc ks Q w lv pc' (.int (x + y) :: st) o) : zk_G E l X cc nL ret own Ts R kc ks Q w lv pc (.int y :: .int x :: st) o := by
  obtain ⟨p, e, s, m, args, below, meth, c, w0⟩ := X
  intro r hr hC H locs ls hP hD hS hl
  obtain ⟨hx, hb, hml, hret, hown, hts, hE, hlk⟩ := id hC
  subst hp
  exact lv_iadd hx hb hdg (kk r hr hC H locs ls hP hD hS hl)
theorem zk_isub {x y : Int32} (hdg : decode cc pc = .ok (.isub, 1)) (pc' : Nat) (hp : pc + 1 = pc') (kk : zk_G E l X cc nL ret own Ts R kc ks Q w lv pc' (.int (x - y) :: st) o) : zk_G E l X cc nL ret own Ts R kc ks Q w lv pc (.int y :: .int x :: st) o := by
  obtain ⟨p, e, s, m, args, below, meth, c, w0⟩ := X
  intro r hr hC H locs ls hP hD hS hl
  obtain ⟨hx, hb, hml, hret, hown, hts, hE, hlk⟩ := id hC
  subst hp
  exact lv_isub hx hb hdg (kk r hr hC H locs ls hP hD hS hl)
theorem zk_imul {x y : Int32} (hdg : decode cc pc = .ok (.imul, 1)) (pc' : Nat) (hp : pc + 1 = pc') (kk : zk_G E l X cc nL ret own Ts R kc ks Q w lv pc' (.int (x * y) :: st) o) : zk_G E l X cc nL ret own Ts R kc ks Q w lv pc (.int y :: .int x :: st) o := by
  obtain ⟨p, e, s, m, args, below, meth, c, w0⟩ := X
  intro r hr hC H locs ls hP hD hS hl
  obtain ⟨hx, hb, hml, hret, hown, hts, hE, hlk⟩ := id hC
  subst hp
  exact lv_imul hx hb hdg (kk r hr hC H locs ls hP hD hS hl)
theorem zk_iand {x y : Int32} (hdg : decode cc pc = .ok (.iand, 1)) (pc' : Nat) (hp : pc + 1 = pc') (kk : zk_G E l X cc nL ret own Ts R kc ks Q w lv pc' (.int (x &&& y) :: st) o) : zk_G E l X cc nL ret own Ts R kc ks Q w lv pc (.int y :: .int x :: st) o := by
  obtain ⟨p, e, s, m, args, below, meth, c, w0⟩ := X
  intro r hr hC H locs ls hP hD hS hl
  obtain ⟨hx, hb, hml, hret, hown, hts, hE, hlk⟩ := id hC
  subst hp
  exact lv_iand hx hb hdg (kk r hr hC H locs ls hP hD hS hl)
theorem zk_ixor {x y : Int32} (hdg : decode cc pc = .ok (.ixor, 1)) (pc' : Nat) (hp : pc + 1 = pc') (kk : zk_G E l X cc nL ret own Ts R kc ks Q w lv pc' (.int (x ^^^ y) :: st) o) : zk_G E l X cc nL ret own Ts R kc ks Q w lv pc (.int y :: .int x :: st) o := by
  obtain ⟨p, e, s, m, args, below, meth, c, w0⟩ := X
  intro r hr hC H locs ls hP hD hS hl
  obtain ⟨hx, hb, hml, hret, hown, hts, hE, hlk⟩ := id hC
  subst hp
  exact lv_ixor hx hb hdg (kk r hr hC H locs ls hP hD hS hl)
theorem zk_ishr {x y : Int32} (hdg : decode cc pc = .ok (.ishr, 1)) (pc' : Nat) (hp : pc + 1 = pc') (kk : zk_G E l X cc nL ret own Ts R kc ks Q w lv pc' (.int (x >>> (y &&& 31)) :: st) o) : zk_G E l X cc nL ret own Ts R kc ks Q w lv pc (.int y :: .int x :: st) o := by
  obtain ⟨p, e, s, m, args, below, meth, c, w0⟩ := X
  intro r hr hC H locs ls hP hD hS hl
  obtain ⟨hx, hb, hml, hret, hown, hts, hE, hlk⟩ := id hC
  subst hp
  exact lv_ishr hx hb hdg (kk r hr hC H locs ls hP hD hS hl)
/-- a guard: the divisor -/
def zk_dv {α : Type} (y : Int32) (k : Option α) : Option α := if y = 0 then none else k
/-- a guard: an index -/
def zk_ck {α : Type} (i : Int32) (n : Nat) (k : Option α) : Option α := if i < 0 ∨ n ≤ i.toNatClampNeg then none else k
/-- a guard: a truth value -/
def zk_bz {α : Type} (i : Int32) (k : Option α) : Option α := if i = 0 ∨ i = 1 then k else none
theorem zk_dv_e {α : Type} {y : Int32} {k : Option α} {r : α} (h : zk_dv y k = some r) : ¬ y = 0 ∧ k = some r := by
  unfold zk_dv at h
  split at h
  · cases h
  · exact ⟨by assumption, h⟩
theorem zk_ck_e {α : Type} {i : Int32} {n : Nat} {k : Option α} {r : α} (h : zk_ck i n k = some r) : vp_in i n ∧ k = some r := by
  unfold zk_ck at h
  split at h
  · cases h
  · exact ⟨by assumption, h⟩
theorem zk_bz_e {α : Type} {i : Int32} {k : Option α} {r : α} (h : zk_bz i k = some r) : (i = 0 ∨ i = 1) ∧ k = some r := by
  unfold zk_bz at h
  split at h
  · exact ⟨by assumption, h⟩
  · cases h
def zk_rem (x y : Int32) : Int32 := x - x / y * y
theorem zk_idiv {x y : Int32} (hdg : decode cc pc = .ok (.idiv, 1)) (pc' : Nat) (hp : pc + 1 = pc') (kk : zk_G E l X cc nL ret own Ts R kc ks Q w lv pc' (.int (x / y) :: st) o) : zk_G E l X cc nL ret own Ts R kc ks Q w lv pc (.int y :: .int x :: st) (zk_dv y o) := by
  obtain ⟨p, e, s, m, args, below, meth, c, w0⟩ := X
  intro r hr hC H locs ls hP hD hS hl
  obtain ⟨hx, hb, hml, hret, hown, hts, hE, hlk⟩ := id hC
  obtain ⟨hne, hr⟩ := zk_dv_e hr
  subst hp
  exact lv_idiv hx hb hdg hne (kk r hr hC H locs ls hP hD hS hl)
theorem zk_irem {x y : Int32} (hdg : decode cc pc = .ok (.irem, 1)) (pc' : Nat) (hp : pc + 1 = pc') (kk : zk_G E l X cc nL ret own Ts R kc ks Q w lv pc' (.int (zk_rem x y) :: st) o) : zk_G E l X cc nL ret own Ts R kc ks Q w lv pc (.int y :: .int x :: st) (zk_dv y o) := by
  obtain ⟨p, e, s, m, args, below, meth, c, w0⟩ := X
  intro r hr hC H locs ls hP hD hS hl
  obtain ⟨hx, hb, hml, hret, hown, hts, hE, hlk⟩ := id hC
  obtain ⟨hne, hr⟩ := zk_dv_e hr
  subst hp
  exact lv_irem hx hb hdg hne (kk r hr hC H locs ls hP hD hS hl)
theorem zk_idivL {x y : Int32} (hdg : decode cc pc = .ok (.idiv, 1)) (hne : ¬ y = 0) (pc' : Nat) (hp : pc + 1 = pc') (kk : zk_G E l X cc nL ret own Ts R kc ks Q w lv pc' (.int (x / y) :: st) o) : zk_G E l X cc nL ret own Ts R kc ks Q w lv pc (.int y :: .int x :: st) o := by
  obtain ⟨p, e, s, m, args, below, meth, c, w0⟩ := X
  intro r hr hC H locs ls hP hD hS hl
  obtain ⟨hx, hb, hml, hret, hown, hts, hE, hlk⟩ := id hC
  subst hp
  exact lv_idiv hx hb hdg hne (kk r hr hC H locs ls hP hD hS hl)
theorem zk_iremL {x y : Int32} (hdg : decode cc pc = .ok (.irem, 1)) (hne : ¬ y = 0) (pc' : Nat) (hp : pc + 1 = pc') (kk : zk_G E l X cc nL ret own Ts R kc ks Q w lv pc' (.int (zk_rem x y) :: st) o) : zk_G E l X cc nL ret own Ts R kc ks Q w lv pc (.int y :: .int x :: st) o := by
  obtain ⟨p, e, s, m, args, below, meth, c, w0⟩ := X
  intro r hr hC H locs ls hP hD hS hl
  obtain ⟨hx, hb, hml, hret, hown, hts, hE, hlk⟩ := id hC
  subst hp
  exact lv_irem hx hb hdg hne (kk r hr hC H locs ls hP hD hS hl)
theorem zk_i2c {x : Int32} (hdg : decode cc pc = .ok (.i2c, 1)) (pc' : Nat) (hp : pc + 1 = pc') (kk : zk_G E l X cc nL ret own Ts R kc ks Q w lv pc' (.int ((x.toUInt32 % 65536).toInt32) :: st) o) : zk_G E l X cc nL ret own Ts R kc ks Q w lv pc (.int x :: st) o := by
  obtain ⟨p, e, s, m, args, below, meth, c, w0⟩ := X
  intro r hr hC H locs ls hP hD hS hl
  obtain ⟨hx, hb, hml, hret, hown, hts, hE, hlk⟩ := id hC
  subst hp
  exact lv_i2c hx hb hdg rfl (kk r hr hC H locs ls hP hD hS hl)
theorem zk_null (hdg : decode cc pc = .ok (.aconst_null, 1)) (pc' : Nat) (hp : pc + 1 = pc') (kk : zk_G E l X cc nL ret own Ts R kc ks Q w lv pc' (.null :: st) o) : zk_G E l X cc nL ret own Ts R kc ks Q w lv pc (st) o := by
  obtain ⟨p, e, s, m, args, below, meth, c, w0⟩ := X
  intro r hr hC H locs ls hP hD hS hl
  obtain ⟨hx, hb, hml, hret, hown, hts, hE, hlk⟩ := id hC
  subst hp
  exact lv_null hx hb hdg (kk r hr hC H locs ls hP hD hS hl)
theorem zk_dup {v : Value} (hdg : decode cc pc = .ok (.dup, 1)) (hv : v.category = 1) (pc' : Nat) (hp : pc + 1 = pc') (kk : zk_G E l X cc nL ret own Ts R kc ks Q w lv pc' (v :: v :: st) o) : zk_G E l X cc nL ret own Ts R kc ks Q w lv pc (v :: st) o := by
  obtain ⟨p, e, s, m, args, below, meth, c, w0⟩ := X
  intro r hr hC H locs ls hP hD hS hl
  obtain ⟨hx, hb, hml, hret, hown, hts, hE, hlk⟩ := id hC
  subst hp
  exact lv_dup hx hb hdg hv (kk r hr hC H locs ls hP hD hS hl)
theorem zk_dup2 {v u : Value} (hdg : decode cc pc = .ok (.dup2, 1)) (hv : v.category = 1) (hu : u.category = 1) (pc' : Nat) (hp : pc + 1 = pc') (kk : zk_G E l X cc nL ret own Ts R kc ks Q w lv pc' (v :: u :: v :: u :: st) o) : zk_G E l X cc nL ret own Ts R kc ks Q w lv pc (v :: u :: st) o := by
  obtain ⟨p, e, s, m, args, below, meth, c, w0⟩ := X
  intro r hr hC H locs ls hP hD hS hl
  obtain ⟨hx, hb, hml, hret, hown, hts, hE, hlk⟩ := id hC
  subst hp
  exact lv_dup2_11 hx hb hdg hv hu (kk r hr hC H locs ls hP hD hS hl)
theorem zk_pop {v : Value} (hdg : decode cc pc = .ok (.pop, 1)) (hv : v.category = 1) (pc' : Nat) (hp : pc + 1 = pc') (kk : zk_G E l X cc nL ret own Ts R kc ks Q w lv pc' (st) o) : zk_G E l X cc nL ret own Ts R kc ks Q w lv pc (v :: st) o := by
  obtain ⟨p, e, s, m, args, below, meth, c, w0⟩ := X
  intro r hr hC H locs ls hP hD hS hl
  obtain ⟨hx, hb, hml, hret, hown, hts, hE, hlk⟩ := id hC
  subst hp
  exact lv_pop hx hb hdg hv (kk r hr hC H locs ls hP hD hS hl)
theorem zk_goto {off : Int} (hdg : decode cc pc = .ok (.goto off, 3)) (tgt : Nat) (ht : (pc : Int) + off = (tgt : Int)) (kk : zk_G E l X cc nL ret own Ts R kc ks Q w lv tgt (st) o) : zk_G E l X cc nL ret own Ts R kc ks Q w lv pc (st) o := by
  obtain ⟨p, e, s, m, args, below, meth, c, w0⟩ := X
  intro r hr hC H locs ls hP hD hS hl
  obtain ⟨hx, hb, hml, hret, hown, hts, hE, hlk⟩ := id hC
  exact lv_goto hx hb hdg ht (kk r hr hC H locs ls hP hD hS hl)
theorem zk_if_eq {x : Int32} {off : Int} {a b : Option ρ} (hdg : decode cc pc = .ok (.ifCond .eq off, 3)) (tgt : Nat) (ht : (pc : Int) + off = (tgt : Int)) (pc' : Nat) (hp : pc + 3 = pc') (kt : x = 0 → zk_G E l X cc nL ret own Ts R kc ks Q w lv tgt (st) a) (kf : ¬ x = 0 → zk_G E l X cc nL ret own Ts R kc ks Q w lv pc' (st) b) : zk_G E l X cc nL ret own Ts R kc ks Q w lv pc (.int x :: st) (if x = 0 then a else b) := by
  obtain ⟨p, e, s, m, args, below, meth, c, w0⟩ := X
  intro r hr hC H locs ls hP hD hS hl
  obtain ⟨hx, hb, hml, hret, hown, hts, hE, hlk⟩ := id hC
  subst hp
  refine lv_if_eq hx hb hdg ht (fun c0 => ?_) (fun c0 => ?_)
  · rw [if_pos c0] at hr
    exact kt c0 r hr hC H locs ls hP hD hS hl
  · rw [if_neg c0] at hr
    exact kf c0 r hr hC H locs ls hP hD hS hl
theorem zk_icmp_eq {x y : Int32} {off : Int} {a b : Option ρ} (hdg : decode cc pc = .ok (.if_icmp .eq off, 3)) (tgt : Nat) (ht : (pc : Int) + off = (tgt : Int)) (pc' : Nat) (hp : pc + 3 = pc') (kt : x = y → zk_G E l X cc nL ret own Ts R kc ks Q w lv tgt (st) a) (kf : ¬ x = y → zk_G E l X cc nL ret own Ts R kc ks Q w lv pc' (st) b) : zk_G E l X cc nL ret own Ts R kc ks Q w lv pc (.int y :: .int x :: st) (if x = y then a else b) := by
  obtain ⟨p, e, s, m, args, below, meth, c, w0⟩ := X
  intro r hr hC H locs ls hP hD hS hl
  obtain ⟨hx, hb, hml, hret, hown, hts, hE, hlk⟩ := id hC
  subst hp
  refine lv_icmp_eq hx hb hdg ht (fun c0 => ?_) (fun c0 => ?_)
  · rw [if_pos c0] at hr
    exact kt c0 r hr hC H locs ls hP hD hS hl
  · rw [if_neg c0] at hr
    exact kf c0 r hr hC H locs ls hP hD hS hl
theorem zk_if_ne {x : Int32} {off : Int} {a b : Option ρ} (hdg : decode cc pc = .ok (.ifCond .ne off, 3)) (tgt : Nat) (ht : (pc : Int) + off = (tgt : Int)) (pc' : Nat) (hp : pc + 3 = pc') (kf : x = 0 → zk_G E l X cc nL ret own Ts R kc ks Q w lv pc' (st) a) (kt : ¬ x = 0 → zk_G E l X cc nL ret own Ts R kc ks Q w lv tgt (st) b) : zk_G E l X cc nL ret own Ts R kc ks Q w lv pc (.int x :: st) (if x = 0 then a else b) := by
  obtain ⟨p, e, s, m, args, below, meth, c, w0⟩ := X
  intro r hr hC H locs ls hP hD hS hl
  obtain ⟨hx, hb, hml, hret, hown, hts, hE, hlk⟩ := id hC
  subst hp
  refine lv_if_ne hx hb hdg ht (fun c0 => ?_) (fun c0 => ?_)
  · rw [if_neg c0] at hr
    exact kt c0 r hr hC H locs ls hP hD hS hl
  · rw [if_pos c0] at hr
    exact kf c0 r hr hC H locs ls hP hD hS hl
theorem zk_icmp_ne {x y : Int32} {off : Int} {a b : Option ρ} (hdg : decode cc pc = .ok (.if_icmp .ne off, 3)) (tgt : Nat) (ht : (pc : Int) + off = (tgt : Int)) (pc' : Nat) (hp : pc + 3 = pc') (kf : x = y → zk_G E l X cc nL ret own Ts R kc ks Q w lv pc' (st) a) (kt : ¬ x = y → zk_G E l X cc nL ret own Ts R kc ks Q w lv tgt (st) b) : zk_G E l X cc nL ret own Ts R kc ks Q w lv pc (.int y :: .int x :: st) (if x = y then a else b) := by
  obtain ⟨p, e, s, m, args, below, meth, c, w0⟩ := X
  intro r hr hC H locs ls hP hD hS hl
  obtain ⟨hx, hb, hml, hret, hown, hts, hE, hlk⟩ := id hC
  subst hp
  refine lv_icmp_ne hx hb hdg ht (fun c0 => ?_) (fun c0 => ?_)
  · rw [if_neg c0] at hr
    exact kt c0 r hr hC H locs ls hP hD hS hl
  · rw [if_pos c0] at hr
    exact kf c0 r hr hC H locs ls hP hD hS hl
theorem zk_if_lt {x : Int32} {off : Int} {a b : Option ρ} (hdg : decode cc pc = .ok (.ifCond .lt off, 3)) (tgt : Nat) (ht : (pc : Int) + off = (tgt : Int)) (pc' : Nat) (hp : pc + 3 = pc') (kt : x < 0 → zk_G E l X cc nL ret own Ts R kc ks Q w lv tgt (st) a) (kf : ¬ x < 0 → zk_G E l X cc nL ret own Ts R kc ks Q w lv pc' (st) b) : zk_G E l X cc nL ret own Ts R kc ks Q w lv pc (.int x :: st) (if x < 0 then a else b) := by
  obtain ⟨p, e, s, m, args, below, meth, c, w0⟩ := X
  intro r hr hC H locs ls hP hD hS hl
  obtain ⟨hx, hb, hml, hret, hown, hts, hE, hlk⟩ := id hC
  subst hp
  refine lv_if_lt hx hb hdg ht (fun c0 => ?_) (fun c0 => ?_)
  · rw [if_pos c0] at hr
    exact kt c0 r hr hC H locs ls hP hD hS hl
  · rw [if_neg c0] at hr
    exact kf c0 r hr hC H locs ls hP hD hS hl
theorem zk_icmp_lt {x y : Int32} {off : Int} {a b : Option ρ} (hdg : decode cc pc = .ok (.if_icmp .lt off, 3)) (tgt : Nat) (ht : (pc : Int) + off = (tgt : Int)) (pc' : Nat) (hp : pc + 3 = pc') (kt : x < y → zk_G E l X cc nL ret own Ts R kc ks Q w lv tgt (st) a) (kf : ¬ x < y → zk_G E l X cc nL ret own Ts R kc ks Q w lv pc' (st) b) : zk_G E l X cc nL ret own Ts R kc ks Q w lv pc (.int y :: .int x :: st) (if x < y then a else b) := by
  obtain ⟨p, e, s, m, args, below, meth, c, w0⟩ := X
  intro r hr hC H locs ls hP hD hS hl
  obtain ⟨hx, hb, hml, hret, hown, hts, hE, hlk⟩ := id hC
  subst hp
  refine lv_icmp_lt hx hb hdg ht (fun c0 => ?_) (fun c0 => ?_)
  · rw [if_pos c0] at hr
    exact kt c0 r hr hC H locs ls hP hD hS hl
  · rw [if_neg c0] at hr
    exact kf c0 r hr hC H locs ls hP hD hS hl
theorem zk_if_ge {x : Int32} {off : Int} {a b : Option ρ} (hdg : decode cc pc = .ok (.ifCond .ge off, 3)) (tgt : Nat) (ht : (pc : Int) + off = (tgt : Int)) (pc' : Nat) (hp : pc + 3 = pc') (kt : 0 ≤ x → zk_G E l X cc nL ret own Ts R kc ks Q w lv tgt (st) a) (kf : ¬ 0 ≤ x → zk_G E l X cc nL ret own Ts R kc ks Q w lv pc' (st) b) : zk_G E l X cc nL ret own Ts R kc ks Q w lv pc (.int x :: st) (if 0 ≤ x then a else b) := by
  obtain ⟨p, e, s, m, args, below, meth, c, w0⟩ := X
  intro r hr hC H locs ls hP hD hS hl
  obtain ⟨hx, hb, hml, hret, hown, hts, hE, hlk⟩ := id hC
  subst hp
  refine lv_if_ge hx hb hdg ht (fun c0 => ?_) (fun c0 => ?_)
  · rw [if_pos c0] at hr
    exact kt c0 r hr hC H locs ls hP hD hS hl
  · rw [if_neg c0] at hr
    exact kf c0 r hr hC H locs ls hP hD hS hl
theorem zk_icmp_ge {x y : Int32} {off : Int} {a b : Option ρ} (hdg : decode cc pc = .ok (.if_icmp .ge off, 3)) (tgt : Nat) (ht : (pc : Int) + off = (tgt : Int)) (pc' : Nat) (hp : pc + 3 = pc') (kt : y ≤ x → zk_G E l X cc nL ret own Ts R kc ks Q w lv tgt (st) a) (kf : ¬ y ≤ x → zk_G E l X cc nL ret own Ts R kc ks Q w lv pc' (st) b) : zk_G E l X cc nL ret own Ts R kc ks Q w lv pc (.int y :: .int x :: st) (if y ≤ x then a else b) := by
  obtain ⟨p, e, s, m, args, below, meth, c, w0⟩ := X
  intro r hr hC H locs ls hP hD hS hl
  obtain ⟨hx, hb, hml, hret, hown, hts, hE, hlk⟩ := id hC
  subst hp
  refine lv_icmp_ge hx hb hdg ht (fun c0 => ?_) (fun c0 => ?_)
  · rw [if_pos c0] at hr
    exact kt c0 r hr hC H locs ls hP hD hS hl
  · rw [if_neg c0] at hr
    exact kf c0 r hr hC H locs ls hP hD hS hl
theorem zk_if_gt {x : Int32} {off : Int} {a b : Option ρ} (hdg : decode cc pc = .ok (.ifCond .gt off, 3)) (tgt : Nat) (ht : (pc : Int) + off = (tgt : Int)) (pc' : Nat) (hp : pc + 3 = pc') (kt : 0 < x → zk_G E l X cc nL ret own Ts R kc ks Q w lv tgt (st) a) (kf : ¬ 0 < x → zk_G E l X cc nL ret own Ts R kc ks Q w lv pc' (st) b) : zk_G E l X cc nL ret own Ts R kc ks Q w lv pc (.int x :: st) (if 0 < x then a else b) := by
  obtain ⟨p, e, s, m, args, below, meth, c, w0⟩ := X
  intro r hr hC H locs ls hP hD hS hl
  obtain ⟨hx, hb, hml, hret, hown, hts, hE, hlk⟩ := id hC
  subst hp
  refine lv_if_gt hx hb hdg ht (fun c0 => ?_) (fun c0 => ?_)
  · rw [if_pos c0] at hr
    exact kt c0 r hr hC H locs ls hP hD hS hl
  · rw [if_neg c0] at hr
    exact kf c0 r hr hC H locs ls hP hD hS hl
theorem zk_icmp_gt {x y : Int32} {off : Int} {a b : Option ρ} (hdg : decode cc pc = .ok (.if_icmp .gt off, 3)) (tgt : Nat) (ht : (pc : Int) + off = (tgt : Int)) (pc' : Nat) (hp : pc + 3 = pc') (kt : y < x → zk_G E l X cc nL ret own Ts R kc ks Q w lv tgt (st) a) (kf : ¬ y < x → zk_G E l X cc nL ret own Ts R kc ks Q w lv pc' (st) b) : zk_G E l X cc nL ret own Ts R kc ks Q w lv pc (.int y :: .int x :: st) (if y < x then a else b) := by
  obtain ⟨p, e, s, m, args, below, meth, c, w0⟩ := X
  intro r hr hC H locs ls hP hD hS hl
  obtain ⟨hx, hb, hml, hret, hown, hts, hE, hlk⟩ := id hC
  subst hp
  refine lv_icmp_gt hx hb hdg ht (fun c0 => ?_) (fun c0 => ?_)
  · rw [if_pos c0] at hr
    exact kt c0 r hr hC H locs ls hP hD hS hl
  · rw [if_neg c0] at hr
    exact kf c0 r hr hC H locs ls hP hD hS hl
theorem zk_if_le {x : Int32} {off : Int} {a b : Option ρ} (hdg : decode cc pc = .ok (.ifCond .le off, 3)) (tgt : Nat) (ht : (pc : Int) + off = (tgt : Int)) (pc' : Nat) (hp : pc + 3 = pc') (kt : x ≤ 0 → zk_G E l X cc nL ret own Ts R kc ks Q w lv tgt (st) a) (kf : ¬ x ≤ 0 → zk_G E l X cc nL ret own Ts R kc ks Q w lv pc' (st) b) : zk_G E l X cc nL ret own Ts R kc ks Q w lv pc (.int x :: st) (if x ≤ 0 then a else b) := by
  obtain ⟨p, e, s, m, args, below, meth, c, w0⟩ := X
  intro r hr hC H locs ls hP hD hS hl
  obtain ⟨hx, hb, hml, hret, hown, hts, hE, hlk⟩ := id hC
  subst hp
  refine lv_if_le hx hb hdg ht (fun c0 => ?_) (fun c0 => ?_)
  · rw [if_pos c0] at hr
    exact kt c0 r hr hC H locs ls hP hD hS hl
  · rw [if_neg c0] at hr
    exact kf c0 r hr hC H locs ls hP hD hS hl
theorem zk_icmp_le {x y : Int32} {off : Int} {a b : Option ρ} (hdg : decode cc pc = .ok (.if_icmp .le off, 3)) (tgt : Nat) (ht : (pc : Int) + off = (tgt : Int)) (pc' : Nat) (hp : pc + 3 = pc') (kt : x ≤ y → zk_G E l X cc nL ret own Ts R kc ks Q w lv tgt (st) a) (kf : ¬ x ≤ y → zk_G E l X cc nL ret own Ts R kc ks Q w lv pc' (st) b) : zk_G E l X cc nL ret own Ts R kc ks Q w lv pc (.int y :: .int x :: st) (if x ≤ y then a else b) := by
  obtain ⟨p, e, s, m, args, below, meth, c, w0⟩ := X
  intro r hr hC H locs ls hP hD hS hl
  obtain ⟨hx, hb, hml, hret, hown, hts, hE, hlk⟩ := id hC
  subst hp
  refine lv_icmp_le hx hb hdg ht (fun c0 => ?_) (fun c0 => ?_)
  · rw [if_pos c0] at hr
    exact kt c0 r hr hC H locs ls hP hD hS hl
  · rw [if_neg c0] at hr
    exact kf c0 r hr hC H locs ls hP hD hS hl
theorem zk_ifnull {x : Nat} {off : Int} (hdg : decode cc pc = .ok (.ifnull off, 3)) (pc' : Nat) (hp : pc + 3 = pc') (kk : zk_G E l X cc nL ret own Ts R kc ks Q w lv pc' (st) o) : zk_G E l X cc nL ret own Ts R kc ks Q w lv pc (.ref x :: st) o := by
  obtain ⟨p, e, s, m, args, below, meth, c, w0⟩ := X
  intro r hr hC H locs ls hP hD hS hl
  obtain ⟨hx, hb, hml, hret, hown, hts, hE, hlk⟩ := id hC
  subst hp
  exact lv_ifnull hx hb hdg (kk r hr hC H locs ls hP hD hS hl)
theorem zk_ifnonnull {x : Nat} {off : Int} (hdg : decode cc pc = .ok (.ifnonnull off, 3)) (tgt : Nat) (ht : (pc : Int) + off = (tgt : Int)) (kk : zk_G E l X cc nL ret own Ts R kc ks Q w lv tgt (st) o) : zk_G E l X cc nL ret own Ts R kc ks Q w lv pc (.ref x :: st) o := by
  obtain ⟨p, e, s, m, args, below, meth, c, w0⟩ := X
  intro r hr hC H locs ls hP hD hS hl
  obtain ⟨hx, hb, hml, hret, hown, hts, hE, hlk⟩ := id hC
  exact lv_ifnonnull hx hb hdg ht (kk r hr hC H locs ls hP hD hS hl)
theorem zk_ifnullN {off : Int} (hdg : decode cc pc = .ok (.ifnull off, 3)) (tgt : Nat) (ht : (pc : Int) + off = (tgt : Int)) (kk : zk_G E l X cc nL ret own Ts R kc ks Q w lv tgt (st) o) : zk_G E l X cc nL ret own Ts R kc ks Q w lv pc (.null :: st) o := by
  obtain ⟨p, e, s, m, args, below, meth, c, w0⟩ := X
  intro r hr hC H locs ls hP hD hS hl
  obtain ⟨hx, hb, hml, hret, hown, hts, hE, hlk⟩ := id hC
  exact lv_ifnullN hx hb hdg ht (kk r hr hC H locs ls hP hD hS hl)
theorem zk_ifnonnullN {off : Int} (hdg : decode cc pc = .ok (.ifnonnull off, 3)) (pc' : Nat) (hp : pc + 3 = pc') (kk : zk_G E l X cc nL ret own Ts R kc ks Q w lv pc' (st) o) : zk_G E l X cc nL ret own Ts R kc ks Q w lv pc (.null :: st) o := by
  obtain ⟨p, e, s, m, args, below, meth, c, w0⟩ := X
  intro r hr hC H locs ls hP hD hS hl
  obtain ⟨hx, hb, hml, hret, hown, hts, hE, hlk⟩ := id hC
  subst hp
  exact lv_ifnonnullN hx hb hdg (kk r hr hC H locs ls hP hD hS hl)
theorem zk_tableIn {dflt lo hi : Int} {offs : Array Int} {len : Nat} {x : Int32} {off : Int} (hdg : decode cc pc = .ok (.tableswitch dflt lo hi offs, len)) (tgt : Nat) (h1 : ¬ x.toInt < lo) (h2 : ¬ hi < x.toInt) (ho : offs[(x.toInt - lo).toNat]? = some off) (ht : (pc : Int) + off = (tgt : Int)) (kk : zk_G E l X cc nL ret own Ts R kc ks Q w lv tgt (st) o) : zk_G E l X cc nL ret own Ts R kc ks Q w lv pc (.int x :: st) o := by
  obtain ⟨p, e, s, m, args, below, meth, c, w0⟩ := X
  intro r hr hC H locs ls hP hD hS hl
  obtain ⟨hx, hb, hml, hret, hown, hts, hE, hlk⟩ := id hC
  exact lv_tableIn hx hb hdg h1 h2 ho ht (kk r hr hC H locs ls hP hD hS hl)
theorem zk_tableOut {dflt lo hi : Int} {offs : Array Int} {len : Nat} {x : Int32} (hdg : decode cc pc = .ok (.tableswitch dflt lo hi offs, len)) (tgt : Nat) (h : x.toInt < lo ∨ hi < x.toInt) (ht : (pc : Int) + dflt = (tgt : Int)) (kk : zk_G E l X cc nL ret own Ts R kc ks Q w lv tgt (st) o) : zk_G E l X cc nL ret own Ts R kc ks Q w lv pc (.int x :: st) o := by
  obtain ⟨p, e, s, m, args, below, meth, c, w0⟩ := X
  intro r hr hC H locs ls hP hD hS hl
  obtain ⟨hx, hb, hml, hret, hown, hts, hE, hlk⟩ := id hC
  exact lv_tableOut hx hb hdg h ht (kk r hr hC H locs ls hP hD hS hl)
theorem zk_lookup {dflt : Int} {ps : Array (Int × Int)} {len : Nat} {x : Int32} {off : Int} (hdg : decode cc pc = .ok (.lookupswitch dflt ps, len)) (tgt : Nat) (hp : (ps.toList.zip (ps.toList.drop 1)).all (fun (a, next) => a.1 < next.1) = true) (ho : Op.lookupswitch.offset ps.toList dflt x.toInt = off) (ht : (pc : Int) + off = (tgt : Int)) (kk : zk_G E l X cc nL ret own Ts R kc ks Q w lv tgt (st) o) : zk_G E l X cc nL ret own Ts R kc ks Q w lv pc (.int x :: st) o := by
  obtain ⟨p, e, s, m, args, below, meth, c, w0⟩ := X
  intro r hr hC H locs ls hP hD hS hl
  obtain ⟨hx, hb, hml, hret, hown, hts, hE, hlk⟩ := id hC
  exact lv_lookup hx hb hdg hp ho ht (kk r hr hC H locs ls hP hD hS hl)
theorem zk_if {a b : Option ρ} {c : Prop} [Decidable c] (kt : c → zk_G E l X cc nL ret own Ts R kc ks Q w lv pc (st) a) (kf : ¬ c → zk_G E l X cc nL ret own Ts R kc ks Q w lv pc (st) b) : zk_G E l X cc nL ret own Ts R kc ks Q w lv pc (st) (if c then a else b) := by
  by_cases h : c
  · rw [if_pos h]
    exact kt h
  · rw [if_neg h]
    exact kf h
theorem zk_get {C : String} {T : u_T} {N ci index : Nat} {a : Nat} {fs : List Value} {v : Value} (hdg : decode cc pc = .ok (.getfield index, 3)) (q0 : Nat) (he : w[q0]? = some (a, .inr (ci, fs))) (hc : vwCl[ci]? = some (C, T, N)) (hin : ∀ x ∈ u_ws C T N, x ∈ Ts) (k : Nat) (hk : k < N) (hlink : Cond.fieldLink own index (T k).1 (T k).2.1 (T k).2.2.1 ∈ Ts) (hv : fs[k]? = some v) (pc' : Nat) (hp : pc + 3 = pc') (kk : zk_G E l X cc nL ret own Ts R kc ks Q w lv pc' (v :: st) o) : zk_G E l X cc nL ret own Ts R kc ks Q w lv pc (.ref a :: st) o := by
  obtain ⟨p, e, s, m, args, below, meth, c, w0⟩ := X
  intro r hr hC H locs ls hP hD hS hl
  obtain ⟨hx, hb, hml, hret, hown, hts, hE, hlk⟩ := id hC
  subst hp
  exact va_get (D := E.1) (ci := ci) (C := C) (T := T) (N := N) (ref := (T k).1) hx hb hts hin hown hE.1 hP q0 he hc k hk (hts _ hlink) (fun _ h9 => h9) hv hdg (kk r hr hC H locs ls hP hD hS hl)
theorem zk_getN {C : String} {T : u_T} {N ci index : Nat} {a : Nat} {fs : List Value} {v : Value} (hdg : decode cc pc = .ok (.getfield index, 3)) (q0 : Nat) (he : w[q0]? = some (a, .inr (ci, fs))) (hc : vwCl[ci]? = some (C, T, N)) (hin : ∀ x ∈ u_ws C T N, x ∈ Ts) (k : Nat) (hk : k < N) (hlink : (own, index, (T k).1, (T k).2.1, (T k).2.2.1) ∈ zk_NF) (hv : fs[k]? = some v) (pc' : Nat) (hp : pc + 3 = pc') (kk : zk_G E l X cc nL ret own Ts R kc ks Q w lv pc' (v :: st) o) : zk_G E l X cc nL ret own Ts R kc ks Q w lv pc (.ref a :: st) o := by
  obtain ⟨p, e, s, m, args, below, meth, c, w0⟩ := X
  intro r hr hC H locs ls hP hD hS hl
  obtain ⟨hx, hb, hml, hret, hown, hts, hE, hlk⟩ := id hC
  subst hp
  exact va_getN (D := E.1) (ci := ci) (C := C) (T := T) (N := N) (ref := (T k).1) (host := RX9) hx hb hts hin hown hE.1 hP q0 he hc k hk (va_Nw.use rfl (hE.2.1 _ hlink)) (fun _ h9 => h9) hv hdg (kk r hr hC H locs ls hP hD hS hl)
theorem zk_put_ {C : String} {T : u_T} {N ci index : Nat} {a : Nat} {fs : List Value} (ty0 : Nat → FieldType) {ty : FieldType} {v : Value} (w1 : va_W) (hdg : decode cc pc = .ok (.putfield index, 3)) (q0 : Nat) (he : w[q0]? = some (a, .inr (ci, fs))) (hc : vwCl[ci]? = some (C, T, N)) (hin : ∀ x ∈ u_ws C T N, x ∈ Ts) (hty : ∀ k, k < N → parseFieldDescriptor (T k).2.2.1 = some (ty0 k)) (hnm : ∀ a, a < N → ∀ b, b < N → a ≠ b → (T a).2.1 ≠ (T b).2.1) (k : Nat) (hk : k < N) (hlink : Cond.fieldLink own index (T k).1 (T k).2.1 (T k).2.2.1 ∈ Ts) (hfin : (T k).2.2.2 = false) (hd : parseFieldDescriptor (T k).2.2.1 = some ty) (hn : narrow ty v = v) (hfit : fits ty v = true) (hln : k < fs.length) (hw : w.set q0 (a, .inr (ci, fs.set k v)) = w1) (pc' : Nat) (hp : pc + 3 = pc') (kk : zk_G E l X cc nL ret own Ts R kc ks Q w1 lv pc' (st) o) : zk_G E l X cc nL ret own Ts R kc ks Q w lv pc (v :: .ref a :: st) o := by
  obtain ⟨p, e, s, m, args, below, meth, c, w0⟩ := X
  intro r hr hC H locs ls hP hD hS hl
  obtain ⟨hx, hb, hml, hret, hown, hts, hE, hlk⟩ := id hC
  subst hp
  subst hw
  exact va_put (D := E.1) (ci := ci) (C := C) (T := T) (N := N) (ref := (T k).1) hx hb hts hin ty0 hty hnm hown hE.1 hP hD hS q0 he hc k hk (hts _ hlink) (fun _ h9 => h9) hfin hd hn hfit hln hdg (fun H1 locs1 hP1 hD1 hS1 => kk r hr hC H1 locs1 ls hP1 hD1 hS1 hl)
theorem zk_putN {C : String} {T : u_T} {N ci index : Nat} {a : Nat} {fs : List Value} (ty0 : Nat → FieldType) {ty : FieldType} {v : Value} (w1 : va_W) (hdg : decode cc pc = .ok (.putfield index, 3)) (q0 : Nat) (he : w[q0]? = some (a, .inr (ci, fs))) (hc : vwCl[ci]? = some (C, T, N)) (hin : ∀ x ∈ u_ws C T N, x ∈ Ts) (hty : ∀ k, k < N → parseFieldDescriptor (T k).2.2.1 = some (ty0 k)) (hnm : ∀ a, a < N → ∀ b, b < N → a ≠ b → (T a).2.1 ≠ (T b).2.1) (k : Nat) (hk : k < N) (hlink : (own, index, (T k).1, (T k).2.1, (T k).2.2.1) ∈ zk_NF) (hfin : (T k).2.2.2 = false) (hd : parseFieldDescriptor (T k).2.2.1 = some ty) (hn : narrow ty v = v) (hfit : fits ty v = true) (hln : k < fs.length) (hw : w.set q0 (a, .inr (ci, fs.set k v)) = w1) (pc' : Nat) (hp : pc + 3 = pc') (kk : zk_G E l X cc nL ret own Ts R kc ks Q w1 lv pc' (st) o) : zk_G E l X cc nL ret own Ts R kc ks Q w lv pc (v :: .ref a :: st) o := by
  obtain ⟨p, e, s, m, args, below, meth, c, w0⟩ := X
  intro r hr hC H locs ls hP hD hS hl
  obtain ⟨hx, hb, hml, hret, hown, hts, hE, hlk⟩ := id hC
  subst hp
  subst hw
  exact va_putN (D := E.1) (ci := ci) (C := C) (T := T) (N := N) (ref := (T k).1) (host := RX9) hx hb hts hin ty0 hty hnm hown hE.1 hP hD hS q0 he hc k hk (va_Nw.use rfl (hE.2.1 _ hlink)) (fun _ h9 => h9) hfin hd hn hfit hln hdg (fun H1 locs1 hP1 hD1 hS1 => kk r hr hC H1 locs1 ls hP1 hD1 hS1 hl)
theorem zk_putF {C : String} {T : u_T} {N ci index : Nat} {a : Nat} {fs : List Value} (ty0 : Nat → FieldType) {ty : FieldType} {v : Value} (w1 : va_W) (hdg : decode cc pc = .ok (.putfield index, 3)) (q0 : Nat) (he : w[q0]? = some (a, .inr (ci, fs))) (hc : vwCl[ci]? = some (C, T, N)) (hin : ∀ x ∈ u_ws C T N, x ∈ Ts) (hty : ∀ k, k < N → parseFieldDescriptor (T k).2.2.1 = some (ty0 k)) (hnm : ∀ a, a < N → ∀ b, b < N → a ≠ b → (T a).2.1 ≠ (T b).2.1) (k : Nat) (hk : k < N) (hlink : Cond.fieldLink own index (T k).1 (T k).2.1 (T k).2.2.1 ∈ Ts) (hfin : (T k).2.2.2 = true) (hinit : X.2.2.2.2.2.2.1.name = "<init>") (hdecl : (T k).1 = own) (hd : parseFieldDescriptor (T k).2.2.1 = some ty) (hn : narrow ty v = v) (hfit : fits ty v = true) (hln : k < fs.length) (hw : w.set q0 (a, .inr (ci, fs.set k v)) = w1) (pc' : Nat) (hp : pc + 3 = pc') (kk : zk_G E l X cc nL ret own Ts R kc ks Q w1 lv pc' (st) o) : zk_G E l X cc nL ret own Ts R kc ks Q w lv pc (v :: .ref a :: st) o := by
  obtain ⟨p, e, s, m, args, below, meth, c, w0⟩ := X
  intro r hr hC H locs ls hP hD hS hl
  obtain ⟨hx, hb, hml, hret, hown, hts, hE, hlk⟩ := id hC
  subst hp
  subst hw
  exact va_putF (D := E.1) (ci := ci) (C := C) (T := T) (N := N) (ref := (T k).1) hx hb hts hin ty0 hty hnm hown hE.1 hP hD hS q0 he hc k hk (hts _ hlink) (fun _ h9 => h9) hfin hinit hdecl hd hn hfit hln hdg (fun H1 locs1 hP1 hD1 hS1 => kk r hr hC H1 locs1 ls hP1 hD1 hS1 hl)
theorem zk_iald {a n : Nat} {f : Nat → Int32} {i : Int32} (hdg : decode cc pc = .ok (.iaload, 1)) (q0 : Nat) (ha : w[q0]? = some (a, .inl (zk_ci E, n, .inl f))) (pc' : Nat) (hp : pc + 1 = pc') (kk : zk_G E l X cc nL ret own Ts R kc ks Q w lv pc' (.int (f i.toNatClampNeg) :: st) o) : zk_G E l X cc nL ret own Ts R kc ks Q w lv pc (.int i :: .ref a :: st) (zk_ck i n o) := by
  obtain ⟨p, e, s, m, args, below, meth, c, w0⟩ := X
  intro r hr hC H locs ls hP hD hS hl
  obtain ⟨hx, hb, hml, hret, hown, hts, hE, hlk⟩ := id hC
  obtain ⟨hin, hr⟩ := zk_ck_e hr
  subst hp
  exact va_iald hx hb hE.1 hP q0 0 ha rfl hin hdg (kk r hr hC H locs ls hP hD hS hl)
theorem zk_zald {a n : Nat} {f : Nat → Int32} {i : Int32} (hdg : decode cc pc = .ok (.baload, 1)) (q0 : Nat) (ha : w[q0]? = some (a, .inl (zk_cz E, n, .inl f))) (pc' : Nat) (hp : pc + 1 = pc') (kk : zk_G E l X cc nL ret own Ts R kc ks Q w lv pc' (.int (f i.toNatClampNeg) :: st) o) : zk_G E l X cc nL ret own Ts R kc ks Q w lv pc (.int i :: .ref a :: st) (zk_ck i n o) := by
  obtain ⟨p, e, s, m, args, below, meth, c, w0⟩ := X
  intro r hr hC H locs ls hP hD hS hl
  obtain ⟨hx, hb, hml, hret, hown, hts, hE, hlk⟩ := id hC
  obtain ⟨hin, hr⟩ := zk_ck_e hr
  subst hp
  exact va_zald hx hb hE.1 hP q0 1 ha rfl hin hdg (kk r hr hC H locs ls hP hD hS hl)
theorem zk_cald {a n : Nat} {f : Nat → Int32} {i : Int32} (hdg : decode cc pc = .ok (.caload, 1)) (q0 : Nat) (ha : w[q0]? = some (a, .inl (zk_cc E, n, .inl f))) (pc' : Nat) (hp : pc + 1 = pc') (kk : zk_G E l X cc nL ret own Ts R kc ks Q w lv pc' (.int (f i.toNatClampNeg) :: st) o) : zk_G E l X cc nL ret own Ts R kc ks Q w lv pc (.int i :: .ref a :: st) (zk_ck i n o) := by
  obtain ⟨p, e, s, m, args, below, meth, c, w0⟩ := X
  intro r hr hC H locs ls hP hD hS hl
  obtain ⟨hx, hb, hml, hret, hown, hts, hE, hlk⟩ := id hC
  obtain ⟨hin, hr⟩ := zk_ck_e hr
  subst hp
  exact va_cald hx hb hE.1 hP q0 2 ha rfl hin hdg (kk r hr hC H locs ls hP hD hS hl)
theorem zk_iast {a n : Nat} {f : Nat → Int32} {i x : Int32} (w1 : va_W) (hdg : decode cc pc = .ok (.iastore, 1)) (q0 : Nat) (ha : w[q0]? = some (a, .inl (zk_ci E, n, .inl f))) (hw : w.set q0 (a, .inl (zk_ci E, n, .inl (upd f i.toNatClampNeg x))) = w1) (pc' : Nat) (hp : pc + 1 = pc') (kk : zk_G E l X cc nL ret own Ts R kc ks Q w1 lv pc' (st) o) : zk_G E l X cc nL ret own Ts R kc ks Q w lv pc (.int x :: .int i :: .ref a :: st) (zk_ck i n o) := by
  obtain ⟨p, e, s, m, args, below, meth, c, w0⟩ := X
  intro r hr hC H locs ls hP hD hS hl
  obtain ⟨hx, hb, hml, hret, hown, hts, hE, hlk⟩ := id hC
  obtain ⟨hin, hr⟩ := zk_ck_e hr
  subst hp
  subst hw
  exact va_iast hx hb hE.1 hP hD hS q0 0 ha rfl hin hdg (fun H1 locs1 hP1 hD1 hS1 => kk r hr hC H1 locs1 ls hP1 hD1 hS1 hl)
theorem zk_zast {a n : Nat} {f : Nat → Int32} {i x : Int32} (w1 : va_W) (hdg : decode cc pc = .ok (.bastore, 1)) (q0 : Nat) (ha : w[q0]? = some (a, .inl (zk_cz E, n, .inl f))) (hw : w.set q0 (a, .inl (zk_cz E, n, .inl (upd f i.toNatClampNeg (vp_nar .boolean x)))) = w1) (pc' : Nat) (hp : pc + 1 = pc') (kk : zk_G E l X cc nL ret own Ts R kc ks Q w1 lv pc' (st) o) : zk_G E l X cc nL ret own Ts R kc ks Q w lv pc (.int x :: .int i :: .ref a :: st) (zk_ck i n o) := by
  obtain ⟨p, e, s, m, args, below, meth, c, w0⟩ := X
  intro r hr hC H locs ls hP hD hS hl
  obtain ⟨hx, hb, hml, hret, hown, hts, hE, hlk⟩ := id hC
  obtain ⟨hin, hr⟩ := zk_ck_e hr
  subst hp
  subst hw
  exact va_zast hx hb hE.1 hP hD hS q0 1 ha rfl hin hdg (fun H1 locs1 hP1 hD1 hS1 => kk r hr hC H1 locs1 ls hP1 hD1 hS1 hl)
theorem zk_cast {a n : Nat} {f : Nat → Int32} {i x : Int32} (w1 : va_W) (hdg : decode cc pc = .ok (.castore, 1)) (q0 : Nat) (ha : w[q0]? = some (a, .inl (zk_cc E, n, .inl f))) (hw : w.set q0 (a, .inl (zk_cc E, n, .inl (upd f i.toNatClampNeg (vp_nar .char x)))) = w1) (pc' : Nat) (hp : pc + 1 = pc') (kk : zk_G E l X cc nL ret own Ts R kc ks Q w1 lv pc' (st) o) : zk_G E l X cc nL ret own Ts R kc ks Q w lv pc (.int x :: .int i :: .ref a :: st) (zk_ck i n o) := by
  obtain ⟨p, e, s, m, args, below, meth, c, w0⟩ := X
  intro r hr hC H locs ls hP hD hS hl
  obtain ⟨hx, hb, hml, hret, hown, hts, hE, hlk⟩ := id hC
  obtain ⟨hin, hr⟩ := zk_ck_e hr
  subst hp
  subst hw
  exact va_cast hx hb hE.1 hP hD hS q0 2 ha rfl hin hdg (fun H1 locs1 hP1 hD1 hS1 => kk r hr hC H1 locs1 ls hP1 hD1 hS1 hl)
theorem zk_aald {a n : Nat} {f : Nat → Option Nat} {i : Int32} {cA : ClassId} {CA : String} (t0 : Nat) (hdg : decode cc pc = .ok (.aaload, 1)) (q0 : Nat) (ha : w[q0]? = some (a, .inl (cA, n, .inr (.inr (.inr (.inr f)))))) (ht : (zk_T E)[t0]? = some (cA, .object CA)) (pc' : Nat) (hp : pc + 1 = pc') (kk : vp_in i n → zk_G E l X cc nL ret own Ts R kc ks Q w lv pc' (va_rf (f i.toNatClampNeg) :: st) o) : zk_G E l X cc nL ret own Ts R kc ks Q w lv pc (.int i :: .ref a :: st) (zk_ck i n o) := by
  obtain ⟨p, e, s, m, args, below, meth, c, w0⟩ := X
  intro r hr hC H locs ls hP hD hS hl
  obtain ⟨hx, hb, hml, hret, hown, hts, hE, hlk⟩ := id hC
  obtain ⟨hin, hr⟩ := zk_ck_e hr
  subst hp
  exact va_aldq hx hb hE.1 hP q0 t0 ha ht hin hdg (kk hin r hr hC H locs ls hP hD hS hl)
theorem zk_alen {a : Nat} {cA : ClassId} {x : vp_A} {ty : FieldType} (v : Int32) (t0 : Nat) (hdg : decode cc pc = .ok (.arraylength, 1)) (q0 : Nat) (ha : w[q0]? = some (a, .inl (cA, x))) (ht : (zk_T E)[t0]? = some (cA, ty)) (hv : Int32.ofNat x.1 = v) (pc' : Nat) (hp : pc + 1 = pc') (kk : zk_G E l X cc nL ret own Ts R kc ks Q w lv pc' (.int v :: st) o) : zk_G E l X cc nL ret own Ts R kc ks Q w lv pc (.ref a :: st) o := by
  obtain ⟨p, e, s, m, args, below, meth, c, w0⟩ := X
  intro r hr hC H locs ls hP hD hS hl
  obtain ⟨hx, hb, hml, hret, hown, hts, hE, hlk⟩ := id hC
  subst hp
  exact va_alen hx hb hE.1 hP q0 t0 ha ht hv hdg (kk r hr hC H locs ls hP hD hS hl)
theorem zk_mmin {x y : Int32} {index : Nat} (hdg : decode cc pc = .ok (.invokestatic index, 3)) (h1 : Cond.methodLink own index Lib.Math.min.name ∈ Ts) (h2 : Cond.static Lib.Math.min.name ∈ Ts) (h3 : Cond.initialized "java/lang/Math" ∈ Ts) (h4 : Cond.code Lib.Math.min.name Lib.Math.min.code 2 (some .int) ∈ Ts) (h5 : 1 ≤ R.frames) (h6 : (st.map fun v => v.category).sum + 13 ≤ R.locals) (h7 : kc ≤ R.cells) (h8 : ks ≤ R.slots) (pc' : Nat) (hp : pc + 3 = pc') (kk : zk_G E l X cc nL ret own Ts R kc ks Q w lv pc' (.int (if y < x then y else x) :: st) o) : zk_G E l X cc nL ret own Ts R kc ks Q w lv pc (.int y :: .int x :: st) o := by
  obtain ⟨p, e, s, m, args, below, meth, c, w0⟩ := X
  intro r hr hC H locs ls hP hD hS hl
  obtain ⟨hx, hb, hml, hret, hown, hts, hE, hlk⟩ := id hC
  subst hp
  exact va_mmin hx hb (hml.trans hl.1.symm) hown (hts _ h1) (hts _ h2) (hts _ h3) (hts _ h4) h5 h6 h7 h8 hdg (kk r hr hC H locs ls hP hD hS hl)
theorem zk_mmax {x y : Int32} {index : Nat} (hdg : decode cc pc = .ok (.invokestatic index, 3)) (h1 : Cond.methodLink own index Lib.Math.max.name ∈ Ts) (h2 : Cond.static Lib.Math.max.name ∈ Ts) (h3 : Cond.initialized "java/lang/Math" ∈ Ts) (h4 : Cond.code Lib.Math.max.name Lib.Math.max.code 2 (some .int) ∈ Ts) (h5 : 1 ≤ R.frames) (h6 : (st.map fun v => v.category).sum + 13 ≤ R.locals) (h7 : kc ≤ R.cells) (h8 : ks ≤ R.slots) (pc' : Nat) (hp : pc + 3 = pc') (kk : zk_G E l X cc nL ret own Ts R kc ks Q w lv pc' (.int (if x < y then y else x) :: st) o) : zk_G E l X cc nL ret own Ts R kc ks Q w lv pc (.int y :: .int x :: st) o := by
  obtain ⟨p, e, s, m, args, below, meth, c, w0⟩ := X
  intro r hr hC H locs ls hP hD hS hl
  obtain ⟨hx, hb, hml, hret, hown, hts, hE, hlk⟩ := id hC
  subst hp
  exact va_mmax hx hb (hml.trans hl.1.symm) hown (hts _ h1) (hts _ h2) (hts _ h3) (hts _ h4) h5 h6 h7 h8 hdg (kk r hr hC H locs ls hP hD hS hl)
theorem zk_acopy {index a0 a1 n0 n1 : Nat} {f g : Nat → Int32} {sp dp n : Int32} (N' : Nat) (w1 : va_W) (hdg : decode cc pc = .ok (.invokestatic index, 3)) (h1 : Cond.methodLink own index arraycopyName ∈ Ts) (h2 : Cond.native arraycopyName ∈ Ts) (h3 : Cond.static arraycopyName ∈ Ts) (h4 : Cond.initialized "java/lang/System" ∈ Ts) (q0 q1 : Nat) (ha0 : w[q0]? = some (a0, .inl (zk_ci E, n0, .inl f))) (ha1 : w[q1]? = some (a1, .inl (zk_ci E, n1, .inl g))) (hsp : sp = 0) (hdp : dp = 0) (hn : n = Int32.ofNat N') (hN : N' < 2 ^ 31) (hN0 : N' ≤ n0) (hN1 : N' ≤ n1) (h5 : 1 ≤ R.frames) (h6 : (st.map fun v => v.category).sum + (nativeFrameWords "java/lang/System" "arraycopy" 5 + 11) ≤ R.locals) (hw : w.set q1 (a1, .inl (zk_ci E, n1, .inl (va_cpy f g 0 0 N'))) = w1) (pc' : Nat) (hp : pc + 3 = pc') (kk : zk_G E l X cc nL ret own Ts R kc ks Q w1 lv pc' (st) o) : zk_G E l X cc nL ret own Ts R kc ks Q w lv pc (.int n :: .int dp :: .ref a1 :: .int sp :: .ref a0 :: st) o := by
  obtain ⟨p, e, s, m, args, below, meth, c, w0⟩ := X
  intro r hr hC H locs ls hP hD hS hl
  obtain ⟨hx, hb, hml, hret, hown, hts, hE, hlk⟩ := id hC
  subst hp
  subst hw
  subst hsp
  subst hdp
  have e0 : (0 : Int32).toNatClampNeg = 0 := by decide
  have eN : n.toNatClampNeg = N' := by rw [hn]; exact nI_clamp hN
  have hn0 : ¬ n < 0 := by rw [hn]; exact nI_pos hN
  refine va_copyi hx hb (hml.trans hl.1.symm) hown (hts _ h1) (hts _ h2) (hts _ h3) (hts _ h4) hE.1 hP hD hS q0 q1 0 0 ha0 ha1 rfl rfl rfl (by decide) (by decide) hn0 (by rw [e0, eN]; omega) (by rw [e0, eN]; omega) (fun _ _ => rfl) h5 h6 hdg (fun H1 locs1 hP1 hD1 hS1 => ?_)
  rw [e0, eN] at hP1 hD1
  exact kk r hr hC H1 locs1 ls hP1 hD1 hS1 hl
theorem zk_bzg {v : Int32} (kk : v = 0 ∨ v = 1 → zk_G E l X cc nL ret own Ts R kc ks Q w lv pc (st) o) : zk_G E l X cc nL ret own Ts R kc ks Q w lv pc (st) (zk_bz v o) := by
  obtain ⟨p, e, s, m, args, below, meth, c, w0⟩ := X
  intro r hr hC H locs ls hP hD hS hl
  obtain ⟨hx, hb, hml, hret, hown, hts, hE, hlk⟩ := id hC
  obtain ⟨hz, hr⟩ := zk_bz_e hr
  exact kk hz r hr hC H locs ls hP hD hS hl
theorem zk_ldcS {index : Nat} {tx : String} (hdg : decode cc pc = .ok (.ldc index, 2)) (ho : own = RX4) (i : Nat) (hi : zk_lit[i]? = some (index, tx)) (pc' : Nat) (hp : pc + 2 = pc') (kk : zk_G E l X cc nL ret own Ts R kc ks Q w lv pc' (.ref (E.2.2.1 i) :: st) o) : zk_G E l X cc nL ret own Ts R kc ks Q w lv pc (st) o := by
  obtain ⟨p, e, s, m, args, below, meth, c, w0⟩ := X
  intro r hr hC H locs ls hP hD hS hl
  obtain ⟨hx, hb, hml, hret, hown, hts, hE, hlk⟩ := id hC
  subst hp
  subst ho
  exact va_ldcS hx hb hown (hE.2.2.2.2.1 i _ hi) hdg (kk r hr hC H locs ls hP hD hS hl)
theorem zk_lkOut {dflt : Int} {ps : List (Int × Int)} (x : Int32) (h : Op.lookupswitch.offset ps dflt x.toInt = dflt) : Op.lookupswitch.offset ps dflt x.toInt = dflt := h
/-- locals: another order, fewer -/
theorem zk_lv (ks9 : List Nat) {lv' : List (Nat × Value)} (h : lv_pick lv ks9 = lv') (kk : zk_G E l X cc nL ret own Ts R kc ks Q w lv' pc (st) o) : zk_G E l X cc nL ret own Ts R kc ks Q w lv pc (st) o := by
  obtain ⟨p, e, s, m, args, below, meth, c, w0⟩ := X
  intro r hr hC H locs ls hP hD hS hl
  obtain ⟨hx, hb, hml, hret, hown, hts, hE, hlk⟩ := id hC
  exact kk r hr hC H locs ls hP hD hS (lv_sub hl ks9 h)
theorem zk_eqv {w1 : va_W} {lv1 : List (Nat × Value)} {st1 : List Value} {o1 : Option ρ} (hw : w = w1) (hl : lv = lv1) (hs : st = st1) (ho : o = o1) (kk : zk_G E l X cc nL ret own Ts R kc ks Q w1 lv1 pc st1 o1) : zk_G E l X cc nL ret own Ts R kc ks Q w lv pc (st) o := by
  subst hw hl hs ho
  exact kk
/-- a value that gets a name -/
def zk_let {α β : Type} (x : α) (f : α → Option β) : Option β := f x
theorem zk_nm {x : Int32} {f : Int32 → Option ρ} (kk : ∀ y : Int32, zk_G E l X cc nL ret own Ts R kc ks Q w lv pc (.int y :: st) (f y)) : zk_G E l X cc nL ret own Ts R kc ks Q w lv pc (.int x :: st) (zk_let x f) := kk x
theorem zk_nmw {α : Type} (wf : α → va_W) {f : α → Option ρ} (x : α) (hw : w = wf x) (kk : ∀ y : α, zk_G E l X cc nL ret own Ts R kc ks Q (wf y) lv pc (st) (f y)) : zk_G E l X cc nL ret own Ts R kc ks Q w lv pc (st) (zk_let x f) := by
  subst hw
  exact kk x
/-! loops: a function of what comes behind the loop's next turn -/
def zk_fx {S α : Type} (F : (S → Option α) → S → Option α) : Nat → S → Option α
  | 0, _ => none
  | n + 1, s => F (zk_fx F n) s
theorem zk_fx_s {S α : Type} (F : (S → Option α) → S → Option α) (n : Nat) (s : S) : zk_fx F (n + 1) s = F (zk_fx F n) s := rfl
theorem zk_none {st : List Value} : zk_G E l X cc nL ret own Ts R kc ks Q w lv pc st none := by
  obtain ⟨p, e, s, m, args, below, meth, c, w0⟩ := X
  intro r hr
  cases hr
theorem zk_loop {S : Type} {F : (S → Option ρ) → S → Option ρ} {wS : S → va_W} {lS : S → List (Nat × Value)} {sS : S → List Value} (hF : ∀ k : S → Option ρ, (∀ s, zk_G E l X cc nL ret own Ts R kc ks Q (wS s) (lS s) pc (sS s) (k s)) → ∀ s, zk_G E l X cc nL ret own Ts R kc ks Q (wS s) (lS s) pc (sS s) (F k s)) : ∀ (n : Nat) (s : S), zk_G E l X cc nL ret own Ts R kc ks Q (wS s) (lS s) pc (sS s) (zk_fx F n s)
  | 0, _ => zk_none
  | n + 1, s => hF (zk_fx F n) (zk_loop hF n) s
/-! ends and heads -/
def zk_Q (E : zk_Env) (X : zk_X) (rv : ρ → Option Value) (w' : ρ → va_W) : ρ → State → Prop := match X with
  | (_, _, s, _, args, below, _, _, w0) => fun r => MQ below (zk_Qc E w0 s.heap.size (rv r) (w' r)) args s 0 0 (va_A w0 s.heap.size)
theorem zk_iret {rv : ρ → Option Value} {w' : ρ → va_W} {r0 : ρ} {v : Int32} (hQ : Q = zk_Q E X rv w') (hdg : decode cc pc = .ok (.ireturn, 1)) (hv : rv r0 = some (.int v)) (hw : w = w' r0) : zk_G E l X cc nL (some .int) own Ts R 0 0 Q w lv pc [.int v] (some r0) := by
  obtain ⟨p, e, s, m, args, below, meth, c, w0⟩ := X
  intro r hr hC H locs ls hP hD hS hl
  obtain ⟨hx, hb, hml, hret, hown, hts, hE, hlk⟩ := id hC
  cases hr
  subst hQ
  exact W.iret (v := v) hx hb hret (fun t ht hW => ⟨⟨by rw [hv], by rw [ht, ← hw]; exact hP, by rw [← hw]; exact hD⟩, hS.F ht⟩) hS.2.2 hdg hlk
theorem zk_zret {rv : ρ → Option Value} {w' : ρ → va_W} {r0 : ρ} {v : Int32} (hQ : Q = zk_Q E X rv w') (hdg : decode cc pc = .ok (.ireturn, 1)) (hv : rv r0 = some (.int v)) (hw : w = w' r0) : zk_G E l X cc nL (some .boolean) own Ts R 0 0 Q w lv pc [.int v] (zk_bz v (some r0)) := by
  obtain ⟨p, e, s, m, args, below, meth, c, w0⟩ := X
  intro r hr hC H locs ls hP hD hS hl
  obtain ⟨hx, hb, hml, hret, hown, hts, hE, hlk⟩ := id hC
  obtain ⟨hz, hr⟩ := zk_bz_e hr
  cases hr
  subst hQ
  exact W.zret (v := v) hx hb hret (by rcases hz with rfl | rfl <;> rfl) (fun t ht hW => ⟨⟨by rw [hv], by rw [ht, ← hw]; exact hP, by rw [← hw]; exact hD⟩, hS.F ht⟩) hS.2.2 hdg hlk
theorem zk_zretL {rv : ρ → Option Value} {w' : ρ → va_W} {r0 : ρ} {v : Int32} (hQ : Q = zk_Q E X rv w') (hdg : decode cc pc = .ok (.ireturn, 1)) (hz : v = 0 ∨ v = 1) (hv : rv r0 = some (.int v)) (hw : w = w' r0) : zk_G E l X cc nL (some .boolean) own Ts R 0 0 Q w lv pc [.int v] (some r0) := by
  obtain ⟨p, e, s, m, args, below, meth, c, w0⟩ := X
  intro r hr hC H locs ls hP hD hS hl
  obtain ⟨hx, hb, hml, hret, hown, hts, hE, hlk⟩ := id hC
  cases hr
  subst hQ
  exact W.zret (v := v) hx hb hret (by rcases hz with rfl | rfl <;> rfl) (fun t ht hW => ⟨⟨by rw [hv], by rw [ht, ← hw]; exact hP, by rw [← hw]; exact hD⟩, hS.F ht⟩) hS.2.2 hdg hlk
theorem zk_vret {rv : ρ → Option Value} {w' : ρ → va_W} {r0 : ρ} (hQ : Q = zk_Q E X rv w') (hdg : decode cc pc = .ok (.return_, 1)) (hv : rv r0 = none) (hw : w = w' r0) : zk_G E l X cc nL none own Ts R 0 0 Q w lv pc [] (some r0) := by
  obtain ⟨p, e, s, m, args, below, meth, c, w0⟩ := X
  intro r hr hC H locs ls hP hD hS hl
  obtain ⟨hx, hb, hml, hret, hown, hts, hE, hlk⟩ := id hC
  cases hr
  subst hQ
  exact W.vret hx hb hret (fun t ht hW => ⟨⟨by rw [hv], by rw [ht, ← hw]; exact hP, by rw [← hw]; exact hD⟩, hS.F ht⟩) hS.2.2 hdg hlk
theorem zk_aret {rv : ρ → Option Value} {w' : ρ → va_W} {r0 : ρ} {v : Option Nat} {C : String} (hQ : Q = zk_Q E X rv w') (hdg : decode cc pc = .ok (.areturn, 1)) (hv : rv r0 = some (va_rf v)) (hw : w = w' r0) : zk_G E l X cc nL (some (.object C)) own Ts R 0 0 Q w lv pc [va_rf v] (some r0) := by
  obtain ⟨p, e, s, m, args, below, meth, c, w0⟩ := X
  intro r hr hC H locs ls hP hD hS hl
  obtain ⟨hx, hb, hml, hret, hown, hts, hE, hlk⟩ := id hC
  cases hr
  subst hQ
  exact W.aret (v := va_rf v) hx hb hret (Or.inl ⟨_, rfl⟩) (by cases v with | none => exact Or.inl rfl | some a => exact Or.inr ⟨a, rfl⟩) (fun t ht hW => ⟨⟨by rw [hv], by rw [ht, ← hw]; exact hP, by rw [← hw]; exact hD⟩, hS.F ht⟩) hS.2.2 hdg hlk
end ZKR
/-- a contract from its walk -/
theorem zk_M {ρ : Type} {E : zk_Env} {l : Launch} {y : MethodName} {ws ws' : List Cond} {rm : Room} {av : List Value} {w : va_W} {o : Option ρ} {rv : ρ → Option Value} {w' : ρ → va_W} {cc : ByteArray} {nL : Nat} {ret : Option FieldType} (hy : plainName y.cls = true) (hw : ws = Cond.code y cc nL ret :: ws') (hlen : (lg_sl av).length ≤ nL)
    (body : ∀ (X : zk_X) (Q : ρ → State → Prop), Q = zk_Q E X rv w' → zk_G E l X cc nL ret y.cls ws rm 0 0 Q w (lv_args 0 av) 0 [] o) : zk_Mc E l y ws rm av w o rv w' := by
  intro r hr sz
  refine Met.ofW (cc := cc) (maxL := nL) (ret := ret) hy hw ?_
  intro p e s m args below meth c s₁ B hml hv
  obtain ⟨rfl, hsz, hP, hE, hD⟩ := hv
  subst hsz
  rw [lg_entry_eq]
  exact body (p, e, s, m, av.toArray, below, meth, c, w) _ rfl r hr ⟨B.exec, B.bytes, hml, B.returns, findClass_of_methodNamed B.named, atoms_spec (ws := ws) B.pre, hE, B.notSynchronized⟩ s.heap [] _ hP hD.self va_S.rf (lv_entry av hlen)
/-! calls -/
section ZKC
variable {ρ ρ' : Type} {E : zk_Env} {l : Launch} {X : zk_X} {cc : ByteArray} {nL : Nat} {ret : Option FieldType} {own : String} {Ts : List Cond} {R : Room} {kc ks : Nat} {Q : ρ → State → Prop} {w : va_W} {lv : List (Nat × Value)} {pc : Nat} {st : List Value}
theorem zk_bind_e {α β : Type} {o : Option α} {f : α → Option β} {r : β} (h : o.bind f = some r) : ∃ a, o = some a ∧ f a = some r := by
  cases o with
  | none => cases h
  | some a => exact ⟨a, rfl, h⟩
theorem zk_callV {y : MethodName} {bytes : ByteArray} {maxL : Nat} {ret' : Option FieldType} {ws ws' : List Cond} {rm : Room} {b : Nat} {As : List Value} {wc : va_W} {o : Option ρ'} {rv : ρ' → Option Value} {wc' : ρ' → va_W} {C : String} {T : u_T} {N ci index : Nat} {fs : List Value} {kf : ρ' → Option ρ} {sk : List Value}
    (hM : zk_Mc E l y ws rm (.ref b :: As) wc o rv wc') (hdg : decode cc pc = .ok (.invokevirtual index, 3)) (n : Nat) (hG : GoodIn Ts (wsV own index C y ws)) (hws : ws = Cond.code y bytes maxL ret' :: ws') (hrc : rm.cells = 0) (hrs : rm.slots = 0)
    (hd : y.cls = C ∧ y.cls ≠ "java/lang/invoke/MethodHandle" ∧ y.cls ≠ "java/lang/invoke/VarHandle" ∧ (parseMethodDescriptor y.desc).map (fun d => d.parameters.length) = some n) (hR : rm.frames + 1 ≤ R.frames ∧ 8 + (maxL + 11) + rm.locals ≤ R.locals) (hcs : kc ≤ R.cells ∧ ks ≤ R.slots)
    (wr : va_W) (w1 : ρ' → va_W) (hp : w.Perm (wc ++ wr)) (hp1 : ∀ r, (wc' r ++ wr).Perm (w1 r)) (hc : vwCl[ci]? = some (C, T, N)) (hroot : wc[0]? = some (b, .inr (ci, fs))) (hn : As.length = n) (hsk : sk = As.reverse ++ .ref b :: st) (hst : (st.map fun v => v.category).sum ≤ 8)
    (s1 : ρ' → List Value) (hs1 : ∀ r, (rv r).toList ++ st = s1 r) (pc' : Nat) (hpc : pc + 3 = pc') (kk : ∀ r, zk_G E l X cc nL ret own Ts R kc ks Q (w1 r) lv pc' (s1 r) (kf r)) : zk_G E l X cc nL ret own Ts R kc ks Q w lv pc sk (o.bind kf) := by
  obtain ⟨p, e, s, m, args, below, meth, c, w0⟩ := X
  intro r hr hC H locs ls hP hD hS hl
  obtain ⟨hx, hb, hml, hret, hown, hts, hE, hlk⟩ := id hC
  obtain ⟨r1, ho, hr1⟩ := zk_bind_e hr
  subst hsk
  subst hpc
  obtain ⟨hPc, hDc, hF⟩ := zk_pre hP hD hS zk_hA hp
  have hcw := cwV (args := args) (s := s) (R := R) (rm := rm) (mc := 0) (ms := 0) (bytes := bytes) (maxL := maxL) (ret := ret') n hts hG hws hrc hrs hd hR
  have run := va_runV (p := p) (e := e) (below := below) (meth := meth) (H := H) (locs := locs) (cells := kc) (slots := ks) (g := F0 m pc ls (As.reverse ++ .ref b :: st)) (As := As) (rest := st) (C := C) ⟨hx, hb, hml, hown, hts⟩ (hM r1 ho H.size) hcw
    ⟨fun a U g mk q => by obtain ⟨q0, q1, q2, q3, q4⟩ := q; exact ⟨q0, q1, q2, zk_E.calling q3, q4⟩, va_recv (va_K.moved (Vm.Alike.refl s.vm) hE.1) hPc hc hroot, fun U hU hW => ⟨rfl, by rw [hU], by rw [hU]; exact hPc, zk_E.warm hE hS hF hU hW, hDc⟩⟩ rfl hn hl.1 rfl (lv_room hst) hdg hcs
  intro T hT X'
  obtain ⟨v, st0, t, T', L, h0, X2, hL, e1, e2, ⟨⟨hv, hP1, hD1⟩, hz, hk⟩, go⟩ := run T hT X'
  rw [h0] at hz hk
  cases hv
  obtain ⟨hP2, hD2⟩ := zk_post (wc' := wc' r1) hP hD hp hk hF hP1 hD1
  rw [← e1] at hP2
  have hS1 : va_S (va_A w0 s.heap.size) s.heap T'.heap (locs ++ L) := ⟨Nat.le_trans hS.1 (by rw [e1]; exact hz), fun q h1 h2 => by rw [e1, hk q (Nat.lt_of_lt_of_le h1 hS.1) (fun z => h2 (hF q z))]; exact hS.2.1 q h1 h2, fun q hq => by
    rcases List.mem_append.mp hq with h | h
    · exact hS.2.2 q h
    · exact hF _ (hL q h)⟩
  have kk1 := kk r1 r hr1 hC T'.heap (locs ++ L) ls (zk_P_perm (hp1 r1) hP2) (zk_D_perm (hp1 r1) hD2) hS1 hl
  rw [← hs1 r1] at kk1
  obtain ⟨t2, a1, b1⟩ := kk1 T' rfl X2
  exact ⟨t2, go t2 a1, b1⟩
theorem zk_callS {y : MethodName} {bytes : ByteArray} {maxL : Nat} {ret' : Option FieldType} {ws ws' : List Cond} {rm : Room} {As : List Value} {wc : va_W} {o : Option ρ'} {rv : ρ' → Option Value} {wc' : ρ' → va_W} {index : Nat} {kf : ρ' → Option ρ} {sk : List Value}
    (hM : zk_Mc E l y ws rm As wc o rv wc') (hdg : decode cc pc = .ok (.invokestatic index, 3)) (n : Nat) (hG : GoodIn Ts (va_wsS own index y ws)) (hws : ws = Cond.code y bytes maxL ret' :: ws') (hrc : rm.cells = 0) (hrs : rm.slots = 0)
    (hd : y.cls ≠ "java/lang/invoke/MethodHandle" ∧ y.cls ≠ "java/lang/invoke/VarHandle" ∧ (parseMethodDescriptor y.desc).map (fun d => d.parameters.length) = some n) (hR : rm.frames + 1 ≤ R.frames ∧ 8 + (maxL + 11) + rm.locals ≤ R.locals) (hcs : kc ≤ R.cells ∧ ks ≤ R.slots)
    (wr : va_W) (w1 : ρ' → va_W) (hp : w.Perm (wc ++ wr)) (hp1 : ∀ r, (wc' r ++ wr).Perm (w1 r)) (hn : As.length = n) (hsk : sk = As.reverse ++ st) (hst : (st.map fun v => v.category).sum ≤ 8)
    (s1 : ρ' → List Value) (hs1 : ∀ r, (rv r).toList ++ st = s1 r) (pc' : Nat) (hpc : pc + 3 = pc') (kk : ∀ r, zk_G E l X cc nL ret own Ts R kc ks Q (w1 r) lv pc' (s1 r) (kf r)) : zk_G E l X cc nL ret own Ts R kc ks Q w lv pc sk (o.bind kf) := by
  obtain ⟨p, e, s, m, args, below, meth, c, w0⟩ := X
  intro r hr hC H locs ls hP hD hS hl
  obtain ⟨hx, hb, hml, hret, hown, hts, hE, hlk⟩ := id hC
  obtain ⟨r1, ho, hr1⟩ := zk_bind_e hr
  subst hsk
  subst hpc
  obtain ⟨hPc, hDc, hF⟩ := zk_pre hP hD hS zk_hA hp
  have hcw := va_cwS (args := args) (s := s) (R := R) (rm := rm) (mc := 0) (ms := 0) (bytes := bytes) (maxL := maxL) (ret := ret') n hts hG hws hrc hrs hd hR
  have run := va_runS (p := p) (e := e) (below := below) (meth := meth) (H := H) (locs := locs) (cells := kc) (slots := ks) (g := F0 m pc ls (As.reverse ++ st)) (As := As) (rest := st) ⟨hx, hb, hml, hown, hts⟩ (hM r1 ho H.size) hcw
    ⟨fun a U g mk q => by obtain ⟨q0, q1, q2, q3, q4⟩ := q; exact ⟨q0, q1, q2, zk_E.calling q3, q4⟩, fun U hU hW => ⟨rfl, by rw [hU], by rw [hU]; exact hPc, zk_E.warm hE hS hF hU hW, hDc⟩⟩ rfl hn hl.1 rfl (lv_room hst) hdg hcs
  intro T hT X'
  obtain ⟨v, st0, t, T', L, h0, X2, hL, e1, e2, ⟨⟨hv, hP1, hD1⟩, hz, hk⟩, go⟩ := run T hT X'
  rw [h0] at hz hk
  cases hv
  obtain ⟨hP2, hD2⟩ := zk_post (wc' := wc' r1) hP hD hp hk hF hP1 hD1
  rw [← e1] at hP2
  have hS1 : va_S (va_A w0 s.heap.size) s.heap T'.heap (locs ++ L) := ⟨Nat.le_trans hS.1 (by rw [e1]; exact hz), fun q h1 h2 => by rw [e1, hk q (Nat.lt_of_lt_of_le h1 hS.1) (fun z => h2 (hF q z))]; exact hS.2.1 q h1 h2, fun q hq => by
    rcases List.mem_append.mp hq with h | h
    · exact hS.2.2 q h
    · exact hF _ (hL q h)⟩
  have kk1 := kk r1 r hr1 hC T'.heap (locs ++ L) ls (zk_P_perm (hp1 r1) hP2) (zk_D_perm (hp1 r1) hD2) hS1 hl
  rw [← hs1 r1] at kk1
  obtain ⟨t2, a1, b1⟩ := kk1 T' rfl X2
  exact ⟨t2, go t2 a1, b1⟩
end ZKC
/-! where the callee's cells stand in the caller's world -/
theorem zk_p1 {gs : List va_W} {i : Nat} {g : va_W} (hi : gs[i]? = some g) : (zk_j gs).Perm (g ++ zk_j (gs.set i [])) := zk_at gs i g hi
theorem zk_q1 {gs : List va_W} {i : Nat} {g g' w1 : va_W} (hi : gs[i]? = some g) (hw : w1 = zk_j (gs.set i g')) : (g' ++ zk_j (gs.set i [])).Perm w1 := by
  subst hw
  exact (zk_put gs i g' (zk_lt hi)).symm
theorem zk_p2 {gs : List va_W} {i j : Nat} {l1 l2 : List va_W} (hi : gs[i]? = some (zk_j l1)) (hj : gs[j]? = some (zk_j l2)) (n : i ≠ j) : (zk_j gs).Perm (zk_j (l1 ++ l2) ++ zk_j ((gs.set i []).set j [])) := by
  rw [zk_j_app]
  exact zk_at2 gs i j _ _ hi hj n
theorem zk_q2 {gs : List va_W} {i j : Nat} {g h w1 : va_W} {l1 l2 : List va_W} (hi : gs[i]? = some g) (hj : gs[j]? = some h) (n : i ≠ j) (hw : w1 = zk_j ((gs.set i (zk_j l1)).set j (zk_j l2))) : (zk_j (l1 ++ l2) ++ zk_j ((gs.set i []).set j [])).Perm w1 := by
  subst hw
  rw [zk_j_app]
  exact (zk_put2 gs i j _ _ (zk_lt hi) (zk_lt hj) n).symm
theorem zk_pc {w g wr g2 wr2 : va_W} (h1 : w.Perm (g ++ wr)) (h2 : g.Perm (g2 ++ wr2)) : w.Perm (g2 ++ (wr2 ++ wr)) := by
  rw [← List.append_assoc]
  exact h1.trans (List.Perm.append_right wr h2)
theorem zk_qc {w1 g' wr g2' wr2 : va_W} (h1 : (g' ++ wr).Perm w1) (h2 : (g2' ++ wr2).Perm g') : (g2' ++ (wr2 ++ wr)).Perm w1 := by
  rw [← List.append_assoc]
  exact (List.Perm.append_right wr h2).trans h1
theorem zk_4 (a b c d : va_W) : ((a ++ b) ++ (c ++ d)).Perm ((a ++ c) ++ (b ++ d)) := by
  rw [List.append_assoc, List.append_assoc]
  exact List.Perm.append_left a (List.perm_append_comm_assoc b c d)
/-- two cells' groups of one node: each is opened further -/
theorem zk_pp {w g h g1 h1 r1 r2 rest wr0 n : va_W} (h0 : w.Perm (n ++ wr0)) (hn : n.Perm ((g ++ h) ++ rest)) (hg : g.Perm (g1 ++ r1)) (hh : h.Perm (h1 ++ r2)) : w.Perm (zk_j [g1, h1] ++ (((r1 ++ r2) ++ rest) ++ wr0)) := by
  refine zk_pc h0 ?_
  refine hn.trans ?_
  rw [← List.append_assoc]
  refine List.Perm.append_right rest ?_
  refine (List.Perm.append hg hh).trans ?_
  refine (zk_4 g1 r1 h1 r2).trans ?_
  show ((g1 ++ h1) ++ (r1 ++ r2)).Perm ((g1 ++ (h1 ++ [])) ++ (r1 ++ r2))
  rw [List.append_nil]
theorem zk_qq {w1 g h g1 h1 r1 r2 rest wr0 n : va_W} (h0 : (n ++ wr0).Perm w1) (hn : ((g ++ h) ++ rest).Perm n) (hg : (g1 ++ r1).Perm g) (hh : (h1 ++ r2).Perm h) : (zk_j [g1, h1] ++ (((r1 ++ r2) ++ rest) ++ wr0)).Perm w1 :=
  (zk_pp h0.symm hn.symm hg.symm hh.symm).symm
theorem zk_pb {gs : List va_W} {i j : Nat} {g h : va_W} (hi : gs[i]? = some g) (hj : gs[j]? = some h) (n : i ≠ j) : (zk_j gs).Perm ((g ++ h) ++ zk_j ((gs.set i []).set j [])) := zk_at2 gs i j g h hi hj n
theorem zk_qb {gs : List va_W} {i j : Nat} {g h g' h' w1 : va_W} (hi : gs[i]? = some g) (hj : gs[j]? = some h) (n : i ≠ j) (hw : w1 = zk_j ((gs.set i g').set j h')) : ((g' ++ h') ++ zk_j ((gs.set i []).set j [])).Perm w1 := by
  subst hw
  exact (zk_put2 gs i j g' h' (zk_lt hi) (zk_lt hj) n).symm
/-- objects of one kind in a row -/
def zk_fam (n : Nat) (F : Nat → va_W) : List va_W := (List.range n).map F
theorem zk_fam_at {l : List va_W} {n k m : Nat} {F : Nat → va_W} (hm : l.length = m) (hk : k < n) : (l ++ zk_fam n F)[m + k]? = some (F k) := by
  subst hm
  rw [List.getElem?_append_right (Nat.le_add_right _ _), Nat.add_sub_cancel_left]
  unfold zk_fam
  rw [List.getElem?_map, List.getElem?_range hk]
  rfl
theorem zk_fam_set {l : List va_W} {n k m : Nat} {F G : Nat → va_W} (hm : l.length = m) (hG : ∀ j, j ≠ k → G j = F j) : (l ++ zk_fam n F).set (m + k) (G k) = l ++ zk_fam n G := by
  subst hm
  rw [List.set_append_right _ _ (Nat.le_add_right _ _), Nat.add_sub_cancel_left]
  congr 1
  unfold zk_fam
  refine List.ext_getElem? (fun i => ?_)
  by_cases hi : i = k
  · subst hi
    by_cases hn : i < n
    · rw [List.getElem?_set_self (by simpa using hn), List.getElem?_map, List.getElem?_range hn]
      rfl
    · rw [List.getElem?_eq_none (by simpa using hn), List.getElem?_eq_none (by simpa using hn)]
  · rw [List.getElem?_set_ne (Ne.symm hi), List.getElem?_map, List.getElem?_map]
    by_cases hn : i < n
    · rw [List.getElem?_range hn]
      show some (F i) = some (G i)
      rw [hG i hi]
    · rw [List.getElem?_eq_none (by simpa using hn)]
      rfl
theorem zk_famv {α : Type} (g : Nat → α → va_W) {f : Nat → α} {l : List va_W} {n k m : Nat} {v' : α} (hm : l.length = m) : l ++ zk_fam n (fun i => g i (va_up f k v' i)) = (l ++ zk_fam n (fun i => g i (f i))).set (m + k) (g k v') := by
  have h := zk_fam_set (l := l) (n := n) (k := k) (m := m) (F := fun i => g i (f i)) (G := fun i => g i (va_up f k v' i)) hm (fun j hj => by show g j (va_up f k v' j) = g j (f j); rw [va_up, if_neg hj])
  rw [← h]
  show _ = _
  rw [show va_up f k v' k = v' from if_pos rfl]
theorem zk_inb {i : Int32} {n : Nat} (h : vp_in i n) : i.toNatClampNeg < n := by
  unfold vp_in at h
  rcases Nat.lt_or_ge i.toNatClampNeg n with g | g
  · exact g
  · exact absurd (Or.inr g) h
theorem zk_p0 {gs gr : List va_W} : (zk_j (gs ++ gr)).Perm (zk_j gs ++ zk_j gr) := by
  rw [zk_j_app]
theorem zk_q0 {gs gr : List va_W} : (zk_j gs ++ zk_j gr).Perm (zk_j (gs ++ gr)) := by
  rw [zk_j_app]
theorem zk_pn {w : va_W} : w.Perm ([] ++ w) := List.Perm.refl _
theorem zk_pa {w : va_W} : w.Perm (w ++ []) := by rw [List.append_nil]
theorem zk_qa {w : va_W} : (w ++ []).Perm w := by rw [List.append_nil]
/-- how often a loop may turn, far above what any does -/
def zk_N : Nat := 10000
end
section
/-! what the objects of each class are: addresses, values, cells in groups -/
abbrev aX5 : Type := Nat × Nat
abbrev VX5 : Type := (Nat → Int32) × Int32
def lX5 (E : zk_Env) (a : aX5) (v : VX5) : List va_W := [[(a.1, .inr (5, [.ref a.2, .int v.2])), (a.2, .inl (zk_ci E, 240, .inl v.1))]]
def gX5 (E : zk_Env) (a : aX5) (v : VX5) : va_W := zk_j (lX5 E a v)
abbrev aX3 : Type := Nat × Nat × Nat × Nat × Nat × Nat
abbrev VX3 : Type := (Nat → Int32) × (Nat → Int32) × (Nat → Int32) × (Nat → Int32) × (Nat → Int32)
def lX3 (E : zk_Env) (a : aX3) (v : VX3) : List va_W := [[(a.1, .inr (3, [.ref a.2.1, .ref a.2.2.1, .ref a.2.2.2.1, .ref a.2.2.2.2.1, .ref a.2.2.2.2.2])), (a.2.1, .inl (zk_ci E, 25, .inl v.1)), (a.2.2.1, .inl (zk_ci E, 25, .inl v.2.1)), (a.2.2.2.1, .inl (zk_ci E, 25, .inl v.2.2.1)), (a.2.2.2.2.1, .inl (zk_ci E, 40, .inl v.2.2.2.1)), (a.2.2.2.2.2, .inl (zk_ci E, 40, .inl v.2.2.2.2))]]
def gX3 (E : zk_Env) (a : aX3) (v : VX3) : va_W := zk_j (lX3 E a v)
abbrev aX0 : Type := Nat × Nat
abbrev VX0 : Type := (Nat → Int32) × Int32
def lX0 (E : zk_Env) (a : aX0) (v : VX0) : List va_W := [[(a.1, .inr (0, [.ref a.2, .int v.2])), (a.2, .inl (zk_ci E, 36, .inl v.1))]]
def gX0 (E : zk_Env) (a : aX0) (v : VX0) : va_W := zk_j (lX0 E a v)
abbrev aX8 : Type := Nat × aX5 × aX3 × aX0
abbrev VX8 : Type := VX5 × VX3 × VX0 × Int32 × Int32 × Int32 × Int32 × Int32 × Int32 × Int32 × Int32 × Int32 × Int32
def lX8 (E : zk_Env) (a : aX8) (v : VX8) : List va_W := [[(a.1, .inr (8, [.ref a.2.1.1, .ref a.2.2.1.1, .ref a.2.2.2.1, .int v.2.2.2.1, .int v.2.2.2.2.1, .int v.2.2.2.2.2.1, .int v.2.2.2.2.2.2.1, .int v.2.2.2.2.2.2.2.1, .int v.2.2.2.2.2.2.2.2.1, .int v.2.2.2.2.2.2.2.2.2.1, .int v.2.2.2.2.2.2.2.2.2.2.1, .int v.2.2.2.2.2.2.2.2.2.2.2.1, .int v.2.2.2.2.2.2.2.2.2.2.2.2]))], gX5 E a.2.1 v.1, gX3 E a.2.2.1 v.2.1, gX0 E a.2.2.2 v.2.2.1]
def gX8 (E : zk_Env) (a : aX8) (v : VX8) : va_W := zk_j (lX8 E a v)
abbrev aX7 : Type := Nat × Nat
abbrev VX7 : Type := (Nat → Int32) × Int32 × Int32 × Int32 × Int32
def lX7 (E : zk_Env) (a : aX7) (v : VX7) : List va_W := [[(a.1, .inr (7, [.ref a.2, .int v.2.1, .int v.2.2.1, .int v.2.2.2.1, .int v.2.2.2.2])), (a.2, .inl (zk_ci E, 120, .inl v.1))]]
def gX7 (E : zk_Env) (a : aX7) (v : VX7) : va_W := zk_j (lX7 E a v)
abbrev aX4 : Type := Nat × aX7 × Nat × Nat
abbrev VX4 : Type := VX7 × (Nat → Int32) × (Nat → Int32) × Int32 × Int32 × Int32 × Int32 × Int32
def lX4 (E : zk_Env) (a : aX4) (v : VX4) : List va_W := [[(a.1, .inr (4, [.ref a.2.1.1, .ref a.2.2.1, .ref a.2.2.2, .int v.2.2.2.1, .int v.2.2.2.2.1, .int v.2.2.2.2.2.1, .int v.2.2.2.2.2.2.1, .int v.2.2.2.2.2.2.2])), (a.2.2.1, .inl (zk_ci E, 3, .inl v.2.1)), (a.2.2.2, .inl (zk_ci E, 4, .inl v.2.2.1))], gX7 E a.2.1 v.1]
def gX4 (E : zk_Env) (a : aX4) (v : VX4) : va_W := zk_j (lX4 E a v)
abbrev aX6 : Type := Nat × aX8 × (Nat × (Nat → aX8)) × Nat
abbrev VX6 : Type := VX8 × (Nat → VX8) × (Nat → Int32)
def lX6 (E : zk_Env) (a : aX6) (v : VX6) : List va_W := [[(a.1, .inr (6, [.ref a.2.1.1, .ref a.2.2.1.1, .ref a.2.2.2])), (a.2.2.1.1, .inl (zk_cw E, 2, .inr (.inr (.inr (.inr (fun i => some (a.2.2.1.2 i).1)))))), (a.2.2.2, .inl (zk_cz E, 2, .inl v.2.2))], gX8 E a.2.1 v.1] ++ zk_fam 2 (fun i => gX8 E (a.2.2.1.2 i) (v.2.1 i))
def gX6 (E : zk_Env) (a : aX6) (v : VX6) : va_W := zk_j (lX6 E a v)
abbrev aX1 : Type := Nat × aX8
abbrev VX1 : Type := VX8
def lX1 (E : zk_Env) (a : aX1) (v : VX1) : List va_W := [[(a.1, .inr (1, [.ref a.2.1]))], gX8 E a.2 v]
def gX1 (E : zk_Env) (a : aX1) (v : VX1) : va_W := zk_j (lX1 E a v)
abbrev aX2 : Type := Nat × (Nat × (Nat → aX6))
abbrev VX2 : Type := (Nat → VX6) × Int32 × Int32
def lX2 (E : zk_Env) (a : aX2) (v : VX2) : List va_W := [[(a.1, .inr (2, [.ref a.2.1, .int v.2.1, .int v.2.2])), (a.2.1, .inl (zk_cs E, 6, .inr (.inr (.inr (.inr (fun i => some (a.2.2 i).1))))))]] ++ zk_fam 6 (fun i => gX6 E (a.2.2 i) (v.1 i))
def gX2 (E : zk_Env) (a : aX2) (v : VX2) : va_W := zk_j (lX2 E a v)
abbrev aX9 : Type := Nat × aX6 × aX2 × aX4 × aX1
abbrev VX9 : Type := VX6 × VX2 × VX4 × VX1
def lX9 (E : zk_Env) (a : aX9) (v : VX9) : List va_W := [[(a.1, .inr (9, [.ref a.2.1.1, .ref a.2.2.1.1, .ref a.2.2.2.1.1, .ref a.2.2.2.2.1]))], gX6 E a.2.1 v.1, gX4 E a.2.2.2.1 v.2.2.1, gX1 E a.2.2.2.2 v.2.2.2, gX2 E a.2.2.1 v.2.1]
def gX9 (E : zk_Env) (a : aX9) (v : VX9) : va_W := zk_j (lX9 E a v)
abbrev aX10 : Type := Nat × Nat × Nat × Nat × Nat × Nat × Nat × Nat × Nat × Nat × Nat
abbrev VX10 : Type := (Nat → Int32) × (Nat → Int32) × (Nat → Int32) × (Nat → Int32) × (Nat → Int32) × Int32 × (Nat → Int32) × (Nat → Int32) × (Nat → Int32) × Int32 × (Nat → Int32) × Int32 × Int32 × Int32 × Int32 × (Nat → Int32)
def lX10 (E : zk_Env) (a : aX10) (v : VX10) : List va_W := [[(a.1, .inr (10, [.ref a.2.1, .ref a.2.2.1, .ref a.2.2.2.1, .ref a.2.2.2.2.1, .ref a.2.2.2.2.2.1, .int v.2.2.2.2.2.1, .ref a.2.2.2.2.2.2.1, .ref a.2.2.2.2.2.2.2.1, .ref a.2.2.2.2.2.2.2.2.1, .int v.2.2.2.2.2.2.2.2.2.1, .ref a.2.2.2.2.2.2.2.2.2.1, .int v.2.2.2.2.2.2.2.2.2.2.2.1, .int v.2.2.2.2.2.2.2.2.2.2.2.2.1, .int v.2.2.2.2.2.2.2.2.2.2.2.2.2.1, .int v.2.2.2.2.2.2.2.2.2.2.2.2.2.2.1, .ref a.2.2.2.2.2.2.2.2.2.2])), (a.2.1, .inl (zk_ci E, 368, .inl v.1)), (a.2.2.1, .inl (zk_ci E, 736, .inl v.2.1)), (a.2.2.2.1, .inl (zk_cz E, 2, .inl v.2.2.1)), (a.2.2.2.2.1, .inl (zk_ci E, 5520, .inl v.2.2.2.1)), (a.2.2.2.2.2.1, .inl (zk_cz E, 10, .inl v.2.2.2.2.1)), (a.2.2.2.2.2.2.1, .inl (zk_ci E, 368, .inl v.2.2.2.2.2.2.1)), (a.2.2.2.2.2.2.2.1, .inl (zk_ci E, 368, .inl v.2.2.2.2.2.2.2.1)), (a.2.2.2.2.2.2.2.2.1, .inl (zk_cc E, 120, .inl v.2.2.2.2.2.2.2.2.1)), (a.2.2.2.2.2.2.2.2.2.1, .inl (zk_ci E, 4, .inl v.2.2.2.2.2.2.2.2.2.2.1)), (a.2.2.2.2.2.2.2.2.2.2, .inl (zk_ci E, 3, .inl v.2.2.2.2.2.2.2.2.2.2.2.2.2.2.2))]]
def gX10 (E : zk_Env) (a : aX10) (v : VX10) : va_W := zk_j (lX10 E a v)
end
section
theorem dX0_init_0 : decode cX0_init 0 = .ok (.aload_n 0, 1) := by decide +kernel
theorem dX0_init_1 : decode cX0_init 1 = .ok (.invokespecial 3, 3) := by decide +kernel
theorem dX0_init_4 : decode cX0_init 4 = .ok (.aload_n 0, 1) := by decide +kernel
theorem dX0_init_5 : decode cX0_init 5 = .ok (.bipush 36, 2) := by decide +kernel
theorem dX0_init_7 : decode cX0_init 7 = .ok (.newarray .int, 2) := by decide +kernel
theorem dX0_init_9 : decode cX0_init 9 = .ok (.putfield 11, 3) := by decide +kernel
theorem dX0_init_12 : decode cX0_init 12 = .ok (.return_, 1) := by decide +kernel
theorem dX0_copyFrom_0 : decode cX0_copyFrom 0 = .ok (.aload_n 1, 1) := by decide +kernel
theorem dX0_copyFrom_1 : decode cX0_copyFrom 1 = .ok (.getfield 11, 3) := by decide +kernel
theorem dX0_copyFrom_4 : decode cX0_copyFrom 4 = .ok (.iconst 0, 1) := by decide +kernel
theorem dX0_copyFrom_5 : decode cX0_copyFrom 5 = .ok (.aload_n 0, 1) := by decide +kernel
theorem dX0_copyFrom_6 : decode cX0_copyFrom 6 = .ok (.getfield 11, 3) := by decide +kernel
theorem dX0_copyFrom_9 : decode cX0_copyFrom 9 = .ok (.iconst 0, 1) := by decide +kernel
theorem dX0_copyFrom_10 : decode cX0_copyFrom 10 = .ok (.bipush 36, 2) := by decide +kernel
theorem dX0_copyFrom_12 : decode cX0_copyFrom 12 = .ok (.invokestatic 15, 3) := by decide +kernel
theorem dX0_copyFrom_15 : decode cX0_copyFrom 15 = .ok (.aload_n 0, 1) := by decide +kernel
theorem dX0_copyFrom_16 : decode cX0_copyFrom 16 = .ok (.aload_n 1, 1) := by decide +kernel
theorem dX0_copyFrom_17 : decode cX0_copyFrom 17 = .ok (.getfield 21, 3) := by decide +kernel
theorem dX0_copyFrom_20 : decode cX0_copyFrom 20 = .ok (.putfield 21, 3) := by decide +kernel
theorem dX0_copyFrom_23 : decode cX0_copyFrom 23 = .ok (.return_, 1) := by decide +kernel
theorem dX0_calls_0 : decode cX0_calls 0 = .ok (.aload_n 0, 1) := by decide +kernel
theorem dX0_calls_1 : decode cX0_calls 1 = .ok (.getfield 21, 3) := by decide +kernel
theorem dX0_calls_4 : decode cX0_calls 4 = .ok (.ireturn, 1) := by decide +kernel
set_option maxRecDepth 20000 in
theorem ggX0_write_J9_floorMod_7cf53 : GoodIn wsX0_write wsJ9_floorMod_7cf53 := goodIn_r _ [6] (by decide +kernel) (by decide +kernel)
set_option maxRecDepth 20000 in
theorem gX0_write_J9_floorMod_7cf53 : GoodIn wsX0_write (va_wsS RX0 25 yJ9_floorMod_7cf53 wsJ9_floorMod_7cf53) := goodIn_app (goodIn_of _ (by decide +kernel)) ggX0_write_J9_floorMod_7cf53
theorem dX0_write_0 : decode cX0_write 0 = .ok (.aload_n 0, 1) := by decide +kernel
theorem dX0_write_1 : decode cX0_write 1 = .ok (.getfield 21, 3) := by decide +kernel
theorem dX0_write_4 : decode cX0_write 4 = .ok (.bipush 12, 2) := by decide +kernel
theorem dX0_write_6 : decode cX0_write 6 = .ok (.invokestatic 25, 3) := by decide +kernel
theorem dX0_write_9 : decode cX0_write 9 = .ok (.iconst 3, 1) := by decide +kernel
theorem dX0_write_10 : decode cX0_write 10 = .ok (.imul, 1) := by decide +kernel
theorem dX0_write_11 : decode cX0_write 11 = .ok (.istore 4, 2) := by decide +kernel
theorem dX0_write_13 : decode cX0_write 13 = .ok (.aload_n 0, 1) := by decide +kernel
theorem dX0_write_14 : decode cX0_write 14 = .ok (.getfield 11, 3) := by decide +kernel
theorem dX0_write_17 : decode cX0_write 17 = .ok (.iload 4, 2) := by decide +kernel
theorem dX0_write_19 : decode cX0_write 19 = .ok (.iload_n 1, 1) := by decide +kernel
theorem dX0_write_20 : decode cX0_write 20 = .ok (.iastore, 1) := by decide +kernel
theorem dX0_write_21 : decode cX0_write 21 = .ok (.aload_n 0, 1) := by decide +kernel
theorem dX0_write_22 : decode cX0_write 22 = .ok (.getfield 11, 3) := by decide +kernel
theorem dX0_write_25 : decode cX0_write 25 = .ok (.iload 4, 2) := by decide +kernel
theorem dX0_write_27 : decode cX0_write 27 = .ok (.iconst 1, 1) := by decide +kernel
theorem dX0_write_28 : decode cX0_write 28 = .ok (.iadd, 1) := by decide +kernel
theorem dX0_write_29 : decode cX0_write 29 = .ok (.iload_n 2, 1) := by decide +kernel
theorem dX0_write_30 : decode cX0_write 30 = .ok (.iastore, 1) := by decide +kernel
theorem dX0_write_31 : decode cX0_write 31 = .ok (.aload_n 0, 1) := by decide +kernel
theorem dX0_write_32 : decode cX0_write 32 = .ok (.getfield 11, 3) := by decide +kernel
theorem dX0_write_35 : decode cX0_write 35 = .ok (.iload 4, 2) := by decide +kernel
theorem dX0_write_37 : decode cX0_write 37 = .ok (.iconst 2, 1) := by decide +kernel
theorem dX0_write_38 : decode cX0_write 38 = .ok (.iadd, 1) := by decide +kernel
theorem dX0_write_39 : decode cX0_write 39 = .ok (.iload_n 3, 1) := by decide +kernel
theorem dX0_write_40 : decode cX0_write 40 = .ok (.iastore, 1) := by decide +kernel
theorem dX0_write_41 : decode cX0_write 41 = .ok (.aload_n 0, 1) := by decide +kernel
theorem dX0_write_42 : decode cX0_write 42 = .ok (.dup, 1) := by decide +kernel
theorem dX0_write_43 : decode cX0_write 43 = .ok (.getfield 21, 3) := by decide +kernel
theorem dX0_write_46 : decode cX0_write 46 = .ok (.iconst 1, 1) := by decide +kernel
theorem dX0_write_47 : decode cX0_write 47 = .ok (.iadd, 1) := by decide +kernel
theorem dX0_write_48 : decode cX0_write 48 = .ok (.putfield 21, 3) := by decide +kernel
theorem dX0_write_51 : decode cX0_write 51 = .ok (.return_, 1) := by decide +kernel
set_option maxRecDepth 20000 in
theorem ggX0_read_J9_floorMod_7cf53 : GoodIn wsX0_read wsJ9_floorMod_7cf53 := goodIn_r _ [10] (by decide +kernel) (by decide +kernel)
set_option maxRecDepth 20000 in
theorem gX0_read_J9_floorMod_7cf53 : GoodIn wsX0_read (va_wsS RX0 25 yJ9_floorMod_7cf53 wsJ9_floorMod_7cf53) := goodIn_app (goodIn_of _ (by decide +kernel)) ggX0_read_J9_floorMod_7cf53
theorem dX0_read_0 : decode cX0_read 0 = .ok (.iload_n 1, 1) := by decide +kernel
theorem dX0_read_1 : decode cX0_read 1 = .ok (.ifCond .lt 25, 3) := by decide +kernel
theorem dX0_read_4 : decode cX0_read 4 = .ok (.iload_n 1, 1) := by decide +kernel
theorem dX0_read_5 : decode cX0_read 5 = .ok (.aload_n 0, 1) := by decide +kernel
theorem dX0_read_6 : decode cX0_read 6 = .ok (.getfield 21, 3) := by decide +kernel
theorem dX0_read_9 : decode cX0_read 9 = .ok (.bipush 12, 2) := by decide +kernel
theorem dX0_read_11 : decode cX0_read 11 = .ok (.invokestatic 31, 3) := by decide +kernel
theorem dX0_read_14 : decode cX0_read 14 = .ok (.if_icmp .ge 12, 3) := by decide +kernel
theorem dX0_read_17 : decode cX0_read 17 = .ok (.iload_n 2, 1) := by decide +kernel
theorem dX0_read_18 : decode cX0_read 18 = .ok (.ifCond .lt 8, 3) := by decide +kernel
theorem dX0_read_21 : decode cX0_read 21 = .ok (.iload_n 2, 1) := by decide +kernel
theorem dX0_read_22 : decode cX0_read 22 = .ok (.iconst 3, 1) := by decide +kernel
theorem dX0_read_23 : decode cX0_read 23 = .ok (.if_icmp .lt 6, 3) := by decide +kernel
theorem dX0_read_26 : decode cX0_read 26 = .ok (.bipush (-9), 2) := by decide +kernel
theorem dX0_read_28 : decode cX0_read 28 = .ok (.ireturn, 1) := by decide +kernel
theorem dX0_read_29 : decode cX0_read 29 = .ok (.aload_n 0, 1) := by decide +kernel
theorem dX0_read_30 : decode cX0_read 30 = .ok (.getfield 11, 3) := by decide +kernel
theorem dX0_read_33 : decode cX0_read 33 = .ok (.aload_n 0, 1) := by decide +kernel
theorem dX0_read_34 : decode cX0_read 34 = .ok (.getfield 21, 3) := by decide +kernel
theorem dX0_read_37 : decode cX0_read 37 = .ok (.iconst 1, 1) := by decide +kernel
theorem dX0_read_38 : decode cX0_read 38 = .ok (.isub, 1) := by decide +kernel
theorem dX0_read_39 : decode cX0_read 39 = .ok (.iload_n 1, 1) := by decide +kernel
theorem dX0_read_40 : decode cX0_read 40 = .ok (.isub, 1) := by decide +kernel
theorem dX0_read_41 : decode cX0_read 41 = .ok (.bipush 12, 2) := by decide +kernel
theorem dX0_read_43 : decode cX0_read 43 = .ok (.invokestatic 25, 3) := by decide +kernel
theorem dX0_read_46 : decode cX0_read 46 = .ok (.iconst 3, 1) := by decide +kernel
theorem dX0_read_47 : decode cX0_read 47 = .ok (.imul, 1) := by decide +kernel
theorem dX0_read_48 : decode cX0_read 48 = .ok (.iload_n 2, 1) := by decide +kernel
theorem dX0_read_49 : decode cX0_read 49 = .ok (.iadd, 1) := by decide +kernel
theorem dX0_read_50 : decode cX0_read 50 = .ok (.iaload, 1) := by decide +kernel
theorem dX0_read_51 : decode cX0_read 51 = .ok (.ireturn, 1) := by decide +kernel
set_option maxRecDepth 20000 in
theorem ggX1_init_X8_init : GoodIn wsX1_init wsX8_init := goodIn_r _ [9, 10, 2, 3, 11, 12, 13, 14, 15, 16, 17, 18, 19, 20, 21, 22, 23, 24, 25, 26, 27, 28, 29, 30, 31, 32, 33, 34, 35, 36, 37, 38, 39, 40, 41, 42, 43, 44, 45, 46, 61, 62, 47, 48, 49, 50, 51, 52, 53, 54, 55, 56, 57, 58, 59, 63, 64, 65, 66, 67, 68, 69] (by decide +kernel) (by decide +kernel)
set_option maxRecDepth 20000 in
theorem gX1_init_X8_init_n11 : GoodIn wsX1_init (wsX8_init) := ggX1_init_X8_init
theorem dX1_init_0 : decode cX1_init 0 = .ok (.aload_n 0, 1) := by decide +kernel
theorem dX1_init_1 : decode cX1_init 1 = .ok (.invokespecial 3, 3) := by decide +kernel
theorem dX1_init_4 : decode cX1_init 4 = .ok (.aload_n 0, 1) := by decide +kernel
theorem dX1_init_5 : decode cX1_init 5 = .ok (.new 9, 3) := by decide +kernel
theorem dX1_init_8 : decode cX1_init 8 = .ok (.dup, 1) := by decide +kernel
theorem dX1_init_9 : decode cX1_init 9 = .ok (.invokespecial 11, 3) := by decide +kernel
theorem dX1_init_12 : decode cX1_init 12 = .ok (.putfield 12, 3) := by decide +kernel
theorem dX1_init_15 : decode cX1_init 15 = .ok (.return_, 1) := by decide +kernel
set_option maxRecDepth 20000 in
theorem ggX1_tickOfCall_X8_copyFrom : GoodIn wsX1_tickOfCall wsX8_copyFrom := goodIn_r _ [6, 7, 8, 9, 10, 11, 12, 13, 14, 15, 16, 17, 18, 19, 20, 21, 22, 23, 24, 25, 26, 27, 28, 29, 30, 31, 32, 33, 34, 35, 36, 37, 38, 39, 40, 41, 42, 43, 44, 45, 46, 47, 48, 49, 145, 146, 147, 148, 149, 150, 151, 152, 153, 154, 155, 156, 157, 158, 159, 160, 161, 162, 163, 164, 165, 166] (by decide +kernel) (by decide +kernel)
set_option maxRecDepth 20000 in
theorem gX1_tickOfCall_X8_copyFrom : GoodIn wsX1_tickOfCall (wsV RX1 18 RX8 yX8_copyFrom wsX8_copyFrom) := goodIn_app (goodIn_of _ (by decide +kernel)) ggX1_tickOfCall_X8_copyFrom
set_option maxRecDepth 20000 in
theorem ggX1_tickOfCall_X5_fact : GoodIn wsX1_tickOfCall wsX5_fact := goodIn_r _ [53, 25, 158, 159] (by decide +kernel) (by decide +kernel)
set_option maxRecDepth 20000 in
theorem gX1_tickOfCall_X5_fact : GoodIn wsX1_tickOfCall (wsV RX1 28 RX5 yX5_fact wsX5_fact) := goodIn_app (goodIn_of _ (by decide +kernel)) ggX1_tickOfCall_X5_fact
set_option maxRecDepth 20000 in
theorem ggX1_tickOfCall_X8_passTick : GoodIn wsX1_tickOfCall wsX8_passTick := goodIn_r _ [57, 10, 14, 12, 19, 8, 58, 59, 60, 61, 62, 63, 64, 5, 65, 7, 16, 66, 67, 68, 69, 70, 71, 72, 34, 73, 39, 74, 75, 76, 77, 36, 78, 79, 80, 81, 41, 38, 40, 82, 83, 84, 85, 86, 87, 88, 89, 90, 91, 92, 23, 93, 94, 51, 52, 53, 25, 95, 96, 97, 98, 17, 99, 100, 101, 102, 103, 104, 105, 106, 107, 108, 109, 110, 111, 112, 113, 114, 115, 116, 117, 118, 119, 11, 120, 121, 122, 123, 15, 9, 124, 125, 126, 45, 127, 49, 47, 128, 129, 130, 131, 132, 133, 134, 135, 13, 18, 136, 137, 138, 139, 140, 141, 142, 143, 30, 145, 146, 147, 148, 149, 150, 151, 152, 153, 154, 155, 156, 157, 160, 161, 162, 163, 164, 158, 159, 165, 166] (by decide +kernel) (by decide +kernel)
set_option maxRecDepth 20000 in
theorem gX1_tickOfCall_X8_passTick : GoodIn wsX1_tickOfCall (wsV RX1 32 RX8 yX8_passTick wsX8_passTick) := goodIn_app (goodIn_of _ (by decide +kernel)) ggX1_tickOfCall_X8_passTick
theorem dX1_tickOfCall_0 : decode cX1_tickOfCall 0 = .ok (.aload_n 0, 1) := by decide +kernel
theorem dX1_tickOfCall_1 : decode cX1_tickOfCall 1 = .ok (.getfield 12, 3) := by decide +kernel
theorem dX1_tickOfCall_4 : decode cX1_tickOfCall 4 = .ok (.aload_n 1, 1) := by decide +kernel
theorem dX1_tickOfCall_5 : decode cX1_tickOfCall 5 = .ok (.invokevirtual 18, 3) := by decide +kernel
theorem dX1_tickOfCall_8 : decode cX1_tickOfCall 8 = .ok (.aload_n 0, 1) := by decide +kernel
theorem dX1_tickOfCall_9 : decode cX1_tickOfCall 9 = .ok (.getfield 12, 3) := by decide +kernel
theorem dX1_tickOfCall_12 : decode cX1_tickOfCall 12 = .ok (.getfield 22, 3) := by decide +kernel
theorem dX1_tickOfCall_15 : decode cX1_tickOfCall 15 = .ok (.iload_n 2, 1) := by decide +kernel
theorem dX1_tickOfCall_16 : decode cX1_tickOfCall 16 = .ok (.iconst 4, 1) := by decide +kernel
theorem dX1_tickOfCall_17 : decode cX1_tickOfCall 17 = .ok (.invokevirtual 28, 3) := by decide +kernel
theorem dX1_tickOfCall_20 : decode cX1_tickOfCall 20 = .ok (.istore_n 3, 1) := by decide +kernel
theorem dX1_tickOfCall_21 : decode cX1_tickOfCall 21 = .ok (.iconst 0, 1) := by decide +kernel
theorem dX1_tickOfCall_22 : decode cX1_tickOfCall 22 = .ok (.istore 4, 2) := by decide +kernel
theorem dX1_tickOfCall_24 : decode cX1_tickOfCall 24 = .ok (.iload 4, 2) := by decide +kernel
theorem dX1_tickOfCall_26 : decode cX1_tickOfCall 26 = .ok (.sipush 600, 3) := by decide +kernel
theorem dX1_tickOfCall_29 : decode cX1_tickOfCall 29 = .ok (.if_icmp .ge 40, 3) := by decide +kernel
theorem dX1_tickOfCall_32 : decode cX1_tickOfCall 32 = .ok (.aload_n 0, 1) := by decide +kernel
theorem dX1_tickOfCall_33 : decode cX1_tickOfCall 33 = .ok (.getfield 12, 3) := by decide +kernel
theorem dX1_tickOfCall_36 : decode cX1_tickOfCall 36 = .ok (.invokevirtual 32, 3) := by decide +kernel
theorem dX1_tickOfCall_39 : decode cX1_tickOfCall 39 = .ok (.aload_n 0, 1) := by decide +kernel
theorem dX1_tickOfCall_40 : decode cX1_tickOfCall 40 = .ok (.getfield 12, 3) := by decide +kernel
theorem dX1_tickOfCall_43 : decode cX1_tickOfCall 43 = .ok (.getfield 22, 3) := by decide +kernel
theorem dX1_tickOfCall_46 : decode cX1_tickOfCall 46 = .ok (.iload_n 2, 1) := by decide +kernel
theorem dX1_tickOfCall_47 : decode cX1_tickOfCall 47 = .ok (.iconst 4, 1) := by decide +kernel
theorem dX1_tickOfCall_48 : decode cX1_tickOfCall 48 = .ok (.invokevirtual 28, 3) := by decide +kernel
theorem dX1_tickOfCall_51 : decode cX1_tickOfCall 51 = .ok (.iload_n 3, 1) := by decide +kernel
theorem dX1_tickOfCall_52 : decode cX1_tickOfCall 52 = .ok (.if_icmp .eq 11, 3) := by decide +kernel
theorem dX1_tickOfCall_55 : decode cX1_tickOfCall 55 = .ok (.aload_n 0, 1) := by decide +kernel
theorem dX1_tickOfCall_56 : decode cX1_tickOfCall 56 = .ok (.getfield 12, 3) := by decide +kernel
theorem dX1_tickOfCall_59 : decode cX1_tickOfCall 59 = .ok (.getfield 35, 3) := by decide +kernel
theorem dX1_tickOfCall_62 : decode cX1_tickOfCall 62 = .ok (.ireturn, 1) := by decide +kernel
theorem dX1_tickOfCall_63 : decode cX1_tickOfCall 63 = .ok (.iinc 4 1, 3) := by decide +kernel
theorem dX1_tickOfCall_66 : decode cX1_tickOfCall 66 = .ok (.goto (-42), 3) := by decide +kernel
theorem dX1_tickOfCall_69 : decode cX1_tickOfCall 69 = .ok (.bipush (-9), 2) := by decide +kernel
theorem dX1_tickOfCall_71 : decode cX1_tickOfCall 71 = .ok (.ireturn, 1) := by decide +kernel
set_option maxRecDepth 20000 in
theorem ggX1_outcome_X8_copyFrom : GoodIn wsX1_outcome wsX8_copyFrom := goodIn_r _ [10, 11, 12, 13, 14, 15, 16, 17, 18, 19, 20, 21, 22, 23, 24, 25, 26, 27, 28, 29, 30, 31, 32, 33, 34, 35, 36, 37, 38, 39, 40, 41, 42, 43, 44, 45, 46, 47, 48, 49, 50, 51, 52, 53, 154, 155, 156, 157, 158, 159, 160, 161, 162, 163, 164, 165, 166, 167, 168, 169, 170, 171, 172, 173, 174, 175] (by decide +kernel) (by decide +kernel)
set_option maxRecDepth 20000 in
theorem gX1_outcome_X8_copyFrom : GoodIn wsX1_outcome (wsV RX1 18 RX8 yX8_copyFrom wsX8_copyFrom) := goodIn_app (goodIn_of _ (by decide +kernel)) ggX1_outcome_X8_copyFrom
set_option maxRecDepth 20000 in
theorem ggX1_outcome_X8_passTick : GoodIn wsX1_outcome wsX8_passTick := goodIn_r _ [57, 14, 18, 16, 23, 12, 58, 3, 4, 5, 59, 60, 61, 9, 62, 11, 20, 63, 64, 65, 66, 67, 68, 69, 38, 70, 43, 71, 72, 73, 74, 40, 75, 76, 77, 78, 45, 42, 44, 79, 80, 81, 82, 83, 84, 85, 86, 87, 88, 89, 27, 90, 91, 92, 93, 94, 29, 95, 96, 97, 98, 21, 99, 100, 101, 102, 103, 104, 105, 106, 107, 108, 109, 110, 111, 112, 113, 114, 115, 116, 117, 118, 119, 15, 120, 121, 122, 123, 19, 13, 124, 125, 126, 49, 127, 53, 51, 128, 129, 130, 131, 132, 133, 134, 135, 17, 22, 136, 137, 138, 139, 140, 141, 142, 143, 34, 154, 155, 156, 157, 158, 159, 160, 161, 162, 163, 164, 165, 166, 169, 170, 171, 172, 173, 167, 168, 174, 175] (by decide +kernel) (by decide +kernel)
set_option maxRecDepth 20000 in
theorem gX1_outcome_X8_passTick : GoodIn wsX1_outcome (wsV RX1 32 RX8 yX8_passTick wsX8_passTick) := goodIn_app (goodIn_of _ (by decide +kernel)) ggX1_outcome_X8_passTick
set_option maxRecDepth 20000 in
theorem ggX1_outcome_X5_howManyIn : GoodIn wsX1_outcome wsX5_howManyIn := goodIn_r _ [147, 34, 148, 88, 89, 27, 90, 91, 92, 93, 94, 29, 167, 168] (by decide +kernel) (by decide +kernel)
set_option maxRecDepth 20000 in
theorem gX1_outcome_X5_howManyIn : GoodIn wsX1_outcome (wsV RX1 39 RX5 yX5_howManyIn wsX5_howManyIn) := goodIn_app (goodIn_of _ (by decide +kernel)) ggX1_outcome_X5_howManyIn
set_option maxRecDepth 20000 in
theorem ggX1_outcome_X0_calls : GoodIn wsX1_outcome wsX0_calls := goodIn_r _ [152, 53, 174, 175] (by decide +kernel) (by decide +kernel)
set_option maxRecDepth 20000 in
theorem gX1_outcome_X0_calls : GoodIn wsX1_outcome (wsV RX1 52 RX0 yX0_calls wsX0_calls) := goodIn_app (goodIn_of _ (by decide +kernel)) ggX1_outcome_X0_calls
theorem dX1_outcome_0 : decode cX1_outcome 0 = .ok (.aload_n 0, 1) := by decide +kernel
theorem dX1_outcome_1 : decode cX1_outcome 1 = .ok (.getfield 12, 3) := by decide +kernel
theorem dX1_outcome_4 : decode cX1_outcome 4 = .ok (.aload_n 1, 1) := by decide +kernel
theorem dX1_outcome_5 : decode cX1_outcome 5 = .ok (.invokevirtual 18, 3) := by decide +kernel
theorem dX1_outcome_8 : decode cX1_outcome 8 = .ok (.iconst 0, 1) := by decide +kernel
theorem dX1_outcome_9 : decode cX1_outcome 9 = .ok (.istore 4, 2) := by decide +kernel
theorem dX1_outcome_11 : decode cX1_outcome 11 = .ok (.iconst 0, 1) := by decide +kernel
theorem dX1_outcome_12 : decode cX1_outcome 12 = .ok (.istore 5, 2) := by decide +kernel
theorem dX1_outcome_14 : decode cX1_outcome 14 = .ok (.iload 5, 2) := by decide +kernel
theorem dX1_outcome_16 : decode cX1_outcome 16 = .ok (.iload_n 2, 1) := by decide +kernel
theorem dX1_outcome_17 : decode cX1_outcome 17 = .ok (.if_icmp .ge 34, 3) := by decide +kernel
theorem dX1_outcome_20 : decode cX1_outcome 20 = .ok (.aload_n 0, 1) := by decide +kernel
theorem dX1_outcome_21 : decode cX1_outcome 21 = .ok (.getfield 12, 3) := by decide +kernel
theorem dX1_outcome_24 : decode cX1_outcome 24 = .ok (.invokevirtual 32, 3) := by decide +kernel
theorem dX1_outcome_27 : decode cX1_outcome 27 = .ok (.iload 4, 2) := by decide +kernel
theorem dX1_outcome_29 : decode cX1_outcome 29 = .ok (.aload_n 0, 1) := by decide +kernel
theorem dX1_outcome_30 : decode cX1_outcome 30 = .ok (.getfield 12, 3) := by decide +kernel
theorem dX1_outcome_33 : decode cX1_outcome 33 = .ok (.getfield 22, 3) := by decide +kernel
theorem dX1_outcome_36 : decode cX1_outcome 36 = .ok (.iconst 1, 1) := by decide +kernel
theorem dX1_outcome_37 : decode cX1_outcome 37 = .ok (.invokevirtual 39, 3) := by decide +kernel
theorem dX1_outcome_40 : decode cX1_outcome 40 = .ok (.invokestatic 43, 3) := by decide +kernel
theorem dX1_outcome_43 : decode cX1_outcome 43 = .ok (.istore 4, 2) := by decide +kernel
theorem dX1_outcome_45 : decode cX1_outcome 45 = .ok (.iinc 5 1, 3) := by decide +kernel
theorem dX1_outcome_48 : decode cX1_outcome 48 = .ok (.goto (-34), 3) := by decide +kernel
theorem dX1_outcome_51 : decode cX1_outcome 51 = .ok (.iload_n 3, 1) := by decide +kernel
theorem dX1_outcome_52 : decode cX1_outcome 52 = .ok (.lookupswitch 60 #[(0, 28), (1, 47)], 28) := by decide +kernel
theorem dX1_outcome_80 : decode cX1_outcome 80 = .ok (.aload_n 0, 1) := by decide +kernel
theorem dX1_outcome_81 : decode cX1_outcome 81 = .ok (.getfield 12, 3) := by decide +kernel
theorem dX1_outcome_84 : decode cX1_outcome 84 = .ok (.getfield 48, 3) := by decide +kernel
theorem dX1_outcome_87 : decode cX1_outcome 87 = .ok (.invokevirtual 52, 3) := by decide +kernel
theorem dX1_outcome_90 : decode cX1_outcome 90 = .ok (.aload_n 1, 1) := by decide +kernel
theorem dX1_outcome_91 : decode cX1_outcome 91 = .ok (.getfield 48, 3) := by decide +kernel
theorem dX1_outcome_94 : decode cX1_outcome 94 = .ok (.invokevirtual 52, 3) := by decide +kernel
theorem dX1_outcome_97 : decode cX1_outcome 97 = .ok (.isub, 1) := by decide +kernel
theorem dX1_outcome_98 : decode cX1_outcome 98 = .ok (.ireturn, 1) := by decide +kernel
theorem dX1_outcome_99 : decode cX1_outcome 99 = .ok (.aload_n 0, 1) := by decide +kernel
theorem dX1_outcome_100 : decode cX1_outcome 100 = .ok (.getfield 12, 3) := by decide +kernel
theorem dX1_outcome_103 : decode cX1_outcome 103 = .ok (.getfield 58, 3) := by decide +kernel
theorem dX1_outcome_106 : decode cX1_outcome 106 = .ok (.aload_n 1, 1) := by decide +kernel
theorem dX1_outcome_107 : decode cX1_outcome 107 = .ok (.getfield 58, 3) := by decide +kernel
theorem dX1_outcome_110 : decode cX1_outcome 110 = .ok (.isub, 1) := by decide +kernel
theorem dX1_outcome_111 : decode cX1_outcome 111 = .ok (.ireturn, 1) := by decide +kernel
theorem dX1_outcome_112 : decode cX1_outcome 112 = .ok (.iload 4, 2) := by decide +kernel
theorem dX1_outcome_114 : decode cX1_outcome 114 = .ok (.ireturn, 1) := by decide +kernel
set_option maxRecDepth 20000 in
theorem ggX1_leastTimelyRoom_X8_copyFrom : GoodIn wsX1_leastTimelyRoom wsX8_copyFrom := goodIn_r _ [6, 7, 8, 9, 10, 11, 12, 13, 14, 15, 16, 17, 18, 19, 20, 21, 22, 23, 24, 25, 26, 27, 28, 29, 30, 31, 32, 33, 34, 35, 36, 37, 38, 39, 40, 41, 42, 43, 44, 45, 46, 47, 48, 49, 149, 150, 151, 152, 153, 154, 155, 156, 157, 158, 159, 160, 161, 162, 163, 164, 165, 166, 167, 168, 169, 170] (by decide +kernel) (by decide +kernel)
set_option maxRecDepth 20000 in
theorem gX1_leastTimelyRoom_X8_copyFrom : GoodIn wsX1_leastTimelyRoom (wsV RX1 18 RX8 yX8_copyFrom wsX8_copyFrom) := goodIn_app (goodIn_of _ (by decide +kernel)) ggX1_leastTimelyRoom_X8_copyFrom
set_option maxRecDepth 20000 in
theorem ggX1_leastTimelyRoom_X1_isTimely : GoodIn wsX1_leastTimelyRoom wsX1_isTimely := goodIn_r _ [54, 1, 55, 56, 57, 5, 58, 10, 14, 12, 19, 8, 59, 60, 61, 62, 63, 64, 65, 66, 7, 16, 67, 68, 69, 70, 71, 72, 73, 34, 74, 39, 75, 76, 77, 78, 36, 79, 80, 81, 82, 41, 38, 40, 83, 84, 85, 86, 87, 88, 89, 90, 91, 92, 93, 23, 94, 95, 96, 97, 98, 25, 99, 100, 101, 102, 17, 103, 104, 105, 106, 107, 108, 109, 110, 111, 112, 113, 114, 115, 116, 117, 118, 119, 120, 121, 122, 123, 11, 124, 125, 126, 127, 15, 9, 128, 129, 130, 45, 131, 49, 47, 132, 133, 134, 135, 136, 137, 138, 139, 13, 18, 140, 141, 142, 143, 144, 145, 146, 147, 30, 148, 149, 150, 151, 152, 153, 154, 155, 156, 157, 158, 159, 160, 161, 164, 165, 166, 167, 168, 162, 163, 169, 170] (by decide +kernel) (by decide +kernel)
set_option maxRecDepth 20000 in
theorem gX1_leastTimelyRoom_X1_isTimely : GoodIn wsX1_leastTimelyRoom (wsV RX1 64 RX1 yX1_isTimely wsX1_isTimely) := goodIn_app (goodIn_of _ (by decide +kernel)) ggX1_leastTimelyRoom_X1_isTimely
theorem dX1_leastTimelyRoom_0 : decode cX1_leastTimelyRoom 0 = .ok (.iconst 1, 1) := by decide +kernel
theorem dX1_leastTimelyRoom_1 : decode cX1_leastTimelyRoom 1 = .ok (.istore_n 3, 1) := by decide +kernel
theorem dX1_leastTimelyRoom_2 : decode cX1_leastTimelyRoom 2 = .ok (.iload_n 3, 1) := by decide +kernel
theorem dX1_leastTimelyRoom_3 : decode cX1_leastTimelyRoom 3 = .ok (.bipush 20, 2) := by decide +kernel
theorem dX1_leastTimelyRoom_5 : decode cX1_leastTimelyRoom 5 = .ok (.if_icmp .gt 35, 3) := by decide +kernel
theorem dX1_leastTimelyRoom_8 : decode cX1_leastTimelyRoom 8 = .ok (.aload_n 0, 1) := by decide +kernel
theorem dX1_leastTimelyRoom_9 : decode cX1_leastTimelyRoom 9 = .ok (.getfield 12, 3) := by decide +kernel
theorem dX1_leastTimelyRoom_12 : decode cX1_leastTimelyRoom 12 = .ok (.aload_n 1, 1) := by decide +kernel
theorem dX1_leastTimelyRoom_13 : decode cX1_leastTimelyRoom 13 = .ok (.invokevirtual 18, 3) := by decide +kernel
theorem dX1_leastTimelyRoom_16 : decode cX1_leastTimelyRoom 16 = .ok (.aload_n 0, 1) := by decide +kernel
theorem dX1_leastTimelyRoom_17 : decode cX1_leastTimelyRoom 17 = .ok (.getfield 12, 3) := by decide +kernel
theorem dX1_leastTimelyRoom_20 : decode cX1_leastTimelyRoom 20 = .ok (.iload_n 3, 1) := by decide +kernel
theorem dX1_leastTimelyRoom_21 : decode cX1_leastTimelyRoom 21 = .ok (.putfield 61, 3) := by decide +kernel
theorem dX1_leastTimelyRoom_24 : decode cX1_leastTimelyRoom 24 = .ok (.aload_n 0, 1) := by decide +kernel
theorem dX1_leastTimelyRoom_25 : decode cX1_leastTimelyRoom 25 = .ok (.iload_n 2, 1) := by decide +kernel
theorem dX1_leastTimelyRoom_26 : decode cX1_leastTimelyRoom 26 = .ok (.invokevirtual 64, 3) := by decide +kernel
theorem dX1_leastTimelyRoom_29 : decode cX1_leastTimelyRoom 29 = .ok (.ifCond .eq 5, 3) := by decide +kernel
theorem dX1_leastTimelyRoom_32 : decode cX1_leastTimelyRoom 32 = .ok (.iload_n 3, 1) := by decide +kernel
theorem dX1_leastTimelyRoom_33 : decode cX1_leastTimelyRoom 33 = .ok (.ireturn, 1) := by decide +kernel
theorem dX1_leastTimelyRoom_34 : decode cX1_leastTimelyRoom 34 = .ok (.iinc 3 1, 3) := by decide +kernel
theorem dX1_leastTimelyRoom_37 : decode cX1_leastTimelyRoom 37 = .ok (.goto (-35), 3) := by decide +kernel
theorem dX1_leastTimelyRoom_40 : decode cX1_leastTimelyRoom 40 = .ok (.bipush (-9), 2) := by decide +kernel
theorem dX1_leastTimelyRoom_42 : decode cX1_leastTimelyRoom 42 = .ok (.ireturn, 1) := by decide +kernel
set_option maxRecDepth 20000 in
theorem ggX1_isTimely_X8_passTick : GoodIn wsX1_isTimely wsX8_passTick := goodIn_r _ [6, 7, 8, 9, 10, 11, 12, 13, 14, 15, 16, 17, 18, 5, 19, 20, 21, 22, 23, 24, 25, 26, 27, 28, 29, 30, 31, 32, 33, 34, 35, 36, 37, 38, 39, 40, 41, 42, 43, 44, 45, 46, 47, 48, 49, 50, 51, 52, 53, 54, 55, 56, 57, 58, 59, 60, 61, 62, 63, 64, 65, 66, 67, 68, 69, 70, 71, 72, 73, 74, 75, 76, 77, 78, 79, 80, 81, 82, 83, 84, 85, 86, 87, 88, 89, 90, 91, 92, 93, 94, 95, 96, 97, 98, 99, 100, 101, 102, 103, 104, 105, 106, 107, 108, 109, 110, 111, 112, 113, 114, 115, 116, 117, 118, 119, 120, 122, 123, 124, 125, 126, 127, 128, 129, 130, 131, 132, 133, 134, 135, 136, 137, 138, 139, 140, 141, 142, 143] (by decide +kernel) (by decide +kernel)
set_option maxRecDepth 20000 in
theorem gX1_isTimely_X8_passTick : GoodIn wsX1_isTimely (wsV RX1 32 RX8 yX8_passTick wsX8_passTick) := goodIn_app (goodIn_of _ (by decide +kernel)) ggX1_isTimely_X8_passTick
theorem dX1_isTimely_0 : decode cX1_isTimely 0 = .ok (.aload_n 0, 1) := by decide +kernel
theorem dX1_isTimely_1 : decode cX1_isTimely 1 = .ok (.getfield 12, 3) := by decide +kernel
theorem dX1_isTimely_4 : decode cX1_isTimely 4 = .ok (.getfield 58, 3) := by decide +kernel
theorem dX1_isTimely_7 : decode cX1_isTimely 7 = .ok (.istore_n 2, 1) := by decide +kernel
theorem dX1_isTimely_8 : decode cX1_isTimely 8 = .ok (.iconst 0, 1) := by decide +kernel
theorem dX1_isTimely_9 : decode cX1_isTimely 9 = .ok (.istore_n 3, 1) := by decide +kernel
theorem dX1_isTimely_10 : decode cX1_isTimely 10 = .ok (.iload_n 3, 1) := by decide +kernel
theorem dX1_isTimely_11 : decode cX1_isTimely 11 = .ok (.iload_n 1, 1) := by decide +kernel
theorem dX1_isTimely_12 : decode cX1_isTimely 12 = .ok (.if_icmp .ge 27, 3) := by decide +kernel
theorem dX1_isTimely_15 : decode cX1_isTimely 15 = .ok (.aload_n 0, 1) := by decide +kernel
theorem dX1_isTimely_16 : decode cX1_isTimely 16 = .ok (.getfield 12, 3) := by decide +kernel
theorem dX1_isTimely_19 : decode cX1_isTimely 19 = .ok (.getfield 58, 3) := by decide +kernel
theorem dX1_isTimely_22 : decode cX1_isTimely 22 = .ok (.iload_n 2, 1) := by decide +kernel
theorem dX1_isTimely_23 : decode cX1_isTimely 23 = .ok (.if_icmp .ne 16, 3) := by decide +kernel
theorem dX1_isTimely_26 : decode cX1_isTimely 26 = .ok (.aload_n 0, 1) := by decide +kernel
theorem dX1_isTimely_27 : decode cX1_isTimely 27 = .ok (.getfield 12, 3) := by decide +kernel
theorem dX1_isTimely_30 : decode cX1_isTimely 30 = .ok (.invokevirtual 32, 3) := by decide +kernel
theorem dX1_isTimely_33 : decode cX1_isTimely 33 = .ok (.iinc 3 1, 3) := by decide +kernel
theorem dX1_isTimely_36 : decode cX1_isTimely 36 = .ok (.goto (-26), 3) := by decide +kernel
theorem dX1_isTimely_39 : decode cX1_isTimely 39 = .ok (.aload_n 0, 1) := by decide +kernel
theorem dX1_isTimely_40 : decode cX1_isTimely 40 = .ok (.getfield 12, 3) := by decide +kernel
theorem dX1_isTimely_43 : decode cX1_isTimely 43 = .ok (.getfield 58, 3) := by decide +kernel
theorem dX1_isTimely_46 : decode cX1_isTimely 46 = .ok (.iload_n 2, 1) := by decide +kernel
theorem dX1_isTimely_47 : decode cX1_isTimely 47 = .ok (.if_icmp .ne 7, 3) := by decide +kernel
theorem dX1_isTimely_50 : decode cX1_isTimely 50 = .ok (.iconst 1, 1) := by decide +kernel
theorem dX1_isTimely_51 : decode cX1_isTimely 51 = .ok (.goto 4, 3) := by decide +kernel
theorem dX1_isTimely_54 : decode cX1_isTimely 54 = .ok (.iconst 0, 1) := by decide +kernel
theorem dX1_isTimely_55 : decode cX1_isTimely 55 = .ok (.ireturn, 1) := by decide +kernel
set_option maxRecDepth 20000 in
theorem ggX2_init_X6_init : GoodIn wsX2_init wsX6_init := goodIn_r _ [10, 11, 2, 3, 12, 13, 14, 15, 16, 17, 18, 19, 20, 21, 22, 23, 24, 25, 26, 27, 28, 29, 30, 31, 32, 33, 34, 35, 36, 37, 38, 39, 40, 41, 42, 43, 44, 45, 46, 47, 48, 49, 50, 51, 52, 53, 54, 55, 56, 57, 64, 65, 66, 67, 68, 69, 70, 71, 72, 73, 74, 75, 76, 61, 62, 63, 77, 78, 79, 80, 81, 82, 83, 84, 85] (by decide +kernel) (by decide +kernel)
set_option maxRecDepth 20000 in
theorem gX2_init_X6_init : GoodIn wsX2_init (wsX6_init) := ggX2_init_X6_init
theorem dX2_init_0 : decode cX2_init 0 = .ok (.aload_n 0, 1) := by decide +kernel
theorem dX2_init_1 : decode cX2_init 1 = .ok (.invokespecial 5, 3) := by decide +kernel
theorem dX2_init_4 : decode cX2_init 4 = .ok (.aload_n 0, 1) := by decide +kernel
theorem dX2_init_5 : decode cX2_init 5 = .ok (.bipush 6, 2) := by decide +kernel
theorem dX2_init_7 : decode cX2_init 7 = .ok (.anewarray 11, 3) := by decide +kernel
theorem dX2_init_10 : decode cX2_init 10 = .ok (.putfield 13, 3) := by decide +kernel
theorem dX2_init_13 : decode cX2_init 13 = .ok (.iconst 0, 1) := by decide +kernel
theorem dX2_init_14 : decode cX2_init 14 = .ok (.istore_n 1, 1) := by decide +kernel
theorem dX2_init_15 : decode cX2_init 15 = .ok (.iload_n 1, 1) := by decide +kernel
theorem dX2_init_16 : decode cX2_init 16 = .ok (.bipush 6, 2) := by decide +kernel
theorem dX2_init_18 : decode cX2_init 18 = .ok (.if_icmp .ge 22, 3) := by decide +kernel
theorem dX2_init_21 : decode cX2_init 21 = .ok (.aload_n 0, 1) := by decide +kernel
theorem dX2_init_22 : decode cX2_init 22 = .ok (.getfield 13, 3) := by decide +kernel
theorem dX2_init_25 : decode cX2_init 25 = .ok (.iload_n 1, 1) := by decide +kernel
theorem dX2_init_26 : decode cX2_init 26 = .ok (.new 11, 3) := by decide +kernel
theorem dX2_init_29 : decode cX2_init 29 = .ok (.dup, 1) := by decide +kernel
theorem dX2_init_30 : decode cX2_init 30 = .ok (.invokespecial 17, 3) := by decide +kernel
theorem dX2_init_33 : decode cX2_init 33 = .ok (.aastore, 1) := by decide +kernel
theorem dX2_init_34 : decode cX2_init 34 = .ok (.iinc 1 1, 3) := by decide +kernel
theorem dX2_init_37 : decode cX2_init 37 = .ok (.goto (-22), 3) := by decide +kernel
theorem dX2_init_40 : decode cX2_init 40 = .ok (.return_, 1) := by decide +kernel
theorem dX2_size_0 : decode cX2_size 0 = .ok (.aload_n 0, 1) := by decide +kernel
theorem dX2_size_1 : decode cX2_size 1 = .ok (.getfield 18, 3) := by decide +kernel
theorem dX2_size_4 : decode cX2_size 4 = .ok (.ireturn, 1) := by decide +kernel
set_option maxRecDepth 20000 in
theorem ggX2_note_X2_rowAt : GoodIn wsX2_note wsX2_rowAt := goodIn_r _ [6, 7, 64, 65, 66] (by decide +kernel) (by decide +kernel)
set_option maxRecDepth 20000 in
theorem gX2_note_X2_rowAt : GoodIn wsX2_note (wsV RX2 25 RX2 yX2_rowAt wsX2_rowAt) := goodIn_app (goodIn_of _ (by decide +kernel)) ggX2_note_X2_rowAt
set_option maxRecDepth 20000 in
theorem ggX2_note_X6_copyFrom : GoodIn wsX2_note wsX6_copyFrom := goodIn_r _ [12, 13, 14, 15, 16, 17, 18, 19, 20, 21, 22, 23, 24, 25, 26, 27, 28, 29, 30, 31, 32, 33, 34, 35, 36, 37, 38, 39, 40, 41, 42, 43, 44, 45, 46, 47, 48, 49, 50, 51, 52, 53, 54, 55, 56, 57, 58, 59, 60, 61, 62, 63, 67, 68, 69, 70, 71, 72, 73, 74, 75, 76, 77, 78, 79, 80, 81, 82, 83, 84, 85, 86, 87, 88, 89, 90, 91] (by decide +kernel) (by decide +kernel)
set_option maxRecDepth 20000 in
theorem gX2_note_X6_copyFrom : GoodIn wsX2_note (wsV RX2 29 RX6 yX6_copyFrom wsX6_copyFrom) := goodIn_app (goodIn_of _ (by decide +kernel)) ggX2_note_X6_copyFrom
theorem dX2_note_0 : decode cX2_note 0 = .ok (.aload_n 0, 1) := by decide +kernel
theorem dX2_note_1 : decode cX2_note 1 = .ok (.aload_n 0, 1) := by decide +kernel
theorem dX2_note_2 : decode cX2_note 2 = .ok (.getfield 22, 3) := by decide +kernel
theorem dX2_note_5 : decode cX2_note 5 = .ok (.invokevirtual 25, 3) := by decide +kernel
theorem dX2_note_8 : decode cX2_note 8 = .ok (.astore_n 2, 1) := by decide +kernel
theorem dX2_note_9 : decode cX2_note 9 = .ok (.aload_n 2, 1) := by decide +kernel
theorem dX2_note_10 : decode cX2_note 10 = .ok (.ifnull 8, 3) := by decide +kernel
theorem dX2_note_13 : decode cX2_note 13 = .ok (.aload_n 2, 1) := by decide +kernel
theorem dX2_note_14 : decode cX2_note 14 = .ok (.aload_n 1, 1) := by decide +kernel
theorem dX2_note_15 : decode cX2_note 15 = .ok (.invokevirtual 29, 3) := by decide +kernel
theorem dX2_note_18 : decode cX2_note 18 = .ok (.return_, 1) := by decide +kernel
theorem dX2_keepNoted_0 : decode cX2_keepNoted 0 = .ok (.aload_n 0, 1) := by decide +kernel
theorem dX2_keepNoted_1 : decode cX2_keepNoted 1 = .ok (.aload_n 0, 1) := by decide +kernel
theorem dX2_keepNoted_2 : decode cX2_keepNoted 2 = .ok (.getfield 22, 3) := by decide +kernel
theorem dX2_keepNoted_5 : decode cX2_keepNoted 5 = .ok (.iconst 1, 1) := by decide +kernel
theorem dX2_keepNoted_6 : decode cX2_keepNoted 6 = .ok (.iadd, 1) := by decide +kernel
theorem dX2_keepNoted_7 : decode cX2_keepNoted 7 = .ok (.bipush 6, 2) := by decide +kernel
theorem dX2_keepNoted_9 : decode cX2_keepNoted 9 = .ok (.irem, 1) := by decide +kernel
theorem dX2_keepNoted_10 : decode cX2_keepNoted 10 = .ok (.putfield 22, 3) := by decide +kernel
theorem dX2_keepNoted_13 : decode cX2_keepNoted 13 = .ok (.aload_n 0, 1) := by decide +kernel
theorem dX2_keepNoted_14 : decode cX2_keepNoted 14 = .ok (.aload_n 0, 1) := by decide +kernel
theorem dX2_keepNoted_15 : decode cX2_keepNoted 15 = .ok (.getfield 18, 3) := by decide +kernel
theorem dX2_keepNoted_18 : decode cX2_keepNoted 18 = .ok (.iconst 1, 1) := by decide +kernel
theorem dX2_keepNoted_19 : decode cX2_keepNoted 19 = .ok (.iadd, 1) := by decide +kernel
theorem dX2_keepNoted_20 : decode cX2_keepNoted 20 = .ok (.iconst 5, 1) := by decide +kernel
theorem dX2_keepNoted_21 : decode cX2_keepNoted 21 = .ok (.invokestatic 33, 3) := by decide +kernel
theorem dX2_keepNoted_24 : decode cX2_keepNoted 24 = .ok (.putfield 18, 3) := by decide +kernel
theorem dX2_keepNoted_27 : decode cX2_keepNoted 27 = .ok (.return_, 1) := by decide +kernel
set_option maxRecDepth 20000 in
theorem ggX2_copyNotedInto_X2_rowAt : GoodIn wsX2_copyNotedInto wsX2_rowAt := goodIn_r _ [6, 7, 64, 65, 66] (by decide +kernel) (by decide +kernel)
set_option maxRecDepth 20000 in
theorem gX2_copyNotedInto_X2_rowAt : GoodIn wsX2_copyNotedInto (wsV RX2 25 RX2 yX2_rowAt wsX2_rowAt) := goodIn_app (goodIn_of _ (by decide +kernel)) ggX2_copyNotedInto_X2_rowAt
set_option maxRecDepth 20000 in
theorem ggX2_copyNotedInto_X6_copyFrom : GoodIn wsX2_copyNotedInto wsX6_copyFrom := goodIn_r _ [12, 13, 14, 15, 16, 17, 18, 19, 20, 21, 22, 23, 24, 25, 26, 27, 28, 29, 30, 31, 32, 33, 34, 35, 36, 37, 38, 39, 40, 41, 42, 43, 44, 45, 46, 47, 48, 49, 50, 51, 52, 53, 54, 55, 56, 57, 58, 59, 60, 61, 62, 63, 67, 68, 69, 70, 71, 72, 73, 74, 75, 76, 77, 78, 79, 80, 81, 82, 83, 84, 85, 86, 87, 88, 89, 90, 91] (by decide +kernel) (by decide +kernel)
set_option maxRecDepth 20000 in
theorem gX2_copyNotedInto_X6_copyFrom : GoodIn wsX2_copyNotedInto (wsV RX2 29 RX6 yX6_copyFrom wsX6_copyFrom) := goodIn_app (goodIn_of _ (by decide +kernel)) ggX2_copyNotedInto_X6_copyFrom
theorem dX2_copyNotedInto_0 : decode cX2_copyNotedInto 0 = .ok (.aload_n 0, 1) := by decide +kernel
theorem dX2_copyNotedInto_1 : decode cX2_copyNotedInto 1 = .ok (.aload_n 0, 1) := by decide +kernel
theorem dX2_copyNotedInto_2 : decode cX2_copyNotedInto 2 = .ok (.getfield 22, 3) := by decide +kernel
theorem dX2_copyNotedInto_5 : decode cX2_copyNotedInto 5 = .ok (.invokevirtual 25, 3) := by decide +kernel
theorem dX2_copyNotedInto_8 : decode cX2_copyNotedInto 8 = .ok (.astore_n 2, 1) := by decide +kernel
theorem dX2_copyNotedInto_9 : decode cX2_copyNotedInto 9 = .ok (.aload_n 2, 1) := by decide +kernel
theorem dX2_copyNotedInto_10 : decode cX2_copyNotedInto 10 = .ok (.ifnull 8, 3) := by decide +kernel
theorem dX2_copyNotedInto_13 : decode cX2_copyNotedInto 13 = .ok (.aload_n 1, 1) := by decide +kernel
theorem dX2_copyNotedInto_14 : decode cX2_copyNotedInto 14 = .ok (.aload_n 2, 1) := by decide +kernel
theorem dX2_copyNotedInto_15 : decode cX2_copyNotedInto 15 = .ok (.invokevirtual 29, 3) := by decide +kernel
theorem dX2_copyNotedInto_18 : decode cX2_copyNotedInto 18 = .ok (.return_, 1) := by decide +kernel
set_option maxRecDepth 20000 in
theorem ggX2_stepBack_X2_copyNotedInto : GoodIn wsX2_stepBack wsX2_copyNotedInto := goodIn_r _ [7, 2, 8, 9, 10, 6, 11, 12, 13, 14, 15, 16, 17, 18, 19, 20, 21, 22, 23, 24, 25, 26, 27, 28, 29, 30, 31, 32, 33, 34, 35, 36, 37, 38, 39, 40, 41, 42, 43, 44, 45, 46, 47, 48, 49, 50, 51, 52, 53, 54, 55, 56, 57, 58, 59, 60, 61, 62, 63, 64, 65, 66, 67, 68, 69, 70, 71, 72, 73, 74, 75, 76, 77, 78, 79, 80, 81, 82, 83, 84, 85, 86, 87, 88, 89, 90, 91, 92, 93, 94, 95, 96] (by decide +kernel) (by decide +kernel)
set_option maxRecDepth 20000 in
theorem gX2_stepBack_X2_copyNotedInto : GoodIn wsX2_stepBack (wsV RX2 39 RX2 yX2_copyNotedInto wsX2_copyNotedInto) := goodIn_app (goodIn_of _ (by decide +kernel)) ggX2_stepBack_X2_copyNotedInto
theorem dX2_stepBack_0 : decode cX2_stepBack 0 = .ok (.aload_n 0, 1) := by decide +kernel
theorem dX2_stepBack_1 : decode cX2_stepBack 1 = .ok (.getfield 18, 3) := by decide +kernel
theorem dX2_stepBack_4 : decode cX2_stepBack 4 = .ok (.iconst 1, 1) := by decide +kernel
theorem dX2_stepBack_5 : decode cX2_stepBack 5 = .ok (.if_icmp .ge 6, 3) := by decide +kernel
theorem dX2_stepBack_8 : decode cX2_stepBack 8 = .ok (.bipush (-2), 2) := by decide +kernel
theorem dX2_stepBack_10 : decode cX2_stepBack 10 = .ok (.ireturn, 1) := by decide +kernel
theorem dX2_stepBack_11 : decode cX2_stepBack 11 = .ok (.aload_n 0, 1) := by decide +kernel
theorem dX2_stepBack_12 : decode cX2_stepBack 12 = .ok (.aload_n 0, 1) := by decide +kernel
theorem dX2_stepBack_13 : decode cX2_stepBack 13 = .ok (.getfield 22, 3) := by decide +kernel
theorem dX2_stepBack_16 : decode cX2_stepBack 16 = .ok (.bipush 6, 2) := by decide +kernel
theorem dX2_stepBack_18 : decode cX2_stepBack 18 = .ok (.iadd, 1) := by decide +kernel
theorem dX2_stepBack_19 : decode cX2_stepBack 19 = .ok (.iconst 1, 1) := by decide +kernel
theorem dX2_stepBack_20 : decode cX2_stepBack 20 = .ok (.isub, 1) := by decide +kernel
theorem dX2_stepBack_21 : decode cX2_stepBack 21 = .ok (.bipush 6, 2) := by decide +kernel
theorem dX2_stepBack_23 : decode cX2_stepBack 23 = .ok (.irem, 1) := by decide +kernel
theorem dX2_stepBack_24 : decode cX2_stepBack 24 = .ok (.putfield 22, 3) := by decide +kernel
theorem dX2_stepBack_27 : decode cX2_stepBack 27 = .ok (.aload_n 0, 1) := by decide +kernel
theorem dX2_stepBack_28 : decode cX2_stepBack 28 = .ok (.dup, 1) := by decide +kernel
theorem dX2_stepBack_29 : decode cX2_stepBack 29 = .ok (.getfield 18, 3) := by decide +kernel
theorem dX2_stepBack_32 : decode cX2_stepBack 32 = .ok (.iconst 1, 1) := by decide +kernel
theorem dX2_stepBack_33 : decode cX2_stepBack 33 = .ok (.isub, 1) := by decide +kernel
theorem dX2_stepBack_34 : decode cX2_stepBack 34 = .ok (.putfield 18, 3) := by decide +kernel
theorem dX2_stepBack_37 : decode cX2_stepBack 37 = .ok (.aload_n 0, 1) := by decide +kernel
theorem dX2_stepBack_38 : decode cX2_stepBack 38 = .ok (.aload_n 1, 1) := by decide +kernel
theorem dX2_stepBack_39 : decode cX2_stepBack 39 = .ok (.invokevirtual 39, 3) := by decide +kernel
theorem dX2_stepBack_42 : decode cX2_stepBack 42 = .ok (.aload_n 0, 1) := by decide +kernel
theorem dX2_stepBack_43 : decode cX2_stepBack 43 = .ok (.getfield 18, 3) := by decide +kernel
theorem dX2_stepBack_46 : decode cX2_stepBack 46 = .ok (.ireturn, 1) := by decide +kernel
theorem dX2_rowAt_0 : decode cX2_rowAt 0 = .ok (.iload_n 1, 1) := by decide +kernel
theorem dX2_rowAt_1 : decode cX2_rowAt 1 = .ok (.ifCond .lt 9, 3) := by decide +kernel
theorem dX2_rowAt_4 : decode cX2_rowAt 4 = .ok (.iload_n 1, 1) := by decide +kernel
theorem dX2_rowAt_5 : decode cX2_rowAt 5 = .ok (.bipush 6, 2) := by decide +kernel
theorem dX2_rowAt_7 : decode cX2_rowAt 7 = .ok (.if_icmp .lt 7, 3) := by decide +kernel
theorem dX2_rowAt_10 : decode cX2_rowAt 10 = .ok (.aconst_null, 1) := by decide +kernel
theorem dX2_rowAt_11 : decode cX2_rowAt 11 = .ok (.goto 9, 3) := by decide +kernel
theorem dX2_rowAt_14 : decode cX2_rowAt 14 = .ok (.aload_n 0, 1) := by decide +kernel
theorem dX2_rowAt_15 : decode cX2_rowAt 15 = .ok (.getfield 13, 3) := by decide +kernel
theorem dX2_rowAt_18 : decode cX2_rowAt 18 = .ok (.iload_n 1, 1) := by decide +kernel
theorem dX2_rowAt_19 : decode cX2_rowAt 19 = .ok (.aaload, 1) := by decide +kernel
theorem dX2_rowAt_20 : decode cX2_rowAt 20 = .ok (.areturn, 1) := by decide +kernel
set_option maxRecDepth 20000 in
theorem ggX3_init_J7_fill_53178 : GoodIn wsX3_init wsJ7_fill_53178 := goodIn_r _ [13] (by decide +kernel) (by decide +kernel)
set_option maxRecDepth 20000 in
theorem gX3_init_J7_fill_53178 : GoodIn wsX3_init (va_wsS RX3 27 yJ7_fill_53178 wsJ7_fill_53178) := goodIn_app (goodIn_of _ (by decide +kernel)) ggX3_init_J7_fill_53178
theorem dX3_init_0 : decode cX3_init 0 = .ok (.aload_n 0, 1) := by decide +kernel
theorem dX3_init_1 : decode cX3_init 1 = .ok (.invokespecial 3, 3) := by decide +kernel
theorem dX3_init_4 : decode cX3_init 4 = .ok (.aload_n 0, 1) := by decide +kernel
theorem dX3_init_5 : decode cX3_init 5 = .ok (.bipush 25, 2) := by decide +kernel
theorem dX3_init_7 : decode cX3_init 7 = .ok (.newarray .int, 2) := by decide +kernel
theorem dX3_init_9 : decode cX3_init 9 = .ok (.putfield 9, 3) := by decide +kernel
theorem dX3_init_12 : decode cX3_init 12 = .ok (.aload_n 0, 1) := by decide +kernel
theorem dX3_init_13 : decode cX3_init 13 = .ok (.bipush 25, 2) := by decide +kernel
theorem dX3_init_15 : decode cX3_init 15 = .ok (.newarray .int, 2) := by decide +kernel
theorem dX3_init_17 : decode cX3_init 17 = .ok (.putfield 15, 3) := by decide +kernel
theorem dX3_init_20 : decode cX3_init 20 = .ok (.aload_n 0, 1) := by decide +kernel
theorem dX3_init_21 : decode cX3_init 21 = .ok (.bipush 25, 2) := by decide +kernel
theorem dX3_init_23 : decode cX3_init 23 = .ok (.newarray .int, 2) := by decide +kernel
theorem dX3_init_25 : decode cX3_init 25 = .ok (.putfield 18, 3) := by decide +kernel
theorem dX3_init_28 : decode cX3_init 28 = .ok (.aload_n 0, 1) := by decide +kernel
theorem dX3_init_29 : decode cX3_init 29 = .ok (.bipush 40, 2) := by decide +kernel
theorem dX3_init_31 : decode cX3_init 31 = .ok (.newarray .int, 2) := by decide +kernel
theorem dX3_init_33 : decode cX3_init 33 = .ok (.putfield 21, 3) := by decide +kernel
theorem dX3_init_36 : decode cX3_init 36 = .ok (.aload_n 0, 1) := by decide +kernel
theorem dX3_init_37 : decode cX3_init 37 = .ok (.bipush 40, 2) := by decide +kernel
theorem dX3_init_39 : decode cX3_init 39 = .ok (.newarray .int, 2) := by decide +kernel
theorem dX3_init_41 : decode cX3_init 41 = .ok (.putfield 24, 3) := by decide +kernel
theorem dX3_init_44 : decode cX3_init 44 = .ok (.aload_n 0, 1) := by decide +kernel
theorem dX3_init_45 : decode cX3_init 45 = .ok (.getfield 9, 3) := by decide +kernel
theorem dX3_init_48 : decode cX3_init 48 = .ok (.iconst (-1), 1) := by decide +kernel
theorem dX3_init_49 : decode cX3_init 49 = .ok (.invokestatic 27, 3) := by decide +kernel
theorem dX3_init_52 : decode cX3_init 52 = .ok (.aload_n 0, 1) := by decide +kernel
theorem dX3_init_53 : decode cX3_init 53 = .ok (.getfield 15, 3) := by decide +kernel
theorem dX3_init_56 : decode cX3_init 56 = .ok (.iconst (-1), 1) := by decide +kernel
theorem dX3_init_57 : decode cX3_init 57 = .ok (.invokestatic 27, 3) := by decide +kernel
theorem dX3_init_60 : decode cX3_init 60 = .ok (.aload_n 0, 1) := by decide +kernel
theorem dX3_init_61 : decode cX3_init 61 = .ok (.getfield 21, 3) := by decide +kernel
theorem dX3_init_64 : decode cX3_init 64 = .ok (.iconst (-1), 1) := by decide +kernel
theorem dX3_init_65 : decode cX3_init 65 = .ok (.invokestatic 27, 3) := by decide +kernel
theorem dX3_init_68 : decode cX3_init 68 = .ok (.aload_n 0, 1) := by decide +kernel
theorem dX3_init_69 : decode cX3_init 69 = .ok (.getfield 24, 3) := by decide +kernel
theorem dX3_init_72 : decode cX3_init 72 = .ok (.iconst (-1), 1) := by decide +kernel
theorem dX3_init_73 : decode cX3_init 73 = .ok (.invokestatic 27, 3) := by decide +kernel
theorem dX3_init_76 : decode cX3_init 76 = .ok (.return_, 1) := by decide +kernel
theorem dX3_copyFrom_0 : decode cX3_copyFrom 0 = .ok (.aload_n 1, 1) := by decide +kernel
theorem dX3_copyFrom_1 : decode cX3_copyFrom 1 = .ok (.getfield 9, 3) := by decide +kernel
theorem dX3_copyFrom_4 : decode cX3_copyFrom 4 = .ok (.iconst 0, 1) := by decide +kernel
theorem dX3_copyFrom_5 : decode cX3_copyFrom 5 = .ok (.aload_n 0, 1) := by decide +kernel
theorem dX3_copyFrom_6 : decode cX3_copyFrom 6 = .ok (.getfield 9, 3) := by decide +kernel
theorem dX3_copyFrom_9 : decode cX3_copyFrom 9 = .ok (.iconst 0, 1) := by decide +kernel
theorem dX3_copyFrom_10 : decode cX3_copyFrom 10 = .ok (.bipush 25, 2) := by decide +kernel
theorem dX3_copyFrom_12 : decode cX3_copyFrom 12 = .ok (.invokestatic 33, 3) := by decide +kernel
theorem dX3_copyFrom_15 : decode cX3_copyFrom 15 = .ok (.aload_n 1, 1) := by decide +kernel
theorem dX3_copyFrom_16 : decode cX3_copyFrom 16 = .ok (.getfield 15, 3) := by decide +kernel
theorem dX3_copyFrom_19 : decode cX3_copyFrom 19 = .ok (.iconst 0, 1) := by decide +kernel
theorem dX3_copyFrom_20 : decode cX3_copyFrom 20 = .ok (.aload_n 0, 1) := by decide +kernel
theorem dX3_copyFrom_21 : decode cX3_copyFrom 21 = .ok (.getfield 15, 3) := by decide +kernel
theorem dX3_copyFrom_24 : decode cX3_copyFrom 24 = .ok (.iconst 0, 1) := by decide +kernel
theorem dX3_copyFrom_25 : decode cX3_copyFrom 25 = .ok (.bipush 25, 2) := by decide +kernel
theorem dX3_copyFrom_27 : decode cX3_copyFrom 27 = .ok (.invokestatic 33, 3) := by decide +kernel
theorem dX3_copyFrom_30 : decode cX3_copyFrom 30 = .ok (.aload_n 1, 1) := by decide +kernel
theorem dX3_copyFrom_31 : decode cX3_copyFrom 31 = .ok (.getfield 18, 3) := by decide +kernel
theorem dX3_copyFrom_34 : decode cX3_copyFrom 34 = .ok (.iconst 0, 1) := by decide +kernel
theorem dX3_copyFrom_35 : decode cX3_copyFrom 35 = .ok (.aload_n 0, 1) := by decide +kernel
theorem dX3_copyFrom_36 : decode cX3_copyFrom 36 = .ok (.getfield 18, 3) := by decide +kernel
theorem dX3_copyFrom_39 : decode cX3_copyFrom 39 = .ok (.iconst 0, 1) := by decide +kernel
theorem dX3_copyFrom_40 : decode cX3_copyFrom 40 = .ok (.bipush 25, 2) := by decide +kernel
theorem dX3_copyFrom_42 : decode cX3_copyFrom 42 = .ok (.invokestatic 33, 3) := by decide +kernel
theorem dX3_copyFrom_45 : decode cX3_copyFrom 45 = .ok (.aload_n 1, 1) := by decide +kernel
theorem dX3_copyFrom_46 : decode cX3_copyFrom 46 = .ok (.getfield 21, 3) := by decide +kernel
theorem dX3_copyFrom_49 : decode cX3_copyFrom 49 = .ok (.iconst 0, 1) := by decide +kernel
theorem dX3_copyFrom_50 : decode cX3_copyFrom 50 = .ok (.aload_n 0, 1) := by decide +kernel
theorem dX3_copyFrom_51 : decode cX3_copyFrom 51 = .ok (.getfield 21, 3) := by decide +kernel
theorem dX3_copyFrom_54 : decode cX3_copyFrom 54 = .ok (.iconst 0, 1) := by decide +kernel
theorem dX3_copyFrom_55 : decode cX3_copyFrom 55 = .ok (.bipush 40, 2) := by decide +kernel
theorem dX3_copyFrom_57 : decode cX3_copyFrom 57 = .ok (.invokestatic 33, 3) := by decide +kernel
theorem dX3_copyFrom_60 : decode cX3_copyFrom 60 = .ok (.aload_n 1, 1) := by decide +kernel
theorem dX3_copyFrom_61 : decode cX3_copyFrom 61 = .ok (.getfield 24, 3) := by decide +kernel
theorem dX3_copyFrom_64 : decode cX3_copyFrom 64 = .ok (.iconst 0, 1) := by decide +kernel
theorem dX3_copyFrom_65 : decode cX3_copyFrom 65 = .ok (.aload_n 0, 1) := by decide +kernel
theorem dX3_copyFrom_66 : decode cX3_copyFrom 66 = .ok (.getfield 24, 3) := by decide +kernel
theorem dX3_copyFrom_69 : decode cX3_copyFrom 69 = .ok (.iconst 0, 1) := by decide +kernel
theorem dX3_copyFrom_70 : decode cX3_copyFrom 70 = .ok (.bipush 40, 2) := by decide +kernel
theorem dX3_copyFrom_72 : decode cX3_copyFrom 72 = .ok (.invokestatic 33, 3) := by decide +kernel
theorem dX3_copyFrom_75 : decode cX3_copyFrom 75 = .ok (.return_, 1) := by decide +kernel
theorem dX3_lengthOf_0 : decode cX3_lengthOf 0 = .ok (.iload_n 1, 1) := by decide +kernel
theorem dX3_lengthOf_1 : decode cX3_lengthOf 1 = .ok (.ifCond .lt 9, 3) := by decide +kernel
theorem dX3_lengthOf_4 : decode cX3_lengthOf 4 = .ok (.iload_n 1, 1) := by decide +kernel
theorem dX3_lengthOf_5 : decode cX3_lengthOf 5 = .ok (.bipush 25, 2) := by decide +kernel
theorem dX3_lengthOf_7 : decode cX3_lengthOf 7 = .ok (.if_icmp .lt 7, 3) := by decide +kernel
theorem dX3_lengthOf_10 : decode cX3_lengthOf 10 = .ok (.iconst 0, 1) := by decide +kernel
theorem dX3_lengthOf_11 : decode cX3_lengthOf 11 = .ok (.goto 9, 3) := by decide +kernel
theorem dX3_lengthOf_14 : decode cX3_lengthOf 14 = .ok (.aload_n 0, 1) := by decide +kernel
theorem dX3_lengthOf_15 : decode cX3_lengthOf 15 = .ok (.getfield 18, 3) := by decide +kernel
theorem dX3_lengthOf_18 : decode cX3_lengthOf 18 = .ok (.iload_n 1, 1) := by decide +kernel
theorem dX3_lengthOf_19 : decode cX3_lengthOf 19 = .ok (.iaload, 1) := by decide +kernel
theorem dX3_lengthOf_20 : decode cX3_lengthOf 20 = .ok (.ireturn, 1) := by decide +kernel
theorem dX3_frontOf_0 : decode cX3_frontOf 0 = .ok (.iload_n 1, 1) := by decide +kernel
theorem dX3_frontOf_1 : decode cX3_frontOf 1 = .ok (.ifCond .lt 9, 3) := by decide +kernel
theorem dX3_frontOf_4 : decode cX3_frontOf 4 = .ok (.iload_n 1, 1) := by decide +kernel
theorem dX3_frontOf_5 : decode cX3_frontOf 5 = .ok (.bipush 25, 2) := by decide +kernel
theorem dX3_frontOf_7 : decode cX3_frontOf 7 = .ok (.if_icmp .lt 7, 3) := by decide +kernel
theorem dX3_frontOf_10 : decode cX3_frontOf 10 = .ok (.iconst (-1), 1) := by decide +kernel
theorem dX3_frontOf_11 : decode cX3_frontOf 11 = .ok (.goto 9, 3) := by decide +kernel
theorem dX3_frontOf_14 : decode cX3_frontOf 14 = .ok (.aload_n 0, 1) := by decide +kernel
theorem dX3_frontOf_15 : decode cX3_frontOf 15 = .ok (.getfield 9, 3) := by decide +kernel
theorem dX3_frontOf_18 : decode cX3_frontOf 18 = .ok (.iload_n 1, 1) := by decide +kernel
theorem dX3_frontOf_19 : decode cX3_frontOf 19 = .ok (.iaload, 1) := by decide +kernel
theorem dX3_frontOf_20 : decode cX3_frontOf 20 = .ok (.ireturn, 1) := by decide +kernel
theorem dX3_follower_0 : decode cX3_follower 0 = .ok (.iload_n 1, 1) := by decide +kernel
theorem dX3_follower_1 : decode cX3_follower 1 = .ok (.ifCond .lt 9, 3) := by decide +kernel
theorem dX3_follower_4 : decode cX3_follower 4 = .ok (.iload_n 1, 1) := by decide +kernel
theorem dX3_follower_5 : decode cX3_follower 5 = .ok (.bipush 40, 2) := by decide +kernel
theorem dX3_follower_7 : decode cX3_follower 7 = .ok (.if_icmp .lt 7, 3) := by decide +kernel
theorem dX3_follower_10 : decode cX3_follower 10 = .ok (.iconst (-1), 1) := by decide +kernel
theorem dX3_follower_11 : decode cX3_follower 11 = .ok (.goto 9, 3) := by decide +kernel
theorem dX3_follower_14 : decode cX3_follower 14 = .ok (.aload_n 0, 1) := by decide +kernel
theorem dX3_follower_15 : decode cX3_follower 15 = .ok (.getfield 24, 3) := by decide +kernel
theorem dX3_follower_18 : decode cX3_follower 18 = .ok (.iload_n 1, 1) := by decide +kernel
theorem dX3_follower_19 : decode cX3_follower 19 = .ok (.iaload, 1) := by decide +kernel
theorem dX3_follower_20 : decode cX3_follower 20 = .ok (.ireturn, 1) := by decide +kernel
theorem dX3_lineOf_0 : decode cX3_lineOf 0 = .ok (.iload_n 1, 1) := by decide +kernel
theorem dX3_lineOf_1 : decode cX3_lineOf 1 = .ok (.ifCond .lt 9, 3) := by decide +kernel
theorem dX3_lineOf_4 : decode cX3_lineOf 4 = .ok (.iload_n 1, 1) := by decide +kernel
theorem dX3_lineOf_5 : decode cX3_lineOf 5 = .ok (.bipush 40, 2) := by decide +kernel
theorem dX3_lineOf_7 : decode cX3_lineOf 7 = .ok (.if_icmp .lt 7, 3) := by decide +kernel
theorem dX3_lineOf_10 : decode cX3_lineOf 10 = .ok (.iconst (-1), 1) := by decide +kernel
theorem dX3_lineOf_11 : decode cX3_lineOf 11 = .ok (.goto 9, 3) := by decide +kernel
theorem dX3_lineOf_14 : decode cX3_lineOf 14 = .ok (.aload_n 0, 1) := by decide +kernel
theorem dX3_lineOf_15 : decode cX3_lineOf 15 = .ok (.getfield 21, 3) := by decide +kernel
theorem dX3_lineOf_18 : decode cX3_lineOf 18 = .ok (.iload_n 1, 1) := by decide +kernel
theorem dX3_lineOf_19 : decode cX3_lineOf 19 = .ok (.iaload, 1) := by decide +kernel
theorem dX3_lineOf_20 : decode cX3_lineOf 20 = .ok (.ireturn, 1) := by decide +kernel
set_option maxRecDepth 20000 in
theorem ggX3_at_X3_lengthOf : GoodIn wsX3_at wsX3_lengthOf := goodIn_r _ [5, 6, 17, 18, 19, 20, 21] (by decide +kernel) (by decide +kernel)
set_option maxRecDepth 20000 in
theorem gX3_at_X3_lengthOf : GoodIn wsX3_at (wsV RX3 39 RX3 yX3_lengthOf wsX3_lengthOf) := goodIn_app (goodIn_of _ (by decide +kernel)) ggX3_at_X3_lengthOf
set_option maxRecDepth 20000 in
theorem ggX3_at_X3_frontOf : GoodIn wsX3_at wsX3_frontOf := goodIn_r _ [10, 11, 17, 18, 19, 20, 21] (by decide +kernel) (by decide +kernel)
set_option maxRecDepth 20000 in
theorem gX3_at_X3_frontOf : GoodIn wsX3_at (wsV RX3 43 RX3 yX3_frontOf wsX3_frontOf) := goodIn_app (goodIn_of _ (by decide +kernel)) ggX3_at_X3_frontOf
set_option maxRecDepth 20000 in
theorem ggX3_at_X3_follower : GoodIn wsX3_at wsX3_follower := goodIn_r _ [15, 16, 17, 18, 19, 20, 21] (by decide +kernel) (by decide +kernel)
set_option maxRecDepth 20000 in
theorem gX3_at_X3_follower : GoodIn wsX3_at (wsV RX3 46 RX3 yX3_follower wsX3_follower) := goodIn_app (goodIn_of _ (by decide +kernel)) ggX3_at_X3_follower
theorem dX3_at_0 : decode cX3_at 0 = .ok (.iload_n 2, 1) := by decide +kernel
theorem dX3_at_1 : decode cX3_at 1 = .ok (.ifCond .lt 12, 3) := by decide +kernel
theorem dX3_at_4 : decode cX3_at 4 = .ok (.iload_n 2, 1) := by decide +kernel
theorem dX3_at_5 : decode cX3_at 5 = .ok (.aload_n 0, 1) := by decide +kernel
theorem dX3_at_6 : decode cX3_at 6 = .ok (.iload_n 1, 1) := by decide +kernel
theorem dX3_at_7 : decode cX3_at 7 = .ok (.invokevirtual 39, 3) := by decide +kernel
theorem dX3_at_10 : decode cX3_at 10 = .ok (.if_icmp .lt 5, 3) := by decide +kernel
theorem dX3_at_13 : decode cX3_at 13 = .ok (.iconst (-1), 1) := by decide +kernel
theorem dX3_at_14 : decode cX3_at 14 = .ok (.ireturn, 1) := by decide +kernel
theorem dX3_at_15 : decode cX3_at 15 = .ok (.aload_n 0, 1) := by decide +kernel
theorem dX3_at_16 : decode cX3_at 16 = .ok (.iload_n 1, 1) := by decide +kernel
theorem dX3_at_17 : decode cX3_at 17 = .ok (.invokevirtual 43, 3) := by decide +kernel
theorem dX3_at_20 : decode cX3_at 20 = .ok (.istore_n 3, 1) := by decide +kernel
theorem dX3_at_21 : decode cX3_at 21 = .ok (.iconst 0, 1) := by decide +kernel
theorem dX3_at_22 : decode cX3_at 22 = .ok (.istore 4, 2) := by decide +kernel
theorem dX3_at_24 : decode cX3_at 24 = .ok (.iload 4, 2) := by decide +kernel
theorem dX3_at_26 : decode cX3_at 26 = .ok (.iload_n 2, 1) := by decide +kernel
theorem dX3_at_27 : decode cX3_at 27 = .ok (.if_icmp .ge 15, 3) := by decide +kernel
theorem dX3_at_30 : decode cX3_at 30 = .ok (.aload_n 0, 1) := by decide +kernel
theorem dX3_at_31 : decode cX3_at 31 = .ok (.iload_n 3, 1) := by decide +kernel
theorem dX3_at_32 : decode cX3_at 32 = .ok (.invokevirtual 46, 3) := by decide +kernel
theorem dX3_at_35 : decode cX3_at 35 = .ok (.istore_n 3, 1) := by decide +kernel
theorem dX3_at_36 : decode cX3_at 36 = .ok (.iinc 4 1, 3) := by decide +kernel
theorem dX3_at_39 : decode cX3_at 39 = .ok (.goto (-15), 3) := by decide +kernel
theorem dX3_at_42 : decode cX3_at 42 = .ok (.iload_n 3, 1) := by decide +kernel
theorem dX3_at_43 : decode cX3_at 43 = .ok (.ireturn, 1) := by decide +kernel
set_option maxRecDepth 20000 in
theorem ggX3_placeOf_X3_lineOf : GoodIn wsX3_placeOf wsX3_lineOf := goodIn_r _ [5, 6, 22, 23, 24, 25, 26] (by decide +kernel) (by decide +kernel)
set_option maxRecDepth 20000 in
theorem gX3_placeOf_X3_lineOf : GoodIn wsX3_placeOf (wsV RX3 49 RX3 yX3_lineOf wsX3_lineOf) := goodIn_app (goodIn_of _ (by decide +kernel)) ggX3_placeOf_X3_lineOf
set_option maxRecDepth 20000 in
theorem ggX3_placeOf_X3_lengthOf : GoodIn wsX3_placeOf wsX3_lengthOf := goodIn_r _ [10, 11, 22, 23, 24, 25, 26] (by decide +kernel) (by decide +kernel)
set_option maxRecDepth 20000 in
theorem gX3_placeOf_X3_lengthOf : GoodIn wsX3_placeOf (wsV RX3 39 RX3 yX3_lengthOf wsX3_lengthOf) := goodIn_app (goodIn_of _ (by decide +kernel)) ggX3_placeOf_X3_lengthOf
set_option maxRecDepth 20000 in
theorem ggX3_placeOf_X3_frontOf : GoodIn wsX3_placeOf wsX3_frontOf := goodIn_r _ [15, 16, 22, 23, 24, 25, 26] (by decide +kernel) (by decide +kernel)
set_option maxRecDepth 20000 in
theorem gX3_placeOf_X3_frontOf : GoodIn wsX3_placeOf (wsV RX3 43 RX3 yX3_frontOf wsX3_frontOf) := goodIn_app (goodIn_of _ (by decide +kernel)) ggX3_placeOf_X3_frontOf
set_option maxRecDepth 20000 in
theorem ggX3_placeOf_X3_follower : GoodIn wsX3_placeOf wsX3_follower := goodIn_r _ [20, 21, 22, 23, 24, 25, 26] (by decide +kernel) (by decide +kernel)
set_option maxRecDepth 20000 in
theorem gX3_placeOf_X3_follower : GoodIn wsX3_placeOf (wsV RX3 46 RX3 yX3_follower wsX3_follower) := goodIn_app (goodIn_of _ (by decide +kernel)) ggX3_placeOf_X3_follower
theorem dX3_placeOf_0 : decode cX3_placeOf 0 = .ok (.aload_n 0, 1) := by decide +kernel
theorem dX3_placeOf_1 : decode cX3_placeOf 1 = .ok (.iload_n 1, 1) := by decide +kernel
theorem dX3_placeOf_2 : decode cX3_placeOf 2 = .ok (.invokevirtual 49, 3) := by decide +kernel
theorem dX3_placeOf_5 : decode cX3_placeOf 5 = .ok (.istore_n 2, 1) := by decide +kernel
theorem dX3_placeOf_6 : decode cX3_placeOf 6 = .ok (.aload_n 0, 1) := by decide +kernel
theorem dX3_placeOf_7 : decode cX3_placeOf 7 = .ok (.iload_n 2, 1) := by decide +kernel
theorem dX3_placeOf_8 : decode cX3_placeOf 8 = .ok (.invokevirtual 39, 3) := by decide +kernel
theorem dX3_placeOf_11 : decode cX3_placeOf 11 = .ok (.istore_n 3, 1) := by decide +kernel
theorem dX3_placeOf_12 : decode cX3_placeOf 12 = .ok (.aload_n 0, 1) := by decide +kernel
theorem dX3_placeOf_13 : decode cX3_placeOf 13 = .ok (.iload_n 2, 1) := by decide +kernel
theorem dX3_placeOf_14 : decode cX3_placeOf 14 = .ok (.invokevirtual 43, 3) := by decide +kernel
theorem dX3_placeOf_17 : decode cX3_placeOf 17 = .ok (.istore 4, 2) := by decide +kernel
theorem dX3_placeOf_19 : decode cX3_placeOf 19 = .ok (.iconst 0, 1) := by decide +kernel
theorem dX3_placeOf_20 : decode cX3_placeOf 20 = .ok (.istore 5, 2) := by decide +kernel
theorem dX3_placeOf_22 : decode cX3_placeOf 22 = .ok (.iload 5, 2) := by decide +kernel
theorem dX3_placeOf_24 : decode cX3_placeOf 24 = .ok (.iload_n 3, 1) := by decide +kernel
theorem dX3_placeOf_25 : decode cX3_placeOf 25 = .ok (.if_icmp .ge 26, 3) := by decide +kernel
theorem dX3_placeOf_28 : decode cX3_placeOf 28 = .ok (.iload 4, 2) := by decide +kernel
theorem dX3_placeOf_30 : decode cX3_placeOf 30 = .ok (.iload_n 1, 1) := by decide +kernel
theorem dX3_placeOf_31 : decode cX3_placeOf 31 = .ok (.if_icmp .ne 6, 3) := by decide +kernel
theorem dX3_placeOf_34 : decode cX3_placeOf 34 = .ok (.iload 5, 2) := by decide +kernel
theorem dX3_placeOf_36 : decode cX3_placeOf 36 = .ok (.ireturn, 1) := by decide +kernel
theorem dX3_placeOf_37 : decode cX3_placeOf 37 = .ok (.aload_n 0, 1) := by decide +kernel
theorem dX3_placeOf_38 : decode cX3_placeOf 38 = .ok (.iload 4, 2) := by decide +kernel
theorem dX3_placeOf_40 : decode cX3_placeOf 40 = .ok (.invokevirtual 46, 3) := by decide +kernel
theorem dX3_placeOf_43 : decode cX3_placeOf 43 = .ok (.istore 4, 2) := by decide +kernel
theorem dX3_placeOf_45 : decode cX3_placeOf 45 = .ok (.iinc 5 1, 3) := by decide +kernel
theorem dX3_placeOf_48 : decode cX3_placeOf 48 = .ok (.goto (-26), 3) := by decide +kernel
theorem dX3_placeOf_51 : decode cX3_placeOf 51 = .ok (.bipush (-9), 2) := by decide +kernel
theorem dX3_placeOf_53 : decode cX3_placeOf 53 = .ok (.ireturn, 1) := by decide +kernel
theorem dX3_join_0 : decode cX3_join 0 = .ok (.iload_n 1, 1) := by decide +kernel
theorem dX3_join_1 : decode cX3_join 1 = .ok (.ifCond .lt 19, 3) := by decide +kernel
theorem dX3_join_4 : decode cX3_join 4 = .ok (.iload_n 1, 1) := by decide +kernel
theorem dX3_join_5 : decode cX3_join 5 = .ok (.bipush 25, 2) := by decide +kernel
theorem dX3_join_7 : decode cX3_join 7 = .ok (.if_icmp .ge 13, 3) := by decide +kernel
theorem dX3_join_10 : decode cX3_join 10 = .ok (.iload_n 2, 1) := by decide +kernel
theorem dX3_join_11 : decode cX3_join 11 = .ok (.ifCond .lt 9, 3) := by decide +kernel
theorem dX3_join_14 : decode cX3_join 14 = .ok (.iload_n 2, 1) := by decide +kernel
theorem dX3_join_15 : decode cX3_join 15 = .ok (.bipush 40, 2) := by decide +kernel
theorem dX3_join_17 : decode cX3_join 17 = .ok (.if_icmp .lt 4, 3) := by decide +kernel
theorem dX3_join_20 : decode cX3_join 20 = .ok (.return_, 1) := by decide +kernel
theorem dX3_join_21 : decode cX3_join 21 = .ok (.aload_n 0, 1) := by decide +kernel
theorem dX3_join_22 : decode cX3_join 22 = .ok (.getfield 15, 3) := by decide +kernel
theorem dX3_join_25 : decode cX3_join 25 = .ok (.iload_n 1, 1) := by decide +kernel
theorem dX3_join_26 : decode cX3_join 26 = .ok (.iaload, 1) := by decide +kernel
theorem dX3_join_27 : decode cX3_join 27 = .ok (.istore_n 3, 1) := by decide +kernel
theorem dX3_join_28 : decode cX3_join 28 = .ok (.iload_n 3, 1) := by decide +kernel
theorem dX3_join_29 : decode cX3_join 29 = .ok (.ifCond .lt 9, 3) := by decide +kernel
theorem dX3_join_32 : decode cX3_join 32 = .ok (.iload_n 3, 1) := by decide +kernel
theorem dX3_join_33 : decode cX3_join 33 = .ok (.bipush 40, 2) := by decide +kernel
theorem dX3_join_35 : decode cX3_join 35 = .ok (.if_icmp .lt 13, 3) := by decide +kernel
theorem dX3_join_38 : decode cX3_join 38 = .ok (.aload_n 0, 1) := by decide +kernel
theorem dX3_join_39 : decode cX3_join 39 = .ok (.getfield 9, 3) := by decide +kernel
theorem dX3_join_42 : decode cX3_join 42 = .ok (.iload_n 1, 1) := by decide +kernel
theorem dX3_join_43 : decode cX3_join 43 = .ok (.iload_n 2, 1) := by decide +kernel
theorem dX3_join_44 : decode cX3_join 44 = .ok (.iastore, 1) := by decide +kernel
theorem dX3_join_45 : decode cX3_join 45 = .ok (.goto 10, 3) := by decide +kernel
theorem dX3_join_48 : decode cX3_join 48 = .ok (.aload_n 0, 1) := by decide +kernel
theorem dX3_join_49 : decode cX3_join 49 = .ok (.getfield 24, 3) := by decide +kernel
theorem dX3_join_52 : decode cX3_join 52 = .ok (.iload_n 3, 1) := by decide +kernel
theorem dX3_join_53 : decode cX3_join 53 = .ok (.iload_n 2, 1) := by decide +kernel
theorem dX3_join_54 : decode cX3_join 54 = .ok (.iastore, 1) := by decide +kernel
theorem dX3_join_55 : decode cX3_join 55 = .ok (.aload_n 0, 1) := by decide +kernel
theorem dX3_join_56 : decode cX3_join 56 = .ok (.getfield 15, 3) := by decide +kernel
theorem dX3_join_59 : decode cX3_join 59 = .ok (.iload_n 1, 1) := by decide +kernel
theorem dX3_join_60 : decode cX3_join 60 = .ok (.iload_n 2, 1) := by decide +kernel
theorem dX3_join_61 : decode cX3_join 61 = .ok (.iastore, 1) := by decide +kernel
theorem dX3_join_62 : decode cX3_join 62 = .ok (.aload_n 0, 1) := by decide +kernel
theorem dX3_join_63 : decode cX3_join 63 = .ok (.getfield 24, 3) := by decide +kernel
theorem dX3_join_66 : decode cX3_join 66 = .ok (.iload_n 2, 1) := by decide +kernel
theorem dX3_join_67 : decode cX3_join 67 = .ok (.iconst (-1), 1) := by decide +kernel
theorem dX3_join_68 : decode cX3_join 68 = .ok (.iastore, 1) := by decide +kernel
theorem dX3_join_69 : decode cX3_join 69 = .ok (.aload_n 0, 1) := by decide +kernel
theorem dX3_join_70 : decode cX3_join 70 = .ok (.getfield 21, 3) := by decide +kernel
theorem dX3_join_73 : decode cX3_join 73 = .ok (.iload_n 2, 1) := by decide +kernel
theorem dX3_join_74 : decode cX3_join 74 = .ok (.iload_n 1, 1) := by decide +kernel
theorem dX3_join_75 : decode cX3_join 75 = .ok (.iastore, 1) := by decide +kernel
theorem dX3_join_76 : decode cX3_join 76 = .ok (.aload_n 0, 1) := by decide +kernel
theorem dX3_join_77 : decode cX3_join 77 = .ok (.getfield 18, 3) := by decide +kernel
theorem dX3_join_80 : decode cX3_join 80 = .ok (.iload_n 1, 1) := by decide +kernel
theorem dX3_join_81 : decode cX3_join 81 = .ok (.dup2, 1) := by decide +kernel
theorem dX3_join_82 : decode cX3_join 82 = .ok (.iaload, 1) := by decide +kernel
theorem dX3_join_83 : decode cX3_join 83 = .ok (.iconst 1, 1) := by decide +kernel
theorem dX3_join_84 : decode cX3_join 84 = .ok (.iadd, 1) := by decide +kernel
theorem dX3_join_85 : decode cX3_join 85 = .ok (.iastore, 1) := by decide +kernel
theorem dX3_join_86 : decode cX3_join 86 = .ok (.return_, 1) := by decide +kernel
set_option maxRecDepth 20000 in
theorem ggX3_leave_X3_lineOf : GoodIn wsX3_leave wsX3_lineOf := goodIn_r _ [10, 4, 15, 16, 17, 18, 19] (by decide +kernel) (by decide +kernel)
set_option maxRecDepth 20000 in
theorem gX3_leave_X3_lineOf : GoodIn wsX3_leave (wsV RX3 49 RX3 yX3_lineOf wsX3_lineOf) := goodIn_app (goodIn_of _ (by decide +kernel)) ggX3_leave_X3_lineOf
set_option maxRecDepth 20000 in
theorem ggX3_leave_X3_follower : GoodIn wsX3_leave wsX3_follower := goodIn_r _ [14, 2, 15, 16, 17, 18, 19] (by decide +kernel) (by decide +kernel)
set_option maxRecDepth 20000 in
theorem gX3_leave_X3_follower : GoodIn wsX3_leave (wsV RX3 46 RX3 yX3_follower wsX3_follower) := goodIn_app (goodIn_of _ (by decide +kernel)) ggX3_leave_X3_follower
theorem dX3_leave_0 : decode cX3_leave 0 = .ok (.aload_n 0, 1) := by decide +kernel
theorem dX3_leave_1 : decode cX3_leave 1 = .ok (.iload_n 1, 1) := by decide +kernel
theorem dX3_leave_2 : decode cX3_leave 2 = .ok (.invokevirtual 49, 3) := by decide +kernel
theorem dX3_leave_5 : decode cX3_leave 5 = .ok (.istore_n 2, 1) := by decide +kernel
theorem dX3_leave_6 : decode cX3_leave 6 = .ok (.iload_n 2, 1) := by decide +kernel
theorem dX3_leave_7 : decode cX3_leave 7 = .ok (.ifCond .lt 19, 3) := by decide +kernel
theorem dX3_leave_10 : decode cX3_leave 10 = .ok (.iload_n 2, 1) := by decide +kernel
theorem dX3_leave_11 : decode cX3_leave 11 = .ok (.bipush 25, 2) := by decide +kernel
theorem dX3_leave_13 : decode cX3_leave 13 = .ok (.if_icmp .ge 13, 3) := by decide +kernel
theorem dX3_leave_16 : decode cX3_leave 16 = .ok (.iload_n 1, 1) := by decide +kernel
theorem dX3_leave_17 : decode cX3_leave 17 = .ok (.ifCond .lt 9, 3) := by decide +kernel
theorem dX3_leave_20 : decode cX3_leave 20 = .ok (.iload_n 1, 1) := by decide +kernel
theorem dX3_leave_21 : decode cX3_leave 21 = .ok (.bipush 40, 2) := by decide +kernel
theorem dX3_leave_23 : decode cX3_leave 23 = .ok (.if_icmp .lt 4, 3) := by decide +kernel
theorem dX3_leave_26 : decode cX3_leave 26 = .ok (.return_, 1) := by decide +kernel
theorem dX3_leave_27 : decode cX3_leave 27 = .ok (.iconst (-1), 1) := by decide +kernel
theorem dX3_leave_28 : decode cX3_leave 28 = .ok (.istore_n 3, 1) := by decide +kernel
theorem dX3_leave_29 : decode cX3_leave 29 = .ok (.aload_n 0, 1) := by decide +kernel
theorem dX3_leave_30 : decode cX3_leave 30 = .ok (.getfield 9, 3) := by decide +kernel
theorem dX3_leave_33 : decode cX3_leave 33 = .ok (.iload_n 2, 1) := by decide +kernel
theorem dX3_leave_34 : decode cX3_leave 34 = .ok (.iaload, 1) := by decide +kernel
theorem dX3_leave_35 : decode cX3_leave 35 = .ok (.istore 4, 2) := by decide +kernel
theorem dX3_leave_37 : decode cX3_leave 37 = .ok (.iconst 0, 1) := by decide +kernel
theorem dX3_leave_38 : decode cX3_leave 38 = .ok (.istore 5, 2) := by decide +kernel
theorem dX3_leave_40 : decode cX3_leave 40 = .ok (.iload 5, 2) := by decide +kernel
theorem dX3_leave_42 : decode cX3_leave 42 = .ok (.bipush 40, 2) := by decide +kernel
theorem dX3_leave_44 : decode cX3_leave 44 = .ok (.if_icmp .ge 26, 3) := by decide +kernel
theorem dX3_leave_47 : decode cX3_leave 47 = .ok (.iload 4, 2) := by decide +kernel
theorem dX3_leave_49 : decode cX3_leave 49 = .ok (.iload_n 1, 1) := by decide +kernel
theorem dX3_leave_50 : decode cX3_leave 50 = .ok (.if_icmp .eq 20, 3) := by decide +kernel
theorem dX3_leave_53 : decode cX3_leave 53 = .ok (.iload 4, 2) := by decide +kernel
theorem dX3_leave_55 : decode cX3_leave 55 = .ok (.istore_n 3, 1) := by decide +kernel
theorem dX3_leave_56 : decode cX3_leave 56 = .ok (.aload_n 0, 1) := by decide +kernel
theorem dX3_leave_57 : decode cX3_leave 57 = .ok (.iload 4, 2) := by decide +kernel
theorem dX3_leave_59 : decode cX3_leave 59 = .ok (.invokevirtual 46, 3) := by decide +kernel
theorem dX3_leave_62 : decode cX3_leave 62 = .ok (.istore 4, 2) := by decide +kernel
theorem dX3_leave_64 : decode cX3_leave 64 = .ok (.iinc 5 1, 3) := by decide +kernel
theorem dX3_leave_67 : decode cX3_leave 67 = .ok (.goto (-27), 3) := by decide +kernel
theorem dX3_leave_70 : decode cX3_leave 70 = .ok (.iload_n 3, 1) := by decide +kernel
theorem dX3_leave_71 : decode cX3_leave 71 = .ok (.ifCond .lt 9, 3) := by decide +kernel
theorem dX3_leave_74 : decode cX3_leave 74 = .ok (.iload_n 3, 1) := by decide +kernel
theorem dX3_leave_75 : decode cX3_leave 75 = .ok (.bipush 40, 2) := by decide +kernel
theorem dX3_leave_77 : decode cX3_leave 77 = .ok (.if_icmp .lt 18, 3) := by decide +kernel
theorem dX3_leave_80 : decode cX3_leave 80 = .ok (.aload_n 0, 1) := by decide +kernel
theorem dX3_leave_81 : decode cX3_leave 81 = .ok (.getfield 9, 3) := by decide +kernel
theorem dX3_leave_84 : decode cX3_leave 84 = .ok (.iload_n 2, 1) := by decide +kernel
theorem dX3_leave_85 : decode cX3_leave 85 = .ok (.aload_n 0, 1) := by decide +kernel
theorem dX3_leave_86 : decode cX3_leave 86 = .ok (.getfield 24, 3) := by decide +kernel
theorem dX3_leave_89 : decode cX3_leave 89 = .ok (.iload_n 1, 1) := by decide +kernel
theorem dX3_leave_90 : decode cX3_leave 90 = .ok (.iaload, 1) := by decide +kernel
theorem dX3_leave_91 : decode cX3_leave 91 = .ok (.iastore, 1) := by decide +kernel
theorem dX3_leave_92 : decode cX3_leave 92 = .ok (.goto 15, 3) := by decide +kernel
theorem dX3_leave_95 : decode cX3_leave 95 = .ok (.aload_n 0, 1) := by decide +kernel
theorem dX3_leave_96 : decode cX3_leave 96 = .ok (.getfield 24, 3) := by decide +kernel
theorem dX3_leave_99 : decode cX3_leave 99 = .ok (.iload_n 3, 1) := by decide +kernel
theorem dX3_leave_100 : decode cX3_leave 100 = .ok (.aload_n 0, 1) := by decide +kernel
theorem dX3_leave_101 : decode cX3_leave 101 = .ok (.getfield 24, 3) := by decide +kernel
theorem dX3_leave_104 : decode cX3_leave 104 = .ok (.iload_n 1, 1) := by decide +kernel
theorem dX3_leave_105 : decode cX3_leave 105 = .ok (.iaload, 1) := by decide +kernel
theorem dX3_leave_106 : decode cX3_leave 106 = .ok (.iastore, 1) := by decide +kernel
theorem dX3_leave_107 : decode cX3_leave 107 = .ok (.aload_n 0, 1) := by decide +kernel
theorem dX3_leave_108 : decode cX3_leave 108 = .ok (.getfield 15, 3) := by decide +kernel
theorem dX3_leave_111 : decode cX3_leave 111 = .ok (.iload_n 2, 1) := by decide +kernel
theorem dX3_leave_112 : decode cX3_leave 112 = .ok (.iaload, 1) := by decide +kernel
theorem dX3_leave_113 : decode cX3_leave 113 = .ok (.iload_n 1, 1) := by decide +kernel
theorem dX3_leave_114 : decode cX3_leave 114 = .ok (.if_icmp .ne 10, 3) := by decide +kernel
theorem dX3_leave_117 : decode cX3_leave 117 = .ok (.aload_n 0, 1) := by decide +kernel
theorem dX3_leave_118 : decode cX3_leave 118 = .ok (.getfield 15, 3) := by decide +kernel
theorem dX3_leave_121 : decode cX3_leave 121 = .ok (.iload_n 2, 1) := by decide +kernel
theorem dX3_leave_122 : decode cX3_leave 122 = .ok (.iload_n 3, 1) := by decide +kernel
theorem dX3_leave_123 : decode cX3_leave 123 = .ok (.iastore, 1) := by decide +kernel
theorem dX3_leave_124 : decode cX3_leave 124 = .ok (.aload_n 0, 1) := by decide +kernel
theorem dX3_leave_125 : decode cX3_leave 125 = .ok (.getfield 24, 3) := by decide +kernel
theorem dX3_leave_128 : decode cX3_leave 128 = .ok (.iload_n 1, 1) := by decide +kernel
theorem dX3_leave_129 : decode cX3_leave 129 = .ok (.iconst (-1), 1) := by decide +kernel
theorem dX3_leave_130 : decode cX3_leave 130 = .ok (.iastore, 1) := by decide +kernel
theorem dX3_leave_131 : decode cX3_leave 131 = .ok (.aload_n 0, 1) := by decide +kernel
theorem dX3_leave_132 : decode cX3_leave 132 = .ok (.getfield 21, 3) := by decide +kernel
theorem dX3_leave_135 : decode cX3_leave 135 = .ok (.iload_n 1, 1) := by decide +kernel
theorem dX3_leave_136 : decode cX3_leave 136 = .ok (.iconst (-1), 1) := by decide +kernel
theorem dX3_leave_137 : decode cX3_leave 137 = .ok (.iastore, 1) := by decide +kernel
theorem dX3_leave_138 : decode cX3_leave 138 = .ok (.aload_n 0, 1) := by decide +kernel
theorem dX3_leave_139 : decode cX3_leave 139 = .ok (.getfield 18, 3) := by decide +kernel
theorem dX3_leave_142 : decode cX3_leave 142 = .ok (.iload_n 2, 1) := by decide +kernel
theorem dX3_leave_143 : decode cX3_leave 143 = .ok (.dup2, 1) := by decide +kernel
theorem dX3_leave_144 : decode cX3_leave 144 = .ok (.iaload, 1) := by decide +kernel
theorem dX3_leave_145 : decode cX3_leave 145 = .ok (.iconst 1, 1) := by decide +kernel
theorem dX3_leave_146 : decode cX3_leave 146 = .ok (.isub, 1) := by decide +kernel
theorem dX3_leave_147 : decode cX3_leave 147 = .ok (.iastore, 1) := by decide +kernel
theorem dX3_leave_148 : decode cX3_leave 148 = .ok (.return_, 1) := by decide +kernel
set_option maxRecDepth 20000 in
theorem ggX4_init_X7_init : GoodIn wsX4_init wsX7_init := goodIn_r _ [12, 13, 2, 3, 8, 14, 15, 16, 17, 18, 19] (by decide +kernel) (by decide +kernel)
set_option maxRecDepth 20000 in
theorem gX4_init_X7_init_n11 : GoodIn wsX4_init (wsX7_init) := ggX4_init_X7_init
theorem dX4_init_0 : decode cX4_init 0 = .ok (.aload_n 0, 1) := by decide +kernel
theorem dX4_init_1 : decode cX4_init 1 = .ok (.invokespecial 3, 3) := by decide +kernel
theorem dX4_init_4 : decode cX4_init 4 = .ok (.aload_n 0, 1) := by decide +kernel
theorem dX4_init_5 : decode cX4_init 5 = .ok (.new 9, 3) := by decide +kernel
theorem dX4_init_8 : decode cX4_init 8 = .ok (.dup, 1) := by decide +kernel
theorem dX4_init_9 : decode cX4_init 9 = .ok (.invokespecial 11, 3) := by decide +kernel
theorem dX4_init_12 : decode cX4_init 12 = .ok (.putfield 12, 3) := by decide +kernel
theorem dX4_init_15 : decode cX4_init 15 = .ok (.aload_n 0, 1) := by decide +kernel
theorem dX4_init_16 : decode cX4_init 16 = .ok (.iconst 3, 1) := by decide +kernel
theorem dX4_init_17 : decode cX4_init 17 = .ok (.newarray .int, 2) := by decide +kernel
theorem dX4_init_19 : decode cX4_init 19 = .ok (.putfield 18, 3) := by decide +kernel
theorem dX4_init_22 : decode cX4_init 22 = .ok (.aload_n 0, 1) := by decide +kernel
theorem dX4_init_23 : decode cX4_init 23 = .ok (.iconst 4, 1) := by decide +kernel
theorem dX4_init_24 : decode cX4_init 24 = .ok (.newarray .int, 2) := by decide +kernel
theorem dX4_init_26 : decode cX4_init 26 = .ok (.putfield 22, 3) := by decide +kernel
theorem dX4_init_29 : decode cX4_init 29 = .ok (.return_, 1) := by decide +kernel
set_option maxRecDepth 20000 in
theorem ggX4_begin_X7_beginReading : GoodIn wsX4_begin wsX7_beginReading := goodIn_r _ [10, 11, 12, 13, 22, 23, 24, 25, 26] (by decide +kernel) (by decide +kernel)
set_option maxRecDepth 20000 in
theorem gX4_begin_X7_beginReading : GoodIn wsX4_begin (wsV RX4 25 RX7 yX7_beginReading wsX7_beginReading) := goodIn_app (goodIn_of _ (by decide +kernel)) ggX4_begin_X7_beginReading
theorem dX4_begin_0 : decode cX4_begin 0 = .ok (.aload_n 0, 1) := by decide +kernel
theorem dX4_begin_1 : decode cX4_begin 1 = .ok (.getfield 12, 3) := by decide +kernel
theorem dX4_begin_4 : decode cX4_begin 4 = .ok (.invokevirtual 25, 3) := by decide +kernel
theorem dX4_begin_7 : decode cX4_begin 7 = .ok (.aload_n 0, 1) := by decide +kernel
theorem dX4_begin_8 : decode cX4_begin 8 = .ok (.iconst 0, 1) := by decide +kernel
theorem dX4_begin_9 : decode cX4_begin 9 = .ok (.putfield 28, 3) := by decide +kernel
theorem dX4_begin_12 : decode cX4_begin 12 = .ok (.aload_n 0, 1) := by decide +kernel
theorem dX4_begin_13 : decode cX4_begin 13 = .ok (.iconst 0, 1) := by decide +kernel
theorem dX4_begin_14 : decode cX4_begin 14 = .ok (.putfield 32, 3) := by decide +kernel
theorem dX4_begin_17 : decode cX4_begin 17 = .ok (.aload_n 0, 1) := by decide +kernel
theorem dX4_begin_18 : decode cX4_begin 18 = .ok (.iconst 0, 1) := by decide +kernel
theorem dX4_begin_19 : decode cX4_begin 19 = .ok (.putfield 36, 3) := by decide +kernel
theorem dX4_begin_22 : decode cX4_begin 22 = .ok (.aload_n 0, 1) := by decide +kernel
theorem dX4_begin_23 : decode cX4_begin 23 = .ok (.iconst 0, 1) := by decide +kernel
theorem dX4_begin_24 : decode cX4_begin 24 = .ok (.putfield 39, 3) := by decide +kernel
theorem dX4_begin_27 : decode cX4_begin 27 = .ok (.return_, 1) := by decide +kernel
theorem dX4_hasFailed_0 : decode cX4_hasFailed 0 = .ok (.aload_n 0, 1) := by decide +kernel
theorem dX4_hasFailed_1 : decode cX4_hasFailed 1 = .ok (.getfield 28, 3) := by decide +kernel
theorem dX4_hasFailed_4 : decode cX4_hasFailed 4 = .ok (.ireturn, 1) := by decide +kernel
theorem dX4_command_0 : decode cX4_command 0 = .ok (.aload_n 0, 1) := by decide +kernel
theorem dX4_command_1 : decode cX4_command 1 = .ok (.getfield 32, 3) := by decide +kernel
theorem dX4_command_4 : decode cX4_command 4 = .ok (.ireturn, 1) := by decide +kernel
theorem dX4_commandsDone_0 : decode cX4_commandsDone 0 = .ok (.aload_n 0, 1) := by decide +kernel
theorem dX4_commandsDone_1 : decode cX4_commandsDone 1 = .ok (.getfield 39, 3) := by decide +kernel
theorem dX4_commandsDone_4 : decode cX4_commandsDone 4 = .ok (.ireturn, 1) := by decide +kernel
theorem dX4_number_0 : decode cX4_number 0 = .ok (.iload_n 1, 1) := by decide +kernel
theorem dX4_number_1 : decode cX4_number 1 = .ok (.ifCond .lt 8, 3) := by decide +kernel
theorem dX4_number_4 : decode cX4_number 4 = .ok (.iload_n 1, 1) := by decide +kernel
theorem dX4_number_5 : decode cX4_number 5 = .ok (.iconst 3, 1) := by decide +kernel
theorem dX4_number_6 : decode cX4_number 6 = .ok (.if_icmp .lt 7, 3) := by decide +kernel
theorem dX4_number_9 : decode cX4_number 9 = .ok (.iconst 0, 1) := by decide +kernel
theorem dX4_number_10 : decode cX4_number 10 = .ok (.goto 9, 3) := by decide +kernel
theorem dX4_number_13 : decode cX4_number 13 = .ok (.aload_n 0, 1) := by decide +kernel
theorem dX4_number_14 : decode cX4_number 14 = .ok (.getfield 18, 3) := by decide +kernel
theorem dX4_number_17 : decode cX4_number 17 = .ok (.iload_n 1, 1) := by decide +kernel
theorem dX4_number_18 : decode cX4_number 18 = .ok (.iaload, 1) := by decide +kernel
theorem dX4_number_19 : decode cX4_number 19 = .ok (.ireturn, 1) := by decide +kernel
theorem dX4_part_0 : decode cX4_part 0 = .ok (.iload_n 1, 1) := by decide +kernel
theorem dX4_part_1 : decode cX4_part 1 = .ok (.ifCond .lt 8, 3) := by decide +kernel
theorem dX4_part_4 : decode cX4_part 4 = .ok (.iload_n 1, 1) := by decide +kernel
theorem dX4_part_5 : decode cX4_part 5 = .ok (.iconst 4, 1) := by decide +kernel
theorem dX4_part_6 : decode cX4_part 6 = .ok (.if_icmp .lt 5, 3) := by decide +kernel
theorem dX4_part_9 : decode cX4_part 9 = .ok (.iconst (-1), 1) := by decide +kernel
theorem dX4_part_10 : decode cX4_part 10 = .ok (.ireturn, 1) := by decide +kernel
theorem dX4_part_11 : decode cX4_part 11 = .ok (.aload_n 0, 1) := by decide +kernel
theorem dX4_part_12 : decode cX4_part 12 = .ok (.getfield 42, 3) := by decide +kernel
theorem dX4_part_15 : decode cX4_part 15 = .ok (.ifCond .eq 12, 3) := by decide +kernel
theorem dX4_part_18 : decode cX4_part 18 = .ok (.aload_n 0, 1) := by decide +kernel
theorem dX4_part_19 : decode cX4_part 19 = .ok (.getfield 22, 3) := by decide +kernel
theorem dX4_part_22 : decode cX4_part 22 = .ok (.iload_n 1, 1) := by decide +kernel
theorem dX4_part_23 : decode cX4_part 23 = .ok (.iaload, 1) := by decide +kernel
theorem dX4_part_24 : decode cX4_part 24 = .ok (.goto 5, 3) := by decide +kernel
theorem dX4_part_27 : decode cX4_part 27 = .ok (.bipush (-9), 2) := by decide +kernel
theorem dX4_part_29 : decode cX4_part 29 = .ok (.ireturn, 1) := by decide +kernel
set_option maxRecDepth 20000 in
theorem ggX4_readCommand_X7_readToken : GoodIn wsX4_readCommand wsX7_readToken := goodIn_r _ [10, 11, 12, 13, 14, 15, 16, 9, 17, 18, 19, 20, 21, 22, 123, 124, 125, 126, 127] (by decide +kernel) (by decide +kernel)
set_option maxRecDepth 20000 in
theorem gX4_readCommand_X7_readToken : GoodIn wsX4_readCommand (wsV RX4 45 RX7 yX7_readToken wsX7_readToken) := goodIn_app (goodIn_of _ (by decide +kernel)) ggX4_readCommand_X7_readToken
set_option maxRecDepth 20000 in
theorem ggX4_readCommand_X7_isAtEnd : GoodIn wsX4_readCommand wsX7_isAtEnd := goodIn_r _ [26, 13, 123, 124, 125, 126, 127] (by decide +kernel) (by decide +kernel)
set_option maxRecDepth 20000 in
theorem gX4_readCommand_X7_isAtEnd : GoodIn wsX4_readCommand (wsV RX4 48 RX7 yX7_isAtEnd wsX7_isAtEnd) := goodIn_app (goodIn_of _ (by decide +kernel)) ggX4_readCommand_X7_isAtEnd
set_option maxRecDepth 20000 in
theorem ggX4_readCommand_X4_commandOfWord : GoodIn wsX4_readCommand wsX4_commandOfWord := goodIn_r _ [31, 2, 32, 33, 34, 9, 35, 13, 11, 12, 36, 37, 38, 39, 40, 41, 42, 43, 44, 45, 46, 47, 14, 15, 16, 17, 18, 19, 48, 49, 50, 51, 52, 53, 54, 55, 56, 57, 58, 59, 60, 61, 62, 63, 64, 65, 66, 67, 68, 69, 70, 71, 72, 73, 74, 75, 76, 77, 78, 79, 80, 81, 82, 83, 84, 115, 116, 117, 118, 119, 120, 121, 122, 123, 124, 125, 126, 127] (by decide +kernel) (by decide +kernel)
set_option maxRecDepth 20000 in
theorem gX4_readCommand_X4_commandOfWord : GoodIn wsX4_readCommand (wsV RX4 52 RX4 yX4_commandOfWord wsX4_commandOfWord) := goodIn_app (goodIn_of _ (by decide +kernel)) ggX4_readCommand_X4_commandOfWord
set_option maxRecDepth 20000 in
theorem ggX4_readCommand_X7_tokenStart : GoodIn wsX4_readCommand wsX7_tokenStart := goodIn_r _ [88, 12, 123, 124, 125, 126, 127] (by decide +kernel) (by decide +kernel)
set_option maxRecDepth 20000 in
theorem gX4_readCommand_X7_tokenStart : GoodIn wsX4_readCommand (wsV RX4 56 RX7 yX7_tokenStart wsX7_tokenStart) := goodIn_app (goodIn_of _ (by decide +kernel)) ggX4_readCommand_X7_tokenStart
set_option maxRecDepth 20000 in
theorem ggX4_readCommand_X4_failAtToken : GoodIn wsX4_readCommand wsX4_failAtToken := goodIn_r _ [92, 2, 85, 86, 87, 9, 88, 12, 93, 94, 95, 30, 96, 1, 97, 98, 99, 115, 116, 117, 118, 119, 120, 121, 122, 123, 124, 125, 126, 127] (by decide +kernel) (by decide +kernel)
set_option maxRecDepth 20000 in
theorem gX4_readCommand_X4_failAtToken : GoodIn wsX4_readCommand (wsV RX4 59 RX4 yX4_failAtToken wsX4_failAtToken) := goodIn_app (goodIn_of _ (by decide +kernel)) ggX4_readCommand_X4_failAtToken
set_option maxRecDepth 20000 in
theorem ggX4_readCommand_X4_numbersOf : GoodIn wsX4_readCommand wsX4_numbersOf := goodIn_r _ [102] (by decide +kernel) (by decide +kernel)
set_option maxRecDepth 20000 in
theorem gX4_readCommand_X4_numbersOf : GoodIn wsX4_readCommand (va_wsS RX4 62 yX4_numbersOf wsX4_numbersOf) := goodIn_app (goodIn_of _ (by decide +kernel)) ggX4_readCommand_X4_numbersOf
set_option maxRecDepth 20000 in
theorem ggX4_readCommand_X7_isNumber : GoodIn wsX4_readCommand wsX7_isNumber := goodIn_r _ [106, 11, 12, 13, 14, 15, 16, 9, 17, 18, 19, 123, 124, 125, 126, 127] (by decide +kernel) (by decide +kernel)
set_option maxRecDepth 20000 in
theorem gX4_readCommand_X7_isNumber : GoodIn wsX4_readCommand (wsV RX4 66 RX7 yX7_isNumber wsX7_isNumber) := goodIn_app (goodIn_of _ (by decide +kernel)) ggX4_readCommand_X7_isNumber
set_option maxRecDepth 20000 in
theorem ggX4_readCommand_X7_numberValue : GoodIn wsX4_readCommand wsX7_numberValue := goodIn_r _ [110, 12, 11, 14, 15, 16, 9, 17, 18, 19, 123, 124, 125, 126, 127] (by decide +kernel) (by decide +kernel)
set_option maxRecDepth 20000 in
theorem gX4_readCommand_X7_numberValue : GoodIn wsX4_readCommand (wsV RX4 69 RX7 yX7_numberValue wsX7_numberValue) := goodIn_app (goodIn_of _ (by decide +kernel)) ggX4_readCommand_X7_numberValue
set_option maxRecDepth 20000 in
theorem ggX4_readCommand_X7_isSemicolon : GoodIn wsX4_readCommand wsX7_isSemicolon := goodIn_r _ [114, 13, 12, 14, 15, 16, 9, 17, 18, 19, 123, 124, 125, 126, 127] (by decide +kernel) (by decide +kernel)
set_option maxRecDepth 20000 in
theorem gX4_readCommand_X7_isSemicolon : GoodIn wsX4_readCommand (wsV RX4 72 RX7 yX7_isSemicolon wsX7_isSemicolon) := goodIn_app (goodIn_of _ (by decide +kernel)) ggX4_readCommand_X7_isSemicolon
theorem dX4_readCommand_0 : decode cX4_readCommand 0 = .ok (.aload_n 0, 1) := by decide +kernel
theorem dX4_readCommand_1 : decode cX4_readCommand 1 = .ok (.getfield 28, 3) := by decide +kernel
theorem dX4_readCommand_4 : decode cX4_readCommand 4 = .ok (.ifCond .eq 5, 3) := by decide +kernel
theorem dX4_readCommand_7 : decode cX4_readCommand 7 = .ok (.iconst 0, 1) := by decide +kernel
theorem dX4_readCommand_8 : decode cX4_readCommand 8 = .ok (.ireturn, 1) := by decide +kernel
theorem dX4_readCommand_9 : decode cX4_readCommand 9 = .ok (.aload_n 0, 1) := by decide +kernel
theorem dX4_readCommand_10 : decode cX4_readCommand 10 = .ok (.getfield 12, 3) := by decide +kernel
theorem dX4_readCommand_13 : decode cX4_readCommand 13 = .ok (.invokevirtual 45, 3) := by decide +kernel
theorem dX4_readCommand_16 : decode cX4_readCommand 16 = .ok (.aload_n 0, 1) := by decide +kernel
theorem dX4_readCommand_17 : decode cX4_readCommand 17 = .ok (.getfield 12, 3) := by decide +kernel
theorem dX4_readCommand_20 : decode cX4_readCommand 20 = .ok (.invokevirtual 48, 3) := by decide +kernel
theorem dX4_readCommand_23 : decode cX4_readCommand 23 = .ok (.ifCond .eq 5, 3) := by decide +kernel
theorem dX4_readCommand_26 : decode cX4_readCommand 26 = .ok (.iconst 0, 1) := by decide +kernel
theorem dX4_readCommand_27 : decode cX4_readCommand 27 = .ok (.ireturn, 1) := by decide +kernel
theorem dX4_readCommand_28 : decode cX4_readCommand 28 = .ok (.aload_n 0, 1) := by decide +kernel
theorem dX4_readCommand_29 : decode cX4_readCommand 29 = .ok (.aload_n 0, 1) := by decide +kernel
theorem dX4_readCommand_30 : decode cX4_readCommand 30 = .ok (.invokevirtual 52, 3) := by decide +kernel
theorem dX4_readCommand_33 : decode cX4_readCommand 33 = .ok (.putfield 32, 3) := by decide +kernel
theorem dX4_readCommand_36 : decode cX4_readCommand 36 = .ok (.aload_n 0, 1) := by decide +kernel
theorem dX4_readCommand_37 : decode cX4_readCommand 37 = .ok (.aload_n 0, 1) := by decide +kernel
theorem dX4_readCommand_38 : decode cX4_readCommand 38 = .ok (.getfield 12, 3) := by decide +kernel
theorem dX4_readCommand_41 : decode cX4_readCommand 41 = .ok (.invokevirtual 56, 3) := by decide +kernel
theorem dX4_readCommand_44 : decode cX4_readCommand 44 = .ok (.putfield 36, 3) := by decide +kernel
theorem dX4_readCommand_47 : decode cX4_readCommand 47 = .ok (.aload_n 0, 1) := by decide +kernel
theorem dX4_readCommand_48 : decode cX4_readCommand 48 = .ok (.getfield 32, 3) := by decide +kernel
theorem dX4_readCommand_51 : decode cX4_readCommand 51 = .ok (.ifCond .ne 8, 3) := by decide +kernel
theorem dX4_readCommand_54 : decode cX4_readCommand 54 = .ok (.aload_n 0, 1) := by decide +kernel
theorem dX4_readCommand_55 : decode cX4_readCommand 55 = .ok (.invokevirtual 59, 3) := by decide +kernel
theorem dX4_readCommand_58 : decode cX4_readCommand 58 = .ok (.ireturn, 1) := by decide +kernel
theorem dX4_readCommand_59 : decode cX4_readCommand 59 = .ok (.aload_n 0, 1) := by decide +kernel
theorem dX4_readCommand_60 : decode cX4_readCommand 60 = .ok (.getfield 32, 3) := by decide +kernel
theorem dX4_readCommand_63 : decode cX4_readCommand 63 = .ok (.invokestatic 62, 3) := by decide +kernel
theorem dX4_readCommand_66 : decode cX4_readCommand 66 = .ok (.istore_n 1, 1) := by decide +kernel
theorem dX4_readCommand_67 : decode cX4_readCommand 67 = .ok (.iconst 0, 1) := by decide +kernel
theorem dX4_readCommand_68 : decode cX4_readCommand 68 = .ok (.istore_n 2, 1) := by decide +kernel
theorem dX4_readCommand_69 : decode cX4_readCommand 69 = .ok (.iload_n 2, 1) := by decide +kernel
theorem dX4_readCommand_70 : decode cX4_readCommand 70 = .ok (.iload_n 1, 1) := by decide +kernel
theorem dX4_readCommand_71 : decode cX4_readCommand 71 = .ok (.if_icmp .ge 49, 3) := by decide +kernel
theorem dX4_readCommand_74 : decode cX4_readCommand 74 = .ok (.iload_n 2, 1) := by decide +kernel
theorem dX4_readCommand_75 : decode cX4_readCommand 75 = .ok (.iconst 3, 1) := by decide +kernel
theorem dX4_readCommand_76 : decode cX4_readCommand 76 = .ok (.if_icmp .ge 44, 3) := by decide +kernel
theorem dX4_readCommand_79 : decode cX4_readCommand 79 = .ok (.aload_n 0, 1) := by decide +kernel
theorem dX4_readCommand_80 : decode cX4_readCommand 80 = .ok (.getfield 12, 3) := by decide +kernel
theorem dX4_readCommand_83 : decode cX4_readCommand 83 = .ok (.invokevirtual 45, 3) := by decide +kernel
theorem dX4_readCommand_86 : decode cX4_readCommand 86 = .ok (.aload_n 0, 1) := by decide +kernel
theorem dX4_readCommand_87 : decode cX4_readCommand 87 = .ok (.getfield 12, 3) := by decide +kernel
theorem dX4_readCommand_90 : decode cX4_readCommand 90 = .ok (.invokevirtual 66, 3) := by decide +kernel
theorem dX4_readCommand_93 : decode cX4_readCommand 93 = .ok (.ifCond .ne 8, 3) := by decide +kernel
theorem dX4_readCommand_96 : decode cX4_readCommand 96 = .ok (.aload_n 0, 1) := by decide +kernel
theorem dX4_readCommand_97 : decode cX4_readCommand 97 = .ok (.invokevirtual 59, 3) := by decide +kernel
theorem dX4_readCommand_100 : decode cX4_readCommand 100 = .ok (.ireturn, 1) := by decide +kernel
theorem dX4_readCommand_101 : decode cX4_readCommand 101 = .ok (.aload_n 0, 1) := by decide +kernel
theorem dX4_readCommand_102 : decode cX4_readCommand 102 = .ok (.getfield 18, 3) := by decide +kernel
theorem dX4_readCommand_105 : decode cX4_readCommand 105 = .ok (.iload_n 2, 1) := by decide +kernel
theorem dX4_readCommand_106 : decode cX4_readCommand 106 = .ok (.aload_n 0, 1) := by decide +kernel
theorem dX4_readCommand_107 : decode cX4_readCommand 107 = .ok (.getfield 12, 3) := by decide +kernel
theorem dX4_readCommand_110 : decode cX4_readCommand 110 = .ok (.invokevirtual 69, 3) := by decide +kernel
theorem dX4_readCommand_113 : decode cX4_readCommand 113 = .ok (.iastore, 1) := by decide +kernel
theorem dX4_readCommand_114 : decode cX4_readCommand 114 = .ok (.iinc 2 1, 3) := by decide +kernel
theorem dX4_readCommand_117 : decode cX4_readCommand 117 = .ok (.goto (-48), 3) := by decide +kernel
theorem dX4_readCommand_120 : decode cX4_readCommand 120 = .ok (.aload_n 0, 1) := by decide +kernel
theorem dX4_readCommand_121 : decode cX4_readCommand 121 = .ok (.getfield 12, 3) := by decide +kernel
theorem dX4_readCommand_124 : decode cX4_readCommand 124 = .ok (.invokevirtual 45, 3) := by decide +kernel
theorem dX4_readCommand_127 : decode cX4_readCommand 127 = .ok (.aload_n 0, 1) := by decide +kernel
theorem dX4_readCommand_128 : decode cX4_readCommand 128 = .ok (.getfield 12, 3) := by decide +kernel
theorem dX4_readCommand_131 : decode cX4_readCommand 131 = .ok (.invokevirtual 72, 3) := by decide +kernel
theorem dX4_readCommand_134 : decode cX4_readCommand 134 = .ok (.ifCond .ne 10, 3) := by decide +kernel
theorem dX4_readCommand_137 : decode cX4_readCommand 137 = .ok (.aload_n 0, 1) := by decide +kernel
theorem dX4_readCommand_138 : decode cX4_readCommand 138 = .ok (.invokevirtual 59, 3) := by decide +kernel
theorem dX4_readCommand_141 : decode cX4_readCommand 141 = .ok (.ifCond .eq 7, 3) := by decide +kernel
theorem dX4_readCommand_144 : decode cX4_readCommand 144 = .ok (.iconst 1, 1) := by decide +kernel
theorem dX4_readCommand_145 : decode cX4_readCommand 145 = .ok (.goto 4, 3) := by decide +kernel
theorem dX4_readCommand_148 : decode cX4_readCommand 148 = .ok (.iconst 0, 1) := by decide +kernel
theorem dX4_readCommand_149 : decode cX4_readCommand 149 = .ok (.ireturn, 1) := by decide +kernel
set_option maxRecDepth 20000 in
theorem ggX4_finishCommand_X4_fail : GoodIn wsX4_finishCommand wsX4_fail := goodIn_r _ [7, 8, 9, 10, 2, 11, 12, 13, 14, 15, 16, 17, 18] (by decide +kernel) (by decide +kernel)
set_option maxRecDepth 20000 in
theorem gX4_finishCommand_X4_fail : GoodIn wsX4_finishCommand (wsV RX4 75 RX4 yX4_fail wsX4_fail) := goodIn_app (goodIn_of _ (by decide +kernel)) ggX4_finishCommand_X4_fail
theorem dX4_finishCommand_0 : decode cX4_finishCommand 0 = .ok (.iload_n 1, 1) := by decide +kernel
theorem dX4_finishCommand_1 : decode cX4_finishCommand 1 = .ok (.ifCond .ge 16, 3) := by decide +kernel
theorem dX4_finishCommand_4 : decode cX4_finishCommand 4 = .ok (.aload_n 0, 1) := by decide +kernel
theorem dX4_finishCommand_5 : decode cX4_finishCommand 5 = .ok (.iconst 2, 1) := by decide +kernel
theorem dX4_finishCommand_6 : decode cX4_finishCommand 6 = .ok (.aload_n 0, 1) := by decide +kernel
theorem dX4_finishCommand_7 : decode cX4_finishCommand 7 = .ok (.getfield 36, 3) := by decide +kernel
theorem dX4_finishCommand_10 : decode cX4_finishCommand 10 = .ok (.iload_n 1, 1) := by decide +kernel
theorem dX4_finishCommand_11 : decode cX4_finishCommand 11 = .ok (.invokevirtual 75, 3) := by decide +kernel
theorem dX4_finishCommand_14 : decode cX4_finishCommand 14 = .ok (.goto 13, 3) := by decide +kernel
theorem dX4_finishCommand_17 : decode cX4_finishCommand 17 = .ok (.aload_n 0, 1) := by decide +kernel
theorem dX4_finishCommand_18 : decode cX4_finishCommand 18 = .ok (.dup, 1) := by decide +kernel
theorem dX4_finishCommand_19 : decode cX4_finishCommand 19 = .ok (.getfield 39, 3) := by decide +kernel
theorem dX4_finishCommand_22 : decode cX4_finishCommand 22 = .ok (.iconst 1, 1) := by decide +kernel
theorem dX4_finishCommand_23 : decode cX4_finishCommand 23 = .ok (.iadd, 1) := by decide +kernel
theorem dX4_finishCommand_24 : decode cX4_finishCommand 24 = .ok (.putfield 39, 3) := by decide +kernel
theorem dX4_finishCommand_27 : decode cX4_finishCommand 27 = .ok (.return_, 1) := by decide +kernel
set_option maxRecDepth 20000 in
theorem ggX4_failAtToken_X7_tokenStart : GoodIn wsX4_failAtToken wsX7_tokenStart := goodIn_r _ [6, 7, 25, 26, 27, 28, 29] (by decide +kernel) (by decide +kernel)
set_option maxRecDepth 20000 in
theorem gX4_failAtToken_X7_tokenStart : GoodIn wsX4_failAtToken (wsV RX4 56 RX7 yX7_tokenStart wsX7_tokenStart) := goodIn_app (goodIn_of _ (by decide +kernel)) ggX4_failAtToken_X7_tokenStart
set_option maxRecDepth 20000 in
theorem ggX4_failAtToken_X4_fail : GoodIn wsX4_failAtToken wsX4_fail := goodIn_r _ [12, 13, 14, 15, 16, 17, 18, 19, 20, 21, 22, 23, 24] (by decide +kernel) (by decide +kernel)
set_option maxRecDepth 20000 in
theorem gX4_failAtToken_X4_fail : GoodIn wsX4_failAtToken (wsV RX4 75 RX4 yX4_fail wsX4_fail) := goodIn_app (goodIn_of _ (by decide +kernel)) ggX4_failAtToken_X4_fail
theorem dX4_failAtToken_0 : decode cX4_failAtToken 0 = .ok (.aload_n 0, 1) := by decide +kernel
theorem dX4_failAtToken_1 : decode cX4_failAtToken 1 = .ok (.iconst 1, 1) := by decide +kernel
theorem dX4_failAtToken_2 : decode cX4_failAtToken 2 = .ok (.aload_n 0, 1) := by decide +kernel
theorem dX4_failAtToken_3 : decode cX4_failAtToken 3 = .ok (.getfield 12, 3) := by decide +kernel
theorem dX4_failAtToken_6 : decode cX4_failAtToken 6 = .ok (.invokevirtual 56, 3) := by decide +kernel
theorem dX4_failAtToken_9 : decode cX4_failAtToken 9 = .ok (.bipush (-9), 2) := by decide +kernel
theorem dX4_failAtToken_11 : decode cX4_failAtToken 11 = .ok (.invokevirtual 75, 3) := by decide +kernel
theorem dX4_failAtToken_14 : decode cX4_failAtToken 14 = .ok (.iconst 0, 1) := by decide +kernel
theorem dX4_failAtToken_15 : decode cX4_failAtToken 15 = .ok (.ireturn, 1) := by decide +kernel
theorem dX4_fail_0 : decode cX4_fail 0 = .ok (.aload_n 0, 1) := by decide +kernel
theorem dX4_fail_1 : decode cX4_fail 1 = .ok (.iconst 1, 1) := by decide +kernel
theorem dX4_fail_2 : decode cX4_fail 2 = .ok (.putfield 28, 3) := by decide +kernel
theorem dX4_fail_5 : decode cX4_fail 5 = .ok (.aload_n 0, 1) := by decide +kernel
theorem dX4_fail_6 : decode cX4_fail 6 = .ok (.iconst 1, 1) := by decide +kernel
theorem dX4_fail_7 : decode cX4_fail 7 = .ok (.putfield 42, 3) := by decide +kernel
theorem dX4_fail_10 : decode cX4_fail 10 = .ok (.aload_n 0, 1) := by decide +kernel
theorem dX4_fail_11 : decode cX4_fail 11 = .ok (.getfield 22, 3) := by decide +kernel
theorem dX4_fail_14 : decode cX4_fail 14 = .ok (.iconst 0, 1) := by decide +kernel
theorem dX4_fail_15 : decode cX4_fail 15 = .ok (.iload_n 1, 1) := by decide +kernel
theorem dX4_fail_16 : decode cX4_fail 16 = .ok (.iastore, 1) := by decide +kernel
theorem dX4_fail_17 : decode cX4_fail 17 = .ok (.aload_n 0, 1) := by decide +kernel
theorem dX4_fail_18 : decode cX4_fail 18 = .ok (.getfield 22, 3) := by decide +kernel
theorem dX4_fail_21 : decode cX4_fail 21 = .ok (.iconst 1, 1) := by decide +kernel
theorem dX4_fail_22 : decode cX4_fail 22 = .ok (.iload_n 2, 1) := by decide +kernel
theorem dX4_fail_23 : decode cX4_fail 23 = .ok (.iastore, 1) := by decide +kernel
theorem dX4_fail_24 : decode cX4_fail 24 = .ok (.aload_n 0, 1) := by decide +kernel
theorem dX4_fail_25 : decode cX4_fail 25 = .ok (.getfield 22, 3) := by decide +kernel
theorem dX4_fail_28 : decode cX4_fail 28 = .ok (.iconst 2, 1) := by decide +kernel
theorem dX4_fail_29 : decode cX4_fail 29 = .ok (.aload_n 0, 1) := by decide +kernel
theorem dX4_fail_30 : decode cX4_fail 30 = .ok (.getfield 39, 3) := by decide +kernel
theorem dX4_fail_33 : decode cX4_fail 33 = .ok (.iastore, 1) := by decide +kernel
theorem dX4_fail_34 : decode cX4_fail 34 = .ok (.aload_n 0, 1) := by decide +kernel
theorem dX4_fail_35 : decode cX4_fail 35 = .ok (.getfield 22, 3) := by decide +kernel
theorem dX4_fail_38 : decode cX4_fail 38 = .ok (.iconst 3, 1) := by decide +kernel
theorem dX4_fail_39 : decode cX4_fail 39 = .ok (.iload_n 3, 1) := by decide +kernel
theorem dX4_fail_40 : decode cX4_fail 40 = .ok (.iastore, 1) := by decide +kernel
theorem dX4_fail_41 : decode cX4_fail 41 = .ok (.return_, 1) := by decide +kernel
set_option maxRecDepth 20000 in
theorem ggX4_commandOfWord_X7_isWord : GoodIn wsX4_commandOfWord wsX7_isWord := goodIn_r _ [6, 7, 8, 9, 10, 11, 12, 13, 14, 15, 16, 17, 18, 19, 20, 21, 22, 23, 24, 5, 25, 26, 27, 28, 29, 30, 31, 32, 33, 34, 35, 36, 37, 38, 39, 40, 41, 42, 43, 44, 45, 46, 47, 48, 49, 50, 51, 52, 53, 54, 55, 56, 57, 58, 59, 60, 61, 62, 63, 64, 73, 74, 75, 76, 77] (by decide +kernel) (by decide +kernel)
set_option maxRecDepth 20000 in
theorem gX4_commandOfWord_X7_isWord : GoodIn wsX4_commandOfWord (wsV RX4 81 RX7 yX7_isWord wsX7_isWord) := goodIn_app (goodIn_of _ (by decide +kernel)) ggX4_commandOfWord_X7_isWord
theorem dX4_commandOfWord_0 : decode cX4_commandOfWord 0 = .ok (.aload_n 0, 1) := by decide +kernel
theorem dX4_commandOfWord_1 : decode cX4_commandOfWord 1 = .ok (.getfield 12, 3) := by decide +kernel
theorem dX4_commandOfWord_4 : decode cX4_commandOfWord 4 = .ok (.ldc 79, 2) := by decide +kernel
theorem dX4_commandOfWord_6 : decode cX4_commandOfWord 6 = .ok (.invokevirtual 81, 3) := by decide +kernel
theorem dX4_commandOfWord_9 : decode cX4_commandOfWord 9 = .ok (.ifCond .eq 5, 3) := by decide +kernel
theorem dX4_commandOfWord_12 : decode cX4_commandOfWord 12 = .ok (.iconst 1, 1) := by decide +kernel
theorem dX4_commandOfWord_13 : decode cX4_commandOfWord 13 = .ok (.ireturn, 1) := by decide +kernel
theorem dX4_commandOfWord_14 : decode cX4_commandOfWord 14 = .ok (.aload_n 0, 1) := by decide +kernel
theorem dX4_commandOfWord_15 : decode cX4_commandOfWord 15 = .ok (.getfield 12, 3) := by decide +kernel
theorem dX4_commandOfWord_18 : decode cX4_commandOfWord 18 = .ok (.ldc 85, 2) := by decide +kernel
theorem dX4_commandOfWord_20 : decode cX4_commandOfWord 20 = .ok (.invokevirtual 81, 3) := by decide +kernel
theorem dX4_commandOfWord_23 : decode cX4_commandOfWord 23 = .ok (.ifCond .eq 5, 3) := by decide +kernel
theorem dX4_commandOfWord_26 : decode cX4_commandOfWord 26 = .ok (.iconst 2, 1) := by decide +kernel
theorem dX4_commandOfWord_27 : decode cX4_commandOfWord 27 = .ok (.ireturn, 1) := by decide +kernel
theorem dX4_commandOfWord_28 : decode cX4_commandOfWord 28 = .ok (.aload_n 0, 1) := by decide +kernel
theorem dX4_commandOfWord_29 : decode cX4_commandOfWord 29 = .ok (.getfield 12, 3) := by decide +kernel
theorem dX4_commandOfWord_32 : decode cX4_commandOfWord 32 = .ok (.ldc 87, 2) := by decide +kernel
theorem dX4_commandOfWord_34 : decode cX4_commandOfWord 34 = .ok (.invokevirtual 81, 3) := by decide +kernel
theorem dX4_commandOfWord_37 : decode cX4_commandOfWord 37 = .ok (.ifCond .eq 5, 3) := by decide +kernel
theorem dX4_commandOfWord_40 : decode cX4_commandOfWord 40 = .ok (.iconst 3, 1) := by decide +kernel
theorem dX4_commandOfWord_41 : decode cX4_commandOfWord 41 = .ok (.ireturn, 1) := by decide +kernel
theorem dX4_commandOfWord_42 : decode cX4_commandOfWord 42 = .ok (.aload_n 0, 1) := by decide +kernel
theorem dX4_commandOfWord_43 : decode cX4_commandOfWord 43 = .ok (.getfield 12, 3) := by decide +kernel
theorem dX4_commandOfWord_46 : decode cX4_commandOfWord 46 = .ok (.ldc 89, 2) := by decide +kernel
theorem dX4_commandOfWord_48 : decode cX4_commandOfWord 48 = .ok (.invokevirtual 81, 3) := by decide +kernel
theorem dX4_commandOfWord_51 : decode cX4_commandOfWord 51 = .ok (.ifCond .eq 5, 3) := by decide +kernel
theorem dX4_commandOfWord_54 : decode cX4_commandOfWord 54 = .ok (.iconst 4, 1) := by decide +kernel
theorem dX4_commandOfWord_55 : decode cX4_commandOfWord 55 = .ok (.ireturn, 1) := by decide +kernel
theorem dX4_commandOfWord_56 : decode cX4_commandOfWord 56 = .ok (.aload_n 0, 1) := by decide +kernel
theorem dX4_commandOfWord_57 : decode cX4_commandOfWord 57 = .ok (.getfield 12, 3) := by decide +kernel
theorem dX4_commandOfWord_60 : decode cX4_commandOfWord 60 = .ok (.ldc 91, 2) := by decide +kernel
theorem dX4_commandOfWord_62 : decode cX4_commandOfWord 62 = .ok (.invokevirtual 81, 3) := by decide +kernel
theorem dX4_commandOfWord_65 : decode cX4_commandOfWord 65 = .ok (.ifCond .eq 7, 3) := by decide +kernel
theorem dX4_commandOfWord_68 : decode cX4_commandOfWord 68 = .ok (.iconst 5, 1) := by decide +kernel
theorem dX4_commandOfWord_69 : decode cX4_commandOfWord 69 = .ok (.goto 4, 3) := by decide +kernel
theorem dX4_commandOfWord_72 : decode cX4_commandOfWord 72 = .ok (.iconst 0, 1) := by decide +kernel
theorem dX4_commandOfWord_73 : decode cX4_commandOfWord 73 = .ok (.ireturn, 1) := by decide +kernel
theorem dX4_numbersOf_0 : decode cX4_numbersOf 0 = .ok (.iload_n 0, 1) := by decide +kernel
theorem dX4_numbersOf_1 : decode cX4_numbersOf 1 = .ok (.tableswitch 37 1 4 #[31, 35, 33, 35], 31) := by decide +kernel
theorem dX4_numbersOf_32 : decode cX4_numbersOf 32 = .ok (.iconst 3, 1) := by decide +kernel
theorem dX4_numbersOf_33 : decode cX4_numbersOf 33 = .ok (.ireturn, 1) := by decide +kernel
theorem dX4_numbersOf_34 : decode cX4_numbersOf 34 = .ok (.iconst 2, 1) := by decide +kernel
theorem dX4_numbersOf_35 : decode cX4_numbersOf 35 = .ok (.ireturn, 1) := by decide +kernel
theorem dX4_numbersOf_36 : decode cX4_numbersOf 36 = .ok (.iconst 1, 1) := by decide +kernel
theorem dX4_numbersOf_37 : decode cX4_numbersOf 37 = .ok (.ireturn, 1) := by decide +kernel
theorem dX4_numbersOf_38 : decode cX4_numbersOf 38 = .ok (.iconst 0, 1) := by decide +kernel
theorem dX4_numbersOf_39 : decode cX4_numbersOf 39 = .ok (.ireturn, 1) := by decide +kernel
end
section
def f_X3_copyFrom (v_first : (Nat → Int32)) (v_last : (Nat → Int32)) (v_length : (Nat → Int32)) (v_line : (Nat → Int32)) (v_behind : (Nat → Int32)) (u_first : (Nat → Int32)) (u_last : (Nat → Int32)) (u_length : (Nat → Int32)) (u_line : (Nat → Int32)) (u_behind : (Nat → Int32)) : Option ((Nat → Int32) × (Nat → Int32) × (Nat → Int32) × (Nat → Int32) × (Nat → Int32)) := zk_let (va_cpy u_first v_first 0 0 25) fun v_first_1 => zk_let (va_cpy u_last v_last 0 0 25) fun v_last_2 => zk_let (va_cpy u_length v_length 0 0 25) fun v_length_3 => zk_let (va_cpy u_line v_line 0 0 40) fun v_line_4 => zk_let (va_cpy u_behind v_behind 0 0 40) fun v_behind_5 => some (v_first_1, v_last_2, v_length_3, v_line_4, v_behind_5)
theorem kX3_copyFrom_inX3 : ∀ w ∈ u_ws RX3 TX3 5, w ∈ wsX3_copyFrom := by decide +kernel
theorem kX3_copyFrom_1 : Cond.fieldLink RX3 9 (TX3 0).1 (TX3 0).2.1 (TX3 0).2.2.1 ∈ wsX3_copyFrom := by decide +kernel
theorem kX3_copyFrom_2 : Cond.methodLink RX3 33 arraycopyName ∈ wsX3_copyFrom := by decide +kernel
theorem kX3_copyFrom_3 : Cond.native arraycopyName ∈ wsX3_copyFrom := by decide +kernel
theorem kX3_copyFrom_4 : Cond.static arraycopyName ∈ wsX3_copyFrom := by decide +kernel
theorem kX3_copyFrom_5 : Cond.initialized "java/lang/System" ∈ wsX3_copyFrom := by decide +kernel
theorem kX3_copyFrom_6 : Cond.fieldLink RX3 15 (TX3 1).1 (TX3 1).2.1 (TX3 1).2.2.1 ∈ wsX3_copyFrom := by decide +kernel
theorem kX3_copyFrom_7 : Cond.fieldLink RX3 18 (TX3 2).1 (TX3 2).2.1 (TX3 2).2.2.1 ∈ wsX3_copyFrom := by decide +kernel
theorem kX3_copyFrom_8 : Cond.fieldLink RX3 21 (TX3 3).1 (TX3 3).2.1 (TX3 3).2.2.1 ∈ wsX3_copyFrom := by decide +kernel
theorem kX3_copyFrom_9 : Cond.fieldLink RX3 24 (TX3 4).1 (TX3 4).2.1 (TX3 4).2.2.1 ∈ wsX3_copyFrom := by decide +kernel
theorem cd_X3_copyFrom : yX3_copyFrom.cls = RX3 ∧ yX3_copyFrom.cls ≠ "java/lang/invoke/MethodHandle" ∧ yX3_copyFrom.cls ≠ "java/lang/invoke/VarHandle" ∧ (parseMethodDescriptor yX3_copyFrom.desc).map (fun d => d.parameters.length) = some 1 := by decide +kernel
set_option maxRecDepth 100000 in
set_option maxHeartbeats 4000000 in
theorem c_X3_copyFrom (E : zk_Env) (l : Launch) (a : aX3) (v : VX3) (b1 : aX3) (u1 : VX3)  : zk_Mc E l yX3_copyFrom wsX3_copyFrom ({ frames := 1, cells := 0, slots := 0, locals := 18 } : Room) [.ref a.1, .ref b1.1] (zk_j [gX3 E a v, gX3 E b1 u1]) (f_X3_copyFrom v.1 v.2.1 v.2.2.1 v.2.2.2.1 v.2.2.2.2 u1.1 u1.2.1 u1.2.2.1 u1.2.2.2.1 u1.2.2.2.2) (fun _ => none) (fun r => (zk_j [gX3 E a r, gX3 E b1 u1])) := by
  obtain ⟨v_first, v_last, v_length, v_line, v_behind⟩ := v
  obtain ⟨u_first, u_last, u_length, u_line, u_behind⟩ := u1
  refine zk_M (cc := cX3_copyFrom) (nL := 2) (ret := none) (by decide) rfl (Nat.le_of_ble_eq_true rfl) (fun X Q hQ => ?_)
  refine zk_eqv (w1 := (zk_j [gX3 E a (v_first, v_last, v_length, v_line, v_behind), gX3 E b1 (u_first, u_last, u_length, u_line, u_behind)])) (lv1 := [(0, .ref a.1), (1, .ref b1.1)]) (st1 := []) (o1 := f_X3_copyFrom v_first v_last v_length v_line v_behind u_first u_last u_length u_line u_behind) rfl rfl rfl rfl ?_
  unfold f_X3_copyFrom
  refine zk_aload_n dX3_copyFrom_0 1 rfl 1 rfl ?_
  refine zk_get dX3_copyFrom_1 6 rfl rfl kX3_copyFrom_inX3 0 (by decide) kX3_copyFrom_1 rfl 4 rfl ?_
  refine zk_iconst 0 dX3_copyFrom_4 (by decide) 5 rfl ?_
  refine zk_aload_n dX3_copyFrom_5 0 rfl 6 rfl ?_
  refine zk_get dX3_copyFrom_6 0 rfl rfl kX3_copyFrom_inX3 0 (by decide) kX3_copyFrom_1 rfl 9 rfl ?_
  refine zk_iconst 0 dX3_copyFrom_9 (by decide) 10 rfl ?_
  refine zk_bipush 25 dX3_copyFrom_10 (by decide) 12 rfl ?_
  refine zk_acopy 25 (zk_j [gX3 E a ((va_cpy u_first v_first 0 0 25), v_last, v_length, v_line, v_behind), gX3 E b1 (u_first, u_last, u_length, u_line, u_behind)]) dX3_copyFrom_12 kX3_copyFrom_2 kX3_copyFrom_3 kX3_copyFrom_4 kX3_copyFrom_5 7 1 rfl rfl rfl rfl rfl (Nat.le_of_ble_eq_true rfl) (Nat.le_of_ble_eq_true rfl) (Nat.le_of_ble_eq_true rfl) (Nat.le_of_ble_eq_true rfl) (Nat.le_of_ble_eq_true rfl) rfl 15 rfl ?_
  refine zk_nmw (fun v_first_1 => (zk_j [gX3 E a (v_first_1, v_last, v_length, v_line, v_behind), gX3 E b1 (u_first, u_last, u_length, u_line, u_behind)])) _ rfl (fun v_first_1 => ?_)
  refine zk_aload_n dX3_copyFrom_15 1 rfl 16 rfl ?_
  refine zk_get dX3_copyFrom_16 6 rfl rfl kX3_copyFrom_inX3 1 (by decide) kX3_copyFrom_6 rfl 19 rfl ?_
  refine zk_iconst 0 dX3_copyFrom_19 (by decide) 20 rfl ?_
  refine zk_aload_n dX3_copyFrom_20 0 rfl 21 rfl ?_
  refine zk_get dX3_copyFrom_21 0 rfl rfl kX3_copyFrom_inX3 1 (by decide) kX3_copyFrom_6 rfl 24 rfl ?_
  refine zk_iconst 0 dX3_copyFrom_24 (by decide) 25 rfl ?_
  refine zk_bipush 25 dX3_copyFrom_25 (by decide) 27 rfl ?_
  refine zk_acopy 25 (zk_j [gX3 E a (v_first_1, (va_cpy u_last v_last 0 0 25), v_length, v_line, v_behind), gX3 E b1 (u_first, u_last, u_length, u_line, u_behind)]) dX3_copyFrom_27 kX3_copyFrom_2 kX3_copyFrom_3 kX3_copyFrom_4 kX3_copyFrom_5 8 2 rfl rfl rfl rfl rfl (Nat.le_of_ble_eq_true rfl) (Nat.le_of_ble_eq_true rfl) (Nat.le_of_ble_eq_true rfl) (Nat.le_of_ble_eq_true rfl) (Nat.le_of_ble_eq_true rfl) rfl 30 rfl ?_
  refine zk_nmw (fun v_last_2 => (zk_j [gX3 E a (v_first_1, v_last_2, v_length, v_line, v_behind), gX3 E b1 (u_first, u_last, u_length, u_line, u_behind)])) _ rfl (fun v_last_2 => ?_)
  refine zk_aload_n dX3_copyFrom_30 1 rfl 31 rfl ?_
  refine zk_get dX3_copyFrom_31 6 rfl rfl kX3_copyFrom_inX3 2 (by decide) kX3_copyFrom_7 rfl 34 rfl ?_
  refine zk_iconst 0 dX3_copyFrom_34 (by decide) 35 rfl ?_
  refine zk_aload_n dX3_copyFrom_35 0 rfl 36 rfl ?_
  refine zk_get dX3_copyFrom_36 0 rfl rfl kX3_copyFrom_inX3 2 (by decide) kX3_copyFrom_7 rfl 39 rfl ?_
  refine zk_iconst 0 dX3_copyFrom_39 (by decide) 40 rfl ?_
  refine zk_bipush 25 dX3_copyFrom_40 (by decide) 42 rfl ?_
  refine zk_acopy 25 (zk_j [gX3 E a (v_first_1, v_last_2, (va_cpy u_length v_length 0 0 25), v_line, v_behind), gX3 E b1 (u_first, u_last, u_length, u_line, u_behind)]) dX3_copyFrom_42 kX3_copyFrom_2 kX3_copyFrom_3 kX3_copyFrom_4 kX3_copyFrom_5 9 3 rfl rfl rfl rfl rfl (Nat.le_of_ble_eq_true rfl) (Nat.le_of_ble_eq_true rfl) (Nat.le_of_ble_eq_true rfl) (Nat.le_of_ble_eq_true rfl) (Nat.le_of_ble_eq_true rfl) rfl 45 rfl ?_
  refine zk_nmw (fun v_length_3 => (zk_j [gX3 E a (v_first_1, v_last_2, v_length_3, v_line, v_behind), gX3 E b1 (u_first, u_last, u_length, u_line, u_behind)])) _ rfl (fun v_length_3 => ?_)
  refine zk_aload_n dX3_copyFrom_45 1 rfl 46 rfl ?_
  refine zk_get dX3_copyFrom_46 6 rfl rfl kX3_copyFrom_inX3 3 (by decide) kX3_copyFrom_8 rfl 49 rfl ?_
  refine zk_iconst 0 dX3_copyFrom_49 (by decide) 50 rfl ?_
  refine zk_aload_n dX3_copyFrom_50 0 rfl 51 rfl ?_
  refine zk_get dX3_copyFrom_51 0 rfl rfl kX3_copyFrom_inX3 3 (by decide) kX3_copyFrom_8 rfl 54 rfl ?_
  refine zk_iconst 0 dX3_copyFrom_54 (by decide) 55 rfl ?_
  refine zk_bipush 40 dX3_copyFrom_55 (by decide) 57 rfl ?_
  refine zk_acopy 40 (zk_j [gX3 E a (v_first_1, v_last_2, v_length_3, (va_cpy u_line v_line 0 0 40), v_behind), gX3 E b1 (u_first, u_last, u_length, u_line, u_behind)]) dX3_copyFrom_57 kX3_copyFrom_2 kX3_copyFrom_3 kX3_copyFrom_4 kX3_copyFrom_5 10 4 rfl rfl rfl rfl rfl (Nat.le_of_ble_eq_true rfl) (Nat.le_of_ble_eq_true rfl) (Nat.le_of_ble_eq_true rfl) (Nat.le_of_ble_eq_true rfl) (Nat.le_of_ble_eq_true rfl) rfl 60 rfl ?_
  refine zk_nmw (fun v_line_4 => (zk_j [gX3 E a (v_first_1, v_last_2, v_length_3, v_line_4, v_behind), gX3 E b1 (u_first, u_last, u_length, u_line, u_behind)])) _ rfl (fun v_line_4 => ?_)
  refine zk_aload_n dX3_copyFrom_60 1 rfl 61 rfl ?_
  refine zk_get dX3_copyFrom_61 6 rfl rfl kX3_copyFrom_inX3 4 (by decide) kX3_copyFrom_9 rfl 64 rfl ?_
  refine zk_iconst 0 dX3_copyFrom_64 (by decide) 65 rfl ?_
  refine zk_aload_n dX3_copyFrom_65 0 rfl 66 rfl ?_
  refine zk_get dX3_copyFrom_66 0 rfl rfl kX3_copyFrom_inX3 4 (by decide) kX3_copyFrom_9 rfl 69 rfl ?_
  refine zk_iconst 0 dX3_copyFrom_69 (by decide) 70 rfl ?_
  refine zk_bipush 40 dX3_copyFrom_70 (by decide) 72 rfl ?_
  refine zk_acopy 40 (zk_j [gX3 E a (v_first_1, v_last_2, v_length_3, v_line_4, (va_cpy u_behind v_behind 0 0 40)), gX3 E b1 (u_first, u_last, u_length, u_line, u_behind)]) dX3_copyFrom_72 kX3_copyFrom_2 kX3_copyFrom_3 kX3_copyFrom_4 kX3_copyFrom_5 11 5 rfl rfl rfl rfl rfl (Nat.le_of_ble_eq_true rfl) (Nat.le_of_ble_eq_true rfl) (Nat.le_of_ble_eq_true rfl) (Nat.le_of_ble_eq_true rfl) (Nat.le_of_ble_eq_true rfl) rfl 75 rfl ?_
  refine zk_nmw (fun v_behind_5 => (zk_j [gX3 E a (v_first_1, v_last_2, v_length_3, v_line_4, v_behind_5), gX3 E b1 (u_first, u_last, u_length, u_line, u_behind)])) _ rfl (fun v_behind_5 => ?_)
  exact zk_vret hQ dX3_copyFrom_75 rfl rfl
def f_X3_lengthOf (x1 : Int32) (v_length : (Nat → Int32)) : Option (Int32) := if x1 < 0 then some 0 else if x1 < 25 then zk_ck x1 25 (some (v_length x1.toNatClampNeg)) else some 0
theorem kX3_lengthOf_inX3 : ∀ w ∈ u_ws RX3 TX3 5, w ∈ wsX3_lengthOf := by decide +kernel
theorem kX3_lengthOf_1 : Cond.fieldLink RX3 18 (TX3 2).1 (TX3 2).2.1 (TX3 2).2.2.1 ∈ wsX3_lengthOf := by decide +kernel
theorem cd_X3_lengthOf : yX3_lengthOf.cls = RX3 ∧ yX3_lengthOf.cls ≠ "java/lang/invoke/MethodHandle" ∧ yX3_lengthOf.cls ≠ "java/lang/invoke/VarHandle" ∧ (parseMethodDescriptor yX3_lengthOf.desc).map (fun d => d.parameters.length) = some 1 := by decide +kernel
set_option maxRecDepth 100000 in
set_option maxHeartbeats 4000000 in
theorem c_X3_lengthOf (E : zk_Env) (l : Launch) (a : aX3) (v : VX3) (x1 : Int32) : zk_Mc E l yX3_lengthOf wsX3_lengthOf ({ frames := 0, cells := 0, slots := 0, locals := 0 } : Room) [.ref a.1, .int x1] (gX3 E a v) (f_X3_lengthOf x1 v.2.2.1) (fun r => some (.int r)) (fun r => (gX3 E a v)) := by
  obtain ⟨v_first, v_last, v_length, v_line, v_behind⟩ := v
  refine zk_M (cc := cX3_lengthOf) (nL := 2) (ret := (some .int)) (by decide) rfl (Nat.le_of_ble_eq_true rfl) (fun X Q hQ => ?_)
  refine zk_eqv (w1 := (gX3 E a (v_first, v_last, v_length, v_line, v_behind))) (lv1 := [(0, .ref a.1), (1, .int x1)]) (st1 := []) (o1 := f_X3_lengthOf x1 v_length) rfl rfl rfl rfl ?_
  unfold f_X3_lengthOf
  refine zk_iload_n dX3_lengthOf_0 1 rfl 1 rfl ?_
  refine zk_if_lt dX3_lengthOf_1 10 (by decide) 4 rfl (fun _ => ?_) (fun _ => ?_)
  · refine zk_iconst 0 dX3_lengthOf_10 (by decide) 11 rfl ?_
    refine zk_goto dX3_lengthOf_11 20 (by decide) ?_
    exact zk_iret hQ dX3_lengthOf_20 rfl rfl
  · refine zk_iload_n dX3_lengthOf_4 1 rfl 5 rfl ?_
    refine zk_bipush 25 dX3_lengthOf_5 (by decide) 7 rfl ?_
    refine zk_icmp_lt dX3_lengthOf_7 14 (by decide) 10 rfl (fun _ => ?_) (fun _ => ?_)
    · refine zk_aload_n dX3_lengthOf_14 0 rfl 15 rfl ?_
      refine zk_get dX3_lengthOf_15 0 rfl rfl kX3_lengthOf_inX3 2 (by decide) kX3_lengthOf_1 rfl 18 rfl ?_
      refine zk_iload_n dX3_lengthOf_18 1 rfl 19 rfl ?_
      refine zk_iald dX3_lengthOf_19 3 rfl 20 rfl ?_
      exact zk_iret hQ dX3_lengthOf_20 rfl rfl
    · refine zk_iconst 0 dX3_lengthOf_10 (by decide) 11 rfl ?_
      refine zk_goto dX3_lengthOf_11 20 (by decide) ?_
      exact zk_iret hQ dX3_lengthOf_20 rfl rfl
def f_X3_frontOf (x1 : Int32) (v_first : (Nat → Int32)) : Option (Int32) := if x1 < 0 then some (-1) else if x1 < 25 then zk_ck x1 25 (some (v_first x1.toNatClampNeg)) else some (-1)
theorem kX3_frontOf_inX3 : ∀ w ∈ u_ws RX3 TX3 5, w ∈ wsX3_frontOf := by decide +kernel
theorem kX3_frontOf_1 : Cond.fieldLink RX3 9 (TX3 0).1 (TX3 0).2.1 (TX3 0).2.2.1 ∈ wsX3_frontOf := by decide +kernel
theorem cd_X3_frontOf : yX3_frontOf.cls = RX3 ∧ yX3_frontOf.cls ≠ "java/lang/invoke/MethodHandle" ∧ yX3_frontOf.cls ≠ "java/lang/invoke/VarHandle" ∧ (parseMethodDescriptor yX3_frontOf.desc).map (fun d => d.parameters.length) = some 1 := by decide +kernel
set_option maxRecDepth 100000 in
set_option maxHeartbeats 4000000 in
theorem c_X3_frontOf (E : zk_Env) (l : Launch) (a : aX3) (v : VX3) (x1 : Int32) : zk_Mc E l yX3_frontOf wsX3_frontOf ({ frames := 0, cells := 0, slots := 0, locals := 0 } : Room) [.ref a.1, .int x1] (gX3 E a v) (f_X3_frontOf x1 v.1) (fun r => some (.int r)) (fun r => (gX3 E a v)) := by
  obtain ⟨v_first, v_last, v_length, v_line, v_behind⟩ := v
  refine zk_M (cc := cX3_frontOf) (nL := 2) (ret := (some .int)) (by decide) rfl (Nat.le_of_ble_eq_true rfl) (fun X Q hQ => ?_)
  refine zk_eqv (w1 := (gX3 E a (v_first, v_last, v_length, v_line, v_behind))) (lv1 := [(0, .ref a.1), (1, .int x1)]) (st1 := []) (o1 := f_X3_frontOf x1 v_first) rfl rfl rfl rfl ?_
  unfold f_X3_frontOf
  refine zk_iload_n dX3_frontOf_0 1 rfl 1 rfl ?_
  refine zk_if_lt dX3_frontOf_1 10 (by decide) 4 rfl (fun _ => ?_) (fun _ => ?_)
  · refine zk_iconst (-1) dX3_frontOf_10 (by decide) 11 rfl ?_
    refine zk_goto dX3_frontOf_11 20 (by decide) ?_
    exact zk_iret hQ dX3_frontOf_20 rfl rfl
  · refine zk_iload_n dX3_frontOf_4 1 rfl 5 rfl ?_
    refine zk_bipush 25 dX3_frontOf_5 (by decide) 7 rfl ?_
    refine zk_icmp_lt dX3_frontOf_7 14 (by decide) 10 rfl (fun _ => ?_) (fun _ => ?_)
    · refine zk_aload_n dX3_frontOf_14 0 rfl 15 rfl ?_
      refine zk_get dX3_frontOf_15 0 rfl rfl kX3_frontOf_inX3 0 (by decide) kX3_frontOf_1 rfl 18 rfl ?_
      refine zk_iload_n dX3_frontOf_18 1 rfl 19 rfl ?_
      refine zk_iald dX3_frontOf_19 1 rfl 20 rfl ?_
      exact zk_iret hQ dX3_frontOf_20 rfl rfl
    · refine zk_iconst (-1) dX3_frontOf_10 (by decide) 11 rfl ?_
      refine zk_goto dX3_frontOf_11 20 (by decide) ?_
      exact zk_iret hQ dX3_frontOf_20 rfl rfl
def f_X3_follower (x1 : Int32) (v_behind : (Nat → Int32)) : Option (Int32) := if x1 < 0 then some (-1) else if x1 < 40 then zk_ck x1 40 (some (v_behind x1.toNatClampNeg)) else some (-1)
theorem kX3_follower_inX3 : ∀ w ∈ u_ws RX3 TX3 5, w ∈ wsX3_follower := by decide +kernel
theorem kX3_follower_1 : Cond.fieldLink RX3 24 (TX3 4).1 (TX3 4).2.1 (TX3 4).2.2.1 ∈ wsX3_follower := by decide +kernel
theorem cd_X3_follower : yX3_follower.cls = RX3 ∧ yX3_follower.cls ≠ "java/lang/invoke/MethodHandle" ∧ yX3_follower.cls ≠ "java/lang/invoke/VarHandle" ∧ (parseMethodDescriptor yX3_follower.desc).map (fun d => d.parameters.length) = some 1 := by decide +kernel
set_option maxRecDepth 100000 in
set_option maxHeartbeats 4000000 in
theorem c_X3_follower (E : zk_Env) (l : Launch) (a : aX3) (v : VX3) (x1 : Int32) : zk_Mc E l yX3_follower wsX3_follower ({ frames := 0, cells := 0, slots := 0, locals := 0 } : Room) [.ref a.1, .int x1] (gX3 E a v) (f_X3_follower x1 v.2.2.2.2) (fun r => some (.int r)) (fun r => (gX3 E a v)) := by
  obtain ⟨v_first, v_last, v_length, v_line, v_behind⟩ := v
  refine zk_M (cc := cX3_follower) (nL := 2) (ret := (some .int)) (by decide) rfl (Nat.le_of_ble_eq_true rfl) (fun X Q hQ => ?_)
  refine zk_eqv (w1 := (gX3 E a (v_first, v_last, v_length, v_line, v_behind))) (lv1 := [(0, .ref a.1), (1, .int x1)]) (st1 := []) (o1 := f_X3_follower x1 v_behind) rfl rfl rfl rfl ?_
  unfold f_X3_follower
  refine zk_iload_n dX3_follower_0 1 rfl 1 rfl ?_
  refine zk_if_lt dX3_follower_1 10 (by decide) 4 rfl (fun _ => ?_) (fun _ => ?_)
  · refine zk_iconst (-1) dX3_follower_10 (by decide) 11 rfl ?_
    refine zk_goto dX3_follower_11 20 (by decide) ?_
    exact zk_iret hQ dX3_follower_20 rfl rfl
  · refine zk_iload_n dX3_follower_4 1 rfl 5 rfl ?_
    refine zk_bipush 40 dX3_follower_5 (by decide) 7 rfl ?_
    refine zk_icmp_lt dX3_follower_7 14 (by decide) 10 rfl (fun _ => ?_) (fun _ => ?_)
    · refine zk_aload_n dX3_follower_14 0 rfl 15 rfl ?_
      refine zk_get dX3_follower_15 0 rfl rfl kX3_follower_inX3 4 (by decide) kX3_follower_1 rfl 18 rfl ?_
      refine zk_iload_n dX3_follower_18 1 rfl 19 rfl ?_
      refine zk_iald dX3_follower_19 5 rfl 20 rfl ?_
      exact zk_iret hQ dX3_follower_20 rfl rfl
    · refine zk_iconst (-1) dX3_follower_10 (by decide) 11 rfl ?_
      refine zk_goto dX3_follower_11 20 (by decide) ?_
      exact zk_iret hQ dX3_follower_20 rfl rfl
def f_X3_lineOf (x1 : Int32) (v_line : (Nat → Int32)) : Option (Int32) := if x1 < 0 then some (-1) else if x1 < 40 then zk_ck x1 40 (some (v_line x1.toNatClampNeg)) else some (-1)
theorem kX3_lineOf_inX3 : ∀ w ∈ u_ws RX3 TX3 5, w ∈ wsX3_lineOf := by decide +kernel
theorem kX3_lineOf_1 : Cond.fieldLink RX3 21 (TX3 3).1 (TX3 3).2.1 (TX3 3).2.2.1 ∈ wsX3_lineOf := by decide +kernel
theorem cd_X3_lineOf : yX3_lineOf.cls = RX3 ∧ yX3_lineOf.cls ≠ "java/lang/invoke/MethodHandle" ∧ yX3_lineOf.cls ≠ "java/lang/invoke/VarHandle" ∧ (parseMethodDescriptor yX3_lineOf.desc).map (fun d => d.parameters.length) = some 1 := by decide +kernel
set_option maxRecDepth 100000 in
set_option maxHeartbeats 4000000 in
theorem c_X3_lineOf (E : zk_Env) (l : Launch) (a : aX3) (v : VX3) (x1 : Int32) : zk_Mc E l yX3_lineOf wsX3_lineOf ({ frames := 0, cells := 0, slots := 0, locals := 0 } : Room) [.ref a.1, .int x1] (gX3 E a v) (f_X3_lineOf x1 v.2.2.2.1) (fun r => some (.int r)) (fun r => (gX3 E a v)) := by
  obtain ⟨v_first, v_last, v_length, v_line, v_behind⟩ := v
  refine zk_M (cc := cX3_lineOf) (nL := 2) (ret := (some .int)) (by decide) rfl (Nat.le_of_ble_eq_true rfl) (fun X Q hQ => ?_)
  refine zk_eqv (w1 := (gX3 E a (v_first, v_last, v_length, v_line, v_behind))) (lv1 := [(0, .ref a.1), (1, .int x1)]) (st1 := []) (o1 := f_X3_lineOf x1 v_line) rfl rfl rfl rfl ?_
  unfold f_X3_lineOf
  refine zk_iload_n dX3_lineOf_0 1 rfl 1 rfl ?_
  refine zk_if_lt dX3_lineOf_1 10 (by decide) 4 rfl (fun _ => ?_) (fun _ => ?_)
  · refine zk_iconst (-1) dX3_lineOf_10 (by decide) 11 rfl ?_
    refine zk_goto dX3_lineOf_11 20 (by decide) ?_
    exact zk_iret hQ dX3_lineOf_20 rfl rfl
  · refine zk_iload_n dX3_lineOf_4 1 rfl 5 rfl ?_
    refine zk_bipush 40 dX3_lineOf_5 (by decide) 7 rfl ?_
    refine zk_icmp_lt dX3_lineOf_7 14 (by decide) 10 rfl (fun _ => ?_) (fun _ => ?_)
    · refine zk_aload_n dX3_lineOf_14 0 rfl 15 rfl ?_
      refine zk_get dX3_lineOf_15 0 rfl rfl kX3_lineOf_inX3 3 (by decide) kX3_lineOf_1 rfl 18 rfl ?_
      refine zk_iload_n dX3_lineOf_18 1 rfl 19 rfl ?_
      refine zk_iald dX3_lineOf_19 4 rfl 20 rfl ?_
      exact zk_iret hQ dX3_lineOf_20 rfl rfl
    · refine zk_iconst (-1) dX3_lineOf_10 (by decide) 11 rfl ?_
      refine zk_goto dX3_lineOf_11 20 (by decide) ?_
      exact zk_iret hQ dX3_lineOf_20 rfl rfl
def F_X3_at_24 (x2 : Int32) (v_behind : (Nat → Int32)) (k24 : Int32 × Int32 → Option (Int32)) : Int32 × Int32 → Option (Int32) := fun s => match s with
  | (x3, x4) => if x2 ≤ x4 then some x3 else (f_X3_follower x3 v_behind).bind fun r32 => k24 (r32, (x4 + 1))
def f_X3_at (x1 : Int32) (x2 : Int32) (v_first : (Nat → Int32)) (v_length : (Nat → Int32)) (v_behind : (Nat → Int32)) : Option (Int32) := if x2 < 0 then some (-1) else (f_X3_lengthOf x1 v_length).bind fun r7 => if x2 < r7 then (f_X3_frontOf x1 v_first).bind fun r17 => zk_fx (F_X3_at_24 x2 v_behind ) zk_N (r17, 0) else some (-1)
theorem cd_X3_at : yX3_at.cls = RX3 ∧ yX3_at.cls ≠ "java/lang/invoke/MethodHandle" ∧ yX3_at.cls ≠ "java/lang/invoke/VarHandle" ∧ (parseMethodDescriptor yX3_at.desc).map (fun d => d.parameters.length) = some 2 := by decide +kernel
set_option maxRecDepth 100000 in
set_option maxHeartbeats 4000000 in
theorem c_X3_at (E : zk_Env) (l : Launch) (a : aX3) (v : VX3) (x1 : Int32) (x2 : Int32) : zk_Mc E l yX3_at wsX3_at ({ frames := 1, cells := 0, slots := 0, locals := 21 } : Room) [.ref a.1, .int x1, .int x2] (gX3 E a v) (f_X3_at x1 x2 v.1 v.2.2.1 v.2.2.2.2) (fun r => some (.int r)) (fun r => (gX3 E a v)) := by
  obtain ⟨v_first, v_last, v_length, v_line, v_behind⟩ := v
  refine zk_M (cc := cX3_at) (nL := 5) (ret := (some .int)) (by decide) rfl (Nat.le_of_ble_eq_true rfl) (fun X Q hQ => ?_)
  have J24 : ∀ (n : Nat) (x3 : Int32) (x4 : Int32), zk_G E l X cX3_at 5 (some .int) yX3_at.cls wsX3_at ({ frames := 1, cells := 0, slots := 0, locals := 21 } : Room) 0 0 Q (gX3 E a (v_first, v_last, v_length, v_line, v_behind)) [(0, .ref a.1), (2, .int x2), (3, .int x3), (4, .int x4)] 24 [] (zk_fx (F_X3_at_24 x2 v_behind ) n (x3, x4)) := by
    intro n x3 x4
    refine zk_loop (S := Int32 × Int32) (F := F_X3_at_24 x2 v_behind) (wS := fun s => (gX3 E a (v_first, v_last, v_length, v_line, v_behind))) (lS := fun s => [(0, .ref a.1), (2, .int x2), (3, .int s.1), (4, .int s.2)]) (sS := fun _ => []) (fun k24 hk24 s => ?_) n (x3, x4)
    obtain ⟨x3, x4⟩ := s
    unfold F_X3_at_24
    dsimp only
    refine zk_iload dX3_at_24 3 rfl 26 rfl ?_
    refine zk_iload_n dX3_at_26 1 rfl 27 rfl ?_
    refine zk_icmp_ge dX3_at_27 42 (by decide) 30 rfl (fun _ => ?_) (fun _ => ?_)
    · refine zk_iload_n dX3_at_42 2 rfl 43 rfl ?_
      exact zk_iret hQ dX3_at_43 rfl rfl
    · refine zk_aload_n dX3_at_30 0 rfl 31 rfl ?_
      refine zk_iload_n dX3_at_31 2 rfl 32 rfl ?_
      refine zk_callV (ci := 3) (st := []) (c_X3_follower E l a (v_first, v_last, v_length, v_line, v_behind) x3) dX3_at_32 1 gX3_at_X3_follower rfl rfl rfl cd_X3_follower ⟨Nat.le_of_ble_eq_true rfl, Nat.le_of_ble_eq_true rfl⟩ ⟨Nat.zero_le _, Nat.zero_le _⟩ _ (fun r32 => (gX3 E a (v_first, v_last, v_length, v_line, v_behind))) zk_pa (fun r32 => zk_qa) rfl rfl rfl rfl (Nat.le_of_ble_eq_true rfl) (fun r32 => [.int r32]) (fun _ => rfl) 35 rfl (fun r32 => ?_)
      refine zk_istore_n [(3, .int r32), (0, .ref a.1), (2, .int x2), (4, .int x4)] dX3_at_35 (by decide) rfl 36 rfl ?_
      refine zk_iinc (x4 + 1) [(4, .int (x4 + 1)), (3, .int r32), (0, .ref a.1), (2, .int x2)] dX3_at_36 3 rfl rfl (by decide) rfl 39 rfl ?_
      refine zk_goto dX3_at_39 24 (by decide) ?_
      refine zk_lv [2, 3, 1, 0] rfl ?_
      exact hk24 (r32, (x4 + 1))
  refine zk_eqv (w1 := (gX3 E a (v_first, v_last, v_length, v_line, v_behind))) (lv1 := [(0, .ref a.1), (1, .int x1), (2, .int x2)]) (st1 := []) (o1 := f_X3_at x1 x2 v_first v_length v_behind) rfl rfl rfl rfl ?_
  unfold f_X3_at
  refine zk_iload_n dX3_at_0 2 rfl 1 rfl ?_
  refine zk_if_lt dX3_at_1 13 (by decide) 4 rfl (fun _ => ?_) (fun _ => ?_)
  · refine zk_iconst (-1) dX3_at_13 (by decide) 14 rfl ?_
    exact zk_iret hQ dX3_at_14 rfl rfl
  · refine zk_iload_n dX3_at_4 2 rfl 5 rfl ?_
    refine zk_aload_n dX3_at_5 0 rfl 6 rfl ?_
    refine zk_iload_n dX3_at_6 1 rfl 7 rfl ?_
    refine zk_callV (ci := 3) (st := [.int x2]) (c_X3_lengthOf E l a (v_first, v_last, v_length, v_line, v_behind) x1) dX3_at_7 1 gX3_at_X3_lengthOf rfl rfl rfl cd_X3_lengthOf ⟨Nat.le_of_ble_eq_true rfl, Nat.le_of_ble_eq_true rfl⟩ ⟨Nat.zero_le _, Nat.zero_le _⟩ _ (fun r7 => (gX3 E a (v_first, v_last, v_length, v_line, v_behind))) zk_pa (fun r7 => zk_qa) rfl rfl rfl rfl (Nat.le_of_ble_eq_true rfl) (fun r7 => [.int r7, .int x2]) (fun _ => rfl) 10 rfl (fun r7 => ?_)
    refine zk_icmp_lt dX3_at_10 15 (by decide) 13 rfl (fun _ => ?_) (fun _ => ?_)
    · refine zk_aload_n dX3_at_15 0 rfl 16 rfl ?_
      refine zk_iload_n dX3_at_16 1 rfl 17 rfl ?_
      refine zk_callV (ci := 3) (st := []) (c_X3_frontOf E l a (v_first, v_last, v_length, v_line, v_behind) x1) dX3_at_17 1 gX3_at_X3_frontOf rfl rfl rfl cd_X3_frontOf ⟨Nat.le_of_ble_eq_true rfl, Nat.le_of_ble_eq_true rfl⟩ ⟨Nat.zero_le _, Nat.zero_le _⟩ _ (fun r17 => (gX3 E a (v_first, v_last, v_length, v_line, v_behind))) zk_pa (fun r17 => zk_qa) rfl rfl rfl rfl (Nat.le_of_ble_eq_true rfl) (fun r17 => [.int r17]) (fun _ => rfl) 20 rfl (fun r17 => ?_)
      refine zk_istore_n [(3, .int r17), (0, .ref a.1), (1, .int x1), (2, .int x2)] dX3_at_20 (by decide) rfl 21 rfl ?_
      refine zk_iconst 0 dX3_at_21 (by decide) 22 rfl ?_
      refine zk_istore [(4, .int 0), (3, .int r17), (0, .ref a.1), (1, .int x1), (2, .int x2)] dX3_at_22 (by decide) rfl 24 rfl ?_
      refine zk_lv [2, 4, 1, 0] rfl ?_
      exact J24    zk_N r17 0
    · refine zk_iconst (-1) dX3_at_13 (by decide) 14 rfl ?_
      exact zk_iret hQ dX3_at_14 rfl rfl
def F_X3_placeOf_22 (x1 : Int32) (v_behind : (Nat → Int32)) (x3 : Int32) (k22 : Int32 × Int32 → Option (Int32)) : Int32 × Int32 → Option (Int32) := fun s => match s with
  | (x4, x5) => if x3 ≤ x5 then some (-9) else if x4 = x1 then some x5 else (f_X3_follower x4 v_behind).bind fun r40 => k22 (r40, (x5 + 1))
def f_X3_placeOf (x1 : Int32) (v_first : (Nat → Int32)) (v_length : (Nat → Int32)) (v_line : (Nat → Int32)) (v_behind : (Nat → Int32)) : Option (Int32) := (f_X3_lineOf x1 v_line).bind fun r2 => (f_X3_lengthOf r2 v_length).bind fun r8 => (f_X3_frontOf r2 v_first).bind fun r14 => zk_fx (F_X3_placeOf_22 x1 v_behind r8 ) zk_N (r14, 0)
theorem cd_X3_placeOf : yX3_placeOf.cls = RX3 ∧ yX3_placeOf.cls ≠ "java/lang/invoke/MethodHandle" ∧ yX3_placeOf.cls ≠ "java/lang/invoke/VarHandle" ∧ (parseMethodDescriptor yX3_placeOf.desc).map (fun d => d.parameters.length) = some 1 := by decide +kernel
set_option maxRecDepth 100000 in
set_option maxHeartbeats 4000000 in
theorem c_X3_placeOf (E : zk_Env) (l : Launch) (a : aX3) (v : VX3) (x1 : Int32) : zk_Mc E l yX3_placeOf wsX3_placeOf ({ frames := 1, cells := 0, slots := 0, locals := 21 } : Room) [.ref a.1, .int x1] (gX3 E a v) (f_X3_placeOf x1 v.1 v.2.2.1 v.2.2.2.1 v.2.2.2.2) (fun r => some (.int r)) (fun r => (gX3 E a v)) := by
  obtain ⟨v_first, v_last, v_length, v_line, v_behind⟩ := v
  refine zk_M (cc := cX3_placeOf) (nL := 6) (ret := (some .int)) (by decide) rfl (Nat.le_of_ble_eq_true rfl) (fun X Q hQ => ?_)
  have J22 : ∀ (x3 : Int32) (n : Nat) (x4 : Int32) (x5 : Int32), zk_G E l X cX3_placeOf 6 (some .int) yX3_placeOf.cls wsX3_placeOf ({ frames := 1, cells := 0, slots := 0, locals := 21 } : Room) 0 0 Q (gX3 E a (v_first, v_last, v_length, v_line, v_behind)) [(0, .ref a.1), (1, .int x1), (3, .int x3), (4, .int x4), (5, .int x5)] 22 [] (zk_fx (F_X3_placeOf_22 x1 v_behind x3 ) n (x4, x5)) := by
    intro x3 n x4 x5
    refine zk_loop (S := Int32 × Int32) (F := F_X3_placeOf_22 x1 v_behind x3) (wS := fun s => (gX3 E a (v_first, v_last, v_length, v_line, v_behind))) (lS := fun s => [(0, .ref a.1), (1, .int x1), (3, .int x3), (4, .int s.1), (5, .int s.2)]) (sS := fun _ => []) (fun k22 hk22 s => ?_) n (x4, x5)
    obtain ⟨x4, x5⟩ := s
    unfold F_X3_placeOf_22
    dsimp only
    refine zk_iload dX3_placeOf_22 4 rfl 24 rfl ?_
    refine zk_iload_n dX3_placeOf_24 2 rfl 25 rfl ?_
    refine zk_icmp_ge dX3_placeOf_25 51 (by decide) 28 rfl (fun _ => ?_) (fun _ => ?_)
    · refine zk_bipush (-9) dX3_placeOf_51 (by decide) 53 rfl ?_
      exact zk_iret hQ dX3_placeOf_53 rfl rfl
    · refine zk_iload dX3_placeOf_28 3 rfl 30 rfl ?_
      refine zk_iload_n dX3_placeOf_30 1 rfl 31 rfl ?_
      refine zk_icmp_ne dX3_placeOf_31 37 (by decide) 34 rfl (fun _ => ?_) (fun _ => ?_)
      · refine zk_iload dX3_placeOf_34 4 rfl 36 rfl ?_
        exact zk_iret hQ dX3_placeOf_36 rfl rfl
      · refine zk_aload_n dX3_placeOf_37 0 rfl 38 rfl ?_
        refine zk_iload dX3_placeOf_38 3 rfl 40 rfl ?_
        refine zk_callV (ci := 3) (st := []) (c_X3_follower E l a (v_first, v_last, v_length, v_line, v_behind) x4) dX3_placeOf_40 1 gX3_placeOf_X3_follower rfl rfl rfl cd_X3_follower ⟨Nat.le_of_ble_eq_true rfl, Nat.le_of_ble_eq_true rfl⟩ ⟨Nat.zero_le _, Nat.zero_le _⟩ _ (fun r40 => (gX3 E a (v_first, v_last, v_length, v_line, v_behind))) zk_pa (fun r40 => zk_qa) rfl rfl rfl rfl (Nat.le_of_ble_eq_true rfl) (fun r40 => [.int r40]) (fun _ => rfl) 43 rfl (fun r40 => ?_)
        refine zk_istore [(4, .int r40), (0, .ref a.1), (1, .int x1), (3, .int x3), (5, .int x5)] dX3_placeOf_43 (by decide) rfl 45 rfl ?_
        refine zk_iinc (x5 + 1) [(5, .int (x5 + 1)), (4, .int r40), (0, .ref a.1), (1, .int x1), (3, .int x3)] dX3_placeOf_45 4 rfl rfl (by decide) rfl 48 rfl ?_
        refine zk_goto dX3_placeOf_48 22 (by decide) ?_
        refine zk_lv [2, 3, 4, 1, 0] rfl ?_
        exact hk22 (r40, (x5 + 1))
  refine zk_eqv (w1 := (gX3 E a (v_first, v_last, v_length, v_line, v_behind))) (lv1 := [(0, .ref a.1), (1, .int x1)]) (st1 := []) (o1 := f_X3_placeOf x1 v_first v_length v_line v_behind) rfl rfl rfl rfl ?_
  unfold f_X3_placeOf
  refine zk_aload_n dX3_placeOf_0 0 rfl 1 rfl ?_
  refine zk_iload_n dX3_placeOf_1 1 rfl 2 rfl ?_
  refine zk_callV (ci := 3) (st := []) (c_X3_lineOf E l a (v_first, v_last, v_length, v_line, v_behind) x1) dX3_placeOf_2 1 gX3_placeOf_X3_lineOf rfl rfl rfl cd_X3_lineOf ⟨Nat.le_of_ble_eq_true rfl, Nat.le_of_ble_eq_true rfl⟩ ⟨Nat.zero_le _, Nat.zero_le _⟩ _ (fun r2 => (gX3 E a (v_first, v_last, v_length, v_line, v_behind))) zk_pa (fun r2 => zk_qa) rfl rfl rfl rfl (Nat.le_of_ble_eq_true rfl) (fun r2 => [.int r2]) (fun _ => rfl) 5 rfl (fun r2 => ?_)
  refine zk_istore_n [(2, .int r2), (0, .ref a.1), (1, .int x1)] dX3_placeOf_5 (by decide) rfl 6 rfl ?_
  refine zk_aload_n dX3_placeOf_6 1 rfl 7 rfl ?_
  refine zk_iload_n dX3_placeOf_7 0 rfl 8 rfl ?_
  refine zk_callV (ci := 3) (st := []) (c_X3_lengthOf E l a (v_first, v_last, v_length, v_line, v_behind) r2) dX3_placeOf_8 1 gX3_placeOf_X3_lengthOf rfl rfl rfl cd_X3_lengthOf ⟨Nat.le_of_ble_eq_true rfl, Nat.le_of_ble_eq_true rfl⟩ ⟨Nat.zero_le _, Nat.zero_le _⟩ _ (fun r8 => (gX3 E a (v_first, v_last, v_length, v_line, v_behind))) zk_pa (fun r8 => zk_qa) rfl rfl rfl rfl (Nat.le_of_ble_eq_true rfl) (fun r8 => [.int r8]) (fun _ => rfl) 11 rfl (fun r8 => ?_)
  refine zk_istore_n [(3, .int r8), (2, .int r2), (0, .ref a.1), (1, .int x1)] dX3_placeOf_11 (by decide) rfl 12 rfl ?_
  refine zk_aload_n dX3_placeOf_12 2 rfl 13 rfl ?_
  refine zk_iload_n dX3_placeOf_13 1 rfl 14 rfl ?_
  refine zk_callV (ci := 3) (st := []) (c_X3_frontOf E l a (v_first, v_last, v_length, v_line, v_behind) r2) dX3_placeOf_14 1 gX3_placeOf_X3_frontOf rfl rfl rfl cd_X3_frontOf ⟨Nat.le_of_ble_eq_true rfl, Nat.le_of_ble_eq_true rfl⟩ ⟨Nat.zero_le _, Nat.zero_le _⟩ _ (fun r14 => (gX3 E a (v_first, v_last, v_length, v_line, v_behind))) zk_pa (fun r14 => zk_qa) rfl rfl rfl rfl (Nat.le_of_ble_eq_true rfl) (fun r14 => [.int r14]) (fun _ => rfl) 17 rfl (fun r14 => ?_)
  refine zk_istore [(4, .int r14), (3, .int r8), (2, .int r2), (0, .ref a.1), (1, .int x1)] dX3_placeOf_17 (by decide) rfl 19 rfl ?_
  refine zk_iconst 0 dX3_placeOf_19 (by decide) 20 rfl ?_
  refine zk_istore [(5, .int 0), (4, .int r14), (3, .int r8), (2, .int r2), (0, .ref a.1), (1, .int x1)] dX3_placeOf_20 (by decide) rfl 22 rfl ?_
  refine zk_lv [4, 5, 2, 1, 0] rfl ?_
  exact J22   r8 zk_N r14 0
def f_X3_join_55 (x1 : Int32) (x2 : Int32) (v_first : (Nat → Int32)) (v_last : (Nat → Int32)) (v_length : (Nat → Int32)) (v_line : (Nat → Int32)) (v_behind : (Nat → Int32)) : Option ((Nat → Int32) × (Nat → Int32) × (Nat → Int32) × (Nat → Int32) × (Nat → Int32)) := zk_ck x1 25 (zk_let (upd v_last x1.toNatClampNeg x2) fun v_last_3 => zk_ck x2 40 (zk_let (upd v_behind x2.toNatClampNeg (-1)) fun v_behind_4 => zk_ck x2 40 (zk_let (upd v_line x2.toNatClampNeg x1) fun v_line_5 => zk_ck x1 25 (zk_ck x1 25 (zk_let (upd v_length x1.toNatClampNeg ((v_length x1.toNatClampNeg) + 1)) fun v_length_6 => some (v_first, v_last_3, v_length_6, v_line_5, v_behind_4))))))
def f_X3_join_38 (x1 : Int32) (x2 : Int32) (v_first : (Nat → Int32)) (v_last : (Nat → Int32)) (v_length : (Nat → Int32)) (v_line : (Nat → Int32)) (v_behind : (Nat → Int32)) : Option ((Nat → Int32) × (Nat → Int32) × (Nat → Int32) × (Nat → Int32) × (Nat → Int32)) := zk_ck x1 25 (zk_let (upd v_first x1.toNatClampNeg x2) fun v_first_7 => f_X3_join_55 x1 x2 v_first_7 v_last v_length v_line v_behind)
def f_X3_join (x1 : Int32) (x2 : Int32) (v_first : (Nat → Int32)) (v_last : (Nat → Int32)) (v_length : (Nat → Int32)) (v_line : (Nat → Int32)) (v_behind : (Nat → Int32)) : Option ((Nat → Int32) × (Nat → Int32) × (Nat → Int32) × (Nat → Int32) × (Nat → Int32)) := if x1 < 0 then some (v_first, v_last, v_length, v_line, v_behind) else if 25 ≤ x1 then some (v_first, v_last, v_length, v_line, v_behind) else if x2 < 0 then some (v_first, v_last, v_length, v_line, v_behind) else if x2 < 40 then zk_ck x1 25 (zk_let (v_last x1.toNatClampNeg) fun x3_1 => if x3_1 < 0 then f_X3_join_38 x1 x2 v_first v_last v_length v_line v_behind else if x3_1 < 40 then zk_ck x3_1 40 (zk_let (upd v_behind x3_1.toNatClampNeg x2) fun v_behind_2 => f_X3_join_55 x1 x2 v_first v_last v_length v_line v_behind_2) else f_X3_join_38 x1 x2 v_first v_last v_length v_line v_behind) else some (v_first, v_last, v_length, v_line, v_behind)
theorem kX3_join_inX3 : ∀ w ∈ u_ws RX3 TX3 5, w ∈ wsX3_join := by decide +kernel
theorem kX3_join_1 : Cond.fieldLink RX3 15 (TX3 1).1 (TX3 1).2.1 (TX3 1).2.2.1 ∈ wsX3_join := by decide +kernel
theorem kX3_join_2 : Cond.fieldLink RX3 24 (TX3 4).1 (TX3 4).2.1 (TX3 4).2.2.1 ∈ wsX3_join := by decide +kernel
theorem kX3_join_3 : Cond.fieldLink RX3 21 (TX3 3).1 (TX3 3).2.1 (TX3 3).2.2.1 ∈ wsX3_join := by decide +kernel
theorem kX3_join_4 : Cond.fieldLink RX3 18 (TX3 2).1 (TX3 2).2.1 (TX3 2).2.2.1 ∈ wsX3_join := by decide +kernel
theorem kX3_join_5 : Cond.fieldLink RX3 9 (TX3 0).1 (TX3 0).2.1 (TX3 0).2.2.1 ∈ wsX3_join := by decide +kernel
theorem cd_X3_join : yX3_join.cls = RX3 ∧ yX3_join.cls ≠ "java/lang/invoke/MethodHandle" ∧ yX3_join.cls ≠ "java/lang/invoke/VarHandle" ∧ (parseMethodDescriptor yX3_join.desc).map (fun d => d.parameters.length) = some 2 := by decide +kernel
set_option maxRecDepth 100000 in
set_option maxHeartbeats 4000000 in
theorem c_X3_join (E : zk_Env) (l : Launch) (a : aX3) (v : VX3) (x1 : Int32) (x2 : Int32) : zk_Mc E l yX3_join wsX3_join ({ frames := 0, cells := 0, slots := 0, locals := 0 } : Room) [.ref a.1, .int x1, .int x2] (gX3 E a v) (f_X3_join x1 x2 v.1 v.2.1 v.2.2.1 v.2.2.2.1 v.2.2.2.2) (fun _ => none) (fun r => (gX3 E a r)) := by
  obtain ⟨v_first, v_last, v_length, v_line, v_behind⟩ := v
  refine zk_M (cc := cX3_join) (nL := 4) (ret := none) (by decide) rfl (Nat.le_of_ble_eq_true rfl) (fun X Q hQ => ?_)
  have J55 : ∀ (v_first : (Nat → Int32)) (v_last : (Nat → Int32)) (v_length : (Nat → Int32)) (v_line : (Nat → Int32)) (v_behind : (Nat → Int32)), zk_G E l X cX3_join 4 none yX3_join.cls wsX3_join ({ frames := 0, cells := 0, slots := 0, locals := 0 } : Room) 0 0 Q (gX3 E a (v_first, v_last, v_length, v_line, v_behind)) [(0, .ref a.1), (1, .int x1), (2, .int x2)] 55 [] (f_X3_join_55 x1 x2 v_first v_last v_length v_line v_behind) := by
    intro v_first v_last v_length v_line v_behind
    unfold f_X3_join_55
    refine zk_aload_n dX3_join_55 0 rfl 56 rfl ?_
    refine zk_get dX3_join_56 0 rfl rfl kX3_join_inX3 1 (by decide) kX3_join_1 rfl 59 rfl ?_
    refine zk_iload_n dX3_join_59 1 rfl 60 rfl ?_
    refine zk_iload_n dX3_join_60 2 rfl 61 rfl ?_
    refine zk_iast (gX3 E a (v_first, (upd v_last x1.toNatClampNeg x2), v_length, v_line, v_behind)) dX3_join_61 2 rfl rfl 62 rfl ?_
    refine zk_nmw (fun v_last_3 => (gX3 E a (v_first, v_last_3, v_length, v_line, v_behind))) _ rfl (fun v_last_3 => ?_)
    refine zk_aload_n dX3_join_62 0 rfl 63 rfl ?_
    refine zk_get dX3_join_63 0 rfl rfl kX3_join_inX3 4 (by decide) kX3_join_2 rfl 66 rfl ?_
    refine zk_iload_n dX3_join_66 2 rfl 67 rfl ?_
    refine zk_iconst (-1) dX3_join_67 (by decide) 68 rfl ?_
    refine zk_iast (gX3 E a (v_first, v_last_3, v_length, v_line, (upd v_behind x2.toNatClampNeg (-1)))) dX3_join_68 5 rfl rfl 69 rfl ?_
    refine zk_nmw (fun v_behind_4 => (gX3 E a (v_first, v_last_3, v_length, v_line, v_behind_4))) _ rfl (fun v_behind_4 => ?_)
    refine zk_aload_n dX3_join_69 0 rfl 70 rfl ?_
    refine zk_get dX3_join_70 0 rfl rfl kX3_join_inX3 3 (by decide) kX3_join_3 rfl 73 rfl ?_
    refine zk_iload_n dX3_join_73 2 rfl 74 rfl ?_
    refine zk_iload_n dX3_join_74 1 rfl 75 rfl ?_
    refine zk_iast (gX3 E a (v_first, v_last_3, v_length, (upd v_line x2.toNatClampNeg x1), v_behind_4)) dX3_join_75 4 rfl rfl 76 rfl ?_
    refine zk_nmw (fun v_line_5 => (gX3 E a (v_first, v_last_3, v_length, v_line_5, v_behind_4))) _ rfl (fun v_line_5 => ?_)
    refine zk_aload_n dX3_join_76 0 rfl 77 rfl ?_
    refine zk_get dX3_join_77 0 rfl rfl kX3_join_inX3 2 (by decide) kX3_join_4 rfl 80 rfl ?_
    refine zk_iload_n dX3_join_80 1 rfl 81 rfl ?_
    refine zk_dup2 dX3_join_81 rfl rfl 82 rfl ?_
    refine zk_iald dX3_join_82 3 rfl 83 rfl ?_
    refine zk_iconst 1 dX3_join_83 (by decide) 84 rfl ?_
    refine zk_iadd dX3_join_84 85 rfl ?_
    refine zk_iast (gX3 E a (v_first, v_last_3, (upd v_length x1.toNatClampNeg ((v_length x1.toNatClampNeg) + 1)), v_line_5, v_behind_4)) dX3_join_85 3 rfl rfl 86 rfl ?_
    refine zk_nmw (fun v_length_6 => (gX3 E a (v_first, v_last_3, v_length_6, v_line_5, v_behind_4))) _ rfl (fun v_length_6 => ?_)
    exact zk_vret hQ dX3_join_86 rfl rfl
  have J38 : ∀ (v_first : (Nat → Int32)) (v_last : (Nat → Int32)) (v_length : (Nat → Int32)) (v_line : (Nat → Int32)) (v_behind : (Nat → Int32)), zk_G E l X cX3_join 4 none yX3_join.cls wsX3_join ({ frames := 0, cells := 0, slots := 0, locals := 0 } : Room) 0 0 Q (gX3 E a (v_first, v_last, v_length, v_line, v_behind)) [(0, .ref a.1), (1, .int x1), (2, .int x2)] 38 [] (f_X3_join_38 x1 x2 v_first v_last v_length v_line v_behind) := by
    intro v_first v_last v_length v_line v_behind
    unfold f_X3_join_38
    refine zk_aload_n dX3_join_38 0 rfl 39 rfl ?_
    refine zk_get dX3_join_39 0 rfl rfl kX3_join_inX3 0 (by decide) kX3_join_5 rfl 42 rfl ?_
    refine zk_iload_n dX3_join_42 1 rfl 43 rfl ?_
    refine zk_iload_n dX3_join_43 2 rfl 44 rfl ?_
    refine zk_iast (gX3 E a ((upd v_first x1.toNatClampNeg x2), v_last, v_length, v_line, v_behind)) dX3_join_44 1 rfl rfl 45 rfl ?_
    refine zk_nmw (fun v_first_7 => (gX3 E a (v_first_7, v_last, v_length, v_line, v_behind))) _ rfl (fun v_first_7 => ?_)
    refine zk_goto dX3_join_45 55 (by decide) ?_
    exact J55   v_first_7 v_last v_length v_line v_behind
  refine zk_eqv (w1 := (gX3 E a (v_first, v_last, v_length, v_line, v_behind))) (lv1 := [(0, .ref a.1), (1, .int x1), (2, .int x2)]) (st1 := []) (o1 := f_X3_join x1 x2 v_first v_last v_length v_line v_behind) rfl rfl rfl rfl ?_
  unfold f_X3_join
  refine zk_iload_n dX3_join_0 1 rfl 1 rfl ?_
  refine zk_if_lt dX3_join_1 20 (by decide) 4 rfl (fun _ => ?_) (fun _ => ?_)
  · exact zk_vret hQ dX3_join_20 rfl rfl
  · refine zk_iload_n dX3_join_4 1 rfl 5 rfl ?_
    refine zk_bipush 25 dX3_join_5 (by decide) 7 rfl ?_
    refine zk_icmp_ge dX3_join_7 20 (by decide) 10 rfl (fun _ => ?_) (fun _ => ?_)
    · exact zk_vret hQ dX3_join_20 rfl rfl
    · refine zk_iload_n dX3_join_10 2 rfl 11 rfl ?_
      refine zk_if_lt dX3_join_11 20 (by decide) 14 rfl (fun _ => ?_) (fun _ => ?_)
      · exact zk_vret hQ dX3_join_20 rfl rfl
      · refine zk_iload_n dX3_join_14 2 rfl 15 rfl ?_
        refine zk_bipush 40 dX3_join_15 (by decide) 17 rfl ?_
        refine zk_icmp_lt dX3_join_17 21 (by decide) 20 rfl (fun _ => ?_) (fun _ => ?_)
        · refine zk_aload_n dX3_join_21 0 rfl 22 rfl ?_
          refine zk_get dX3_join_22 0 rfl rfl kX3_join_inX3 1 (by decide) kX3_join_1 rfl 25 rfl ?_
          refine zk_iload_n dX3_join_25 1 rfl 26 rfl ?_
          refine zk_iald dX3_join_26 2 rfl 27 rfl ?_
          refine zk_nm (fun x3_1 => ?_)
          refine zk_istore_n [(3, .int x3_1), (0, .ref a.1), (1, .int x1), (2, .int x2)] dX3_join_27 (by decide) rfl 28 rfl ?_
          refine zk_iload_n dX3_join_28 0 rfl 29 rfl ?_
          refine zk_if_lt dX3_join_29 38 (by decide) 32 rfl (fun _ => ?_) (fun _ => ?_)
          · refine zk_lv [1, 2, 3] rfl ?_
            exact J38   v_first v_last v_length v_line v_behind
          · refine zk_iload_n dX3_join_32 0 rfl 33 rfl ?_
            refine zk_bipush 40 dX3_join_33 (by decide) 35 rfl ?_
            refine zk_icmp_lt dX3_join_35 48 (by decide) 38 rfl (fun _ => ?_) (fun _ => ?_)
            · refine zk_aload_n dX3_join_48 1 rfl 49 rfl ?_
              refine zk_get dX3_join_49 0 rfl rfl kX3_join_inX3 4 (by decide) kX3_join_2 rfl 52 rfl ?_
              refine zk_iload_n dX3_join_52 0 rfl 53 rfl ?_
              refine zk_iload_n dX3_join_53 3 rfl 54 rfl ?_
              refine zk_iast (gX3 E a (v_first, v_last, v_length, v_line, (upd v_behind x3_1.toNatClampNeg x2))) dX3_join_54 5 rfl rfl 55 rfl ?_
              refine zk_nmw (fun v_behind_2 => (gX3 E a (v_first, v_last, v_length, v_line, v_behind_2))) _ rfl (fun v_behind_2 => ?_)
              refine zk_lv [1, 2, 3] rfl ?_
              exact J55   v_first v_last v_length v_line v_behind_2
            · refine zk_lv [1, 2, 3] rfl ?_
              exact J38   v_first v_last v_length v_line v_behind
        · exact zk_vret hQ dX3_join_20 rfl rfl
def f_X3_leave_124 (x1 : Int32) (x2 : Int32) (v_first : (Nat → Int32)) (v_last : (Nat → Int32)) (v_length : (Nat → Int32)) (v_line : (Nat → Int32)) (v_behind : (Nat → Int32)) : Option ((Nat → Int32) × (Nat → Int32) × (Nat → Int32) × (Nat → Int32) × (Nat → Int32)) := zk_ck x1 40 (zk_let (upd v_behind x1.toNatClampNeg (-1)) fun v_behind_4 => zk_ck x1 40 (zk_let (upd v_line x1.toNatClampNeg (-1)) fun v_line_5 => zk_ck x2 25 (zk_ck x2 25 (zk_let (upd v_length x2.toNatClampNeg ((v_length x2.toNatClampNeg) - 1)) fun v_length_6 => some (v_first, v_last, v_length_6, v_line_5, v_behind_4)))))
def f_X3_leave_107 (x1 : Int32) (x2 : Int32) (x3 : Int32) (v_first : (Nat → Int32)) (v_last : (Nat → Int32)) (v_length : (Nat → Int32)) (v_line : (Nat → Int32)) (v_behind : (Nat → Int32)) : Option ((Nat → Int32) × (Nat → Int32) × (Nat → Int32) × (Nat → Int32) × (Nat → Int32)) := zk_ck x2 25 (if (v_last x2.toNatClampNeg) = x1 then zk_ck x2 25 (zk_let (upd v_last x2.toNatClampNeg x3) fun v_last_3 => f_X3_leave_124 x1 x2 v_first v_last_3 v_length v_line v_behind) else f_X3_leave_124 x1 x2 v_first v_last v_length v_line v_behind)
def f_X3_leave_80 (x1 : Int32) (x2 : Int32) (x3 : Int32) (v_first : (Nat → Int32)) (v_last : (Nat → Int32)) (v_length : (Nat → Int32)) (v_line : (Nat → Int32)) (v_behind : (Nat → Int32)) : Option ((Nat → Int32) × (Nat → Int32) × (Nat → Int32) × (Nat → Int32) × (Nat → Int32)) := zk_ck x1 40 (zk_ck x2 25 (zk_let (upd v_first x2.toNatClampNeg (v_behind x1.toNatClampNeg)) fun v_first_7 => f_X3_leave_107 x1 x2 x3 v_first_7 v_last v_length v_line v_behind))
def f_X3_leave_70 (x1 : Int32) (x2 : Int32) (x3 : Int32) (v_first : (Nat → Int32)) (v_last : (Nat → Int32)) (v_length : (Nat → Int32)) (v_line : (Nat → Int32)) (v_behind : (Nat → Int32)) : Option ((Nat → Int32) × (Nat → Int32) × (Nat → Int32) × (Nat → Int32) × (Nat → Int32)) := if x3 < 0 then f_X3_leave_80 x1 x2 x3 v_first v_last v_length v_line v_behind else if x3 < 40 then zk_ck x1 40 (zk_ck x3 40 (zk_let (upd v_behind x3.toNatClampNeg (v_behind x1.toNatClampNeg)) fun v_behind_2 => f_X3_leave_107 x1 x2 x3 v_first v_last v_length v_line v_behind_2)) else f_X3_leave_80 x1 x2 x3 v_first v_last v_length v_line v_behind
def F_X3_leave_40 (x1 : Int32) (x2 : Int32) (v_first : (Nat → Int32)) (v_last : (Nat → Int32)) (v_length : (Nat → Int32)) (v_line : (Nat → Int32)) (v_behind : (Nat → Int32)) (k40 : Int32 × Int32 × Int32 → Option ((Nat → Int32) × (Nat → Int32) × (Nat → Int32) × (Nat → Int32) × (Nat → Int32))) : Int32 × Int32 × Int32 → Option ((Nat → Int32) × (Nat → Int32) × (Nat → Int32) × (Nat → Int32) × (Nat → Int32)) := fun s => match s with
  | (x3, x4, x5) => if 40 ≤ x5 then f_X3_leave_70 x1 x2 x3 v_first v_last v_length v_line v_behind else if x4 = x1 then f_X3_leave_70 x1 x2 x3 v_first v_last v_length v_line v_behind else (f_X3_follower x4 v_behind).bind fun r59 => k40 (x4, r59, (x5 + 1))
def f_X3_leave (x1 : Int32) (v_first : (Nat → Int32)) (v_last : (Nat → Int32)) (v_length : (Nat → Int32)) (v_line : (Nat → Int32)) (v_behind : (Nat → Int32)) : Option ((Nat → Int32) × (Nat → Int32) × (Nat → Int32) × (Nat → Int32) × (Nat → Int32)) := (f_X3_lineOf x1 v_line).bind fun r2 => if r2 < 0 then some (v_first, v_last, v_length, v_line, v_behind) else if 25 ≤ r2 then some (v_first, v_last, v_length, v_line, v_behind) else if x1 < 0 then some (v_first, v_last, v_length, v_line, v_behind) else if x1 < 40 then zk_ck r2 25 (zk_let (v_first r2.toNatClampNeg) fun x4_1 => zk_fx (F_X3_leave_40 x1 r2 v_first v_last v_length v_line v_behind ) zk_N ((-1), x4_1, 0)) else some (v_first, v_last, v_length, v_line, v_behind)
theorem kX3_leave_inX3 : ∀ w ∈ u_ws RX3 TX3 5, w ∈ wsX3_leave := by decide +kernel
theorem kX3_leave_1 : Cond.fieldLink RX3 9 (TX3 0).1 (TX3 0).2.1 (TX3 0).2.2.1 ∈ wsX3_leave := by decide +kernel
theorem kX3_leave_2 : Cond.fieldLink RX3 24 (TX3 4).1 (TX3 4).2.1 (TX3 4).2.2.1 ∈ wsX3_leave := by decide +kernel
theorem kX3_leave_3 : Cond.fieldLink RX3 15 (TX3 1).1 (TX3 1).2.1 (TX3 1).2.2.1 ∈ wsX3_leave := by decide +kernel
theorem kX3_leave_4 : Cond.fieldLink RX3 21 (TX3 3).1 (TX3 3).2.1 (TX3 3).2.2.1 ∈ wsX3_leave := by decide +kernel
theorem kX3_leave_5 : Cond.fieldLink RX3 18 (TX3 2).1 (TX3 2).2.1 (TX3 2).2.2.1 ∈ wsX3_leave := by decide +kernel
theorem cd_X3_leave : yX3_leave.cls = RX3 ∧ yX3_leave.cls ≠ "java/lang/invoke/MethodHandle" ∧ yX3_leave.cls ≠ "java/lang/invoke/VarHandle" ∧ (parseMethodDescriptor yX3_leave.desc).map (fun d => d.parameters.length) = some 1 := by decide +kernel
set_option maxRecDepth 100000 in
set_option maxHeartbeats 4000000 in
theorem c_X3_leave (E : zk_Env) (l : Launch) (a : aX3) (v : VX3) (x1 : Int32) : zk_Mc E l yX3_leave wsX3_leave ({ frames := 1, cells := 0, slots := 0, locals := 21 } : Room) [.ref a.1, .int x1] (gX3 E a v) (f_X3_leave x1 v.1 v.2.1 v.2.2.1 v.2.2.2.1 v.2.2.2.2) (fun _ => none) (fun r => (gX3 E a r)) := by
  obtain ⟨v_first, v_last, v_length, v_line, v_behind⟩ := v
  refine zk_M (cc := cX3_leave) (nL := 6) (ret := none) (by decide) rfl (Nat.le_of_ble_eq_true rfl) (fun X Q hQ => ?_)
  have J124 : ∀ (x2 : Int32) (v_first : (Nat → Int32)) (v_last : (Nat → Int32)) (v_length : (Nat → Int32)) (v_line : (Nat → Int32)) (v_behind : (Nat → Int32)), zk_G E l X cX3_leave 6 none yX3_leave.cls wsX3_leave ({ frames := 1, cells := 0, slots := 0, locals := 21 } : Room) 0 0 Q (gX3 E a (v_first, v_last, v_length, v_line, v_behind)) [(0, .ref a.1), (1, .int x1), (2, .int x2)] 124 [] (f_X3_leave_124 x1 x2 v_first v_last v_length v_line v_behind) := by
    intro x2 v_first v_last v_length v_line v_behind
    unfold f_X3_leave_124
    refine zk_aload_n dX3_leave_124 0 rfl 125 rfl ?_
    refine zk_get dX3_leave_125 0 rfl rfl kX3_leave_inX3 4 (by decide) kX3_leave_2 rfl 128 rfl ?_
    refine zk_iload_n dX3_leave_128 1 rfl 129 rfl ?_
    refine zk_iconst (-1) dX3_leave_129 (by decide) 130 rfl ?_
    refine zk_iast (gX3 E a (v_first, v_last, v_length, v_line, (upd v_behind x1.toNatClampNeg (-1)))) dX3_leave_130 5 rfl rfl 131 rfl ?_
    refine zk_nmw (fun v_behind_4 => (gX3 E a (v_first, v_last, v_length, v_line, v_behind_4))) _ rfl (fun v_behind_4 => ?_)
    refine zk_aload_n dX3_leave_131 0 rfl 132 rfl ?_
    refine zk_get dX3_leave_132 0 rfl rfl kX3_leave_inX3 3 (by decide) kX3_leave_4 rfl 135 rfl ?_
    refine zk_iload_n dX3_leave_135 1 rfl 136 rfl ?_
    refine zk_iconst (-1) dX3_leave_136 (by decide) 137 rfl ?_
    refine zk_iast (gX3 E a (v_first, v_last, v_length, (upd v_line x1.toNatClampNeg (-1)), v_behind_4)) dX3_leave_137 4 rfl rfl 138 rfl ?_
    refine zk_nmw (fun v_line_5 => (gX3 E a (v_first, v_last, v_length, v_line_5, v_behind_4))) _ rfl (fun v_line_5 => ?_)
    refine zk_aload_n dX3_leave_138 0 rfl 139 rfl ?_
    refine zk_get dX3_leave_139 0 rfl rfl kX3_leave_inX3 2 (by decide) kX3_leave_5 rfl 142 rfl ?_
    refine zk_iload_n dX3_leave_142 2 rfl 143 rfl ?_
    refine zk_dup2 dX3_leave_143 rfl rfl 144 rfl ?_
    refine zk_iald dX3_leave_144 3 rfl 145 rfl ?_
    refine zk_iconst 1 dX3_leave_145 (by decide) 146 rfl ?_
    refine zk_isub dX3_leave_146 147 rfl ?_
    refine zk_iast (gX3 E a (v_first, v_last, (upd v_length x2.toNatClampNeg ((v_length x2.toNatClampNeg) - 1)), v_line_5, v_behind_4)) dX3_leave_147 3 rfl rfl 148 rfl ?_
    refine zk_nmw (fun v_length_6 => (gX3 E a (v_first, v_last, v_length_6, v_line_5, v_behind_4))) _ rfl (fun v_length_6 => ?_)
    exact zk_vret hQ dX3_leave_148 rfl rfl
  have J107 : ∀ (x2 : Int32) (x3 : Int32) (v_first : (Nat → Int32)) (v_last : (Nat → Int32)) (v_length : (Nat → Int32)) (v_line : (Nat → Int32)) (v_behind : (Nat → Int32)), zk_G E l X cX3_leave 6 none yX3_leave.cls wsX3_leave ({ frames := 1, cells := 0, slots := 0, locals := 21 } : Room) 0 0 Q (gX3 E a (v_first, v_last, v_length, v_line, v_behind)) [(0, .ref a.1), (1, .int x1), (2, .int x2), (3, .int x3)] 107 [] (f_X3_leave_107 x1 x2 x3 v_first v_last v_length v_line v_behind) := by
    intro x2 x3 v_first v_last v_length v_line v_behind
    unfold f_X3_leave_107
    refine zk_aload_n dX3_leave_107 0 rfl 108 rfl ?_
    refine zk_get dX3_leave_108 0 rfl rfl kX3_leave_inX3 1 (by decide) kX3_leave_3 rfl 111 rfl ?_
    refine zk_iload_n dX3_leave_111 2 rfl 112 rfl ?_
    refine zk_iald dX3_leave_112 2 rfl 113 rfl ?_
    refine zk_iload_n dX3_leave_113 1 rfl 114 rfl ?_
    refine zk_icmp_ne dX3_leave_114 124 (by decide) 117 rfl (fun _ => ?_) (fun _ => ?_)
    · refine zk_aload_n dX3_leave_117 0 rfl 118 rfl ?_
      refine zk_get dX3_leave_118 0 rfl rfl kX3_leave_inX3 1 (by decide) kX3_leave_3 rfl 121 rfl ?_
      refine zk_iload_n dX3_leave_121 2 rfl 122 rfl ?_
      refine zk_iload_n dX3_leave_122 3 rfl 123 rfl ?_
      refine zk_iast (gX3 E a (v_first, (upd v_last x2.toNatClampNeg x3), v_length, v_line, v_behind)) dX3_leave_123 2 rfl rfl 124 rfl ?_
      refine zk_nmw (fun v_last_3 => (gX3 E a (v_first, v_last_3, v_length, v_line, v_behind))) _ rfl (fun v_last_3 => ?_)
      refine zk_lv [0, 1, 2] rfl ?_
      exact J124   x2 v_first v_last_3 v_length v_line v_behind
    · refine zk_lv [0, 1, 2] rfl ?_
      exact J124   x2 v_first v_last v_length v_line v_behind
  have J80 : ∀ (x2 : Int32) (x3 : Int32) (v_first : (Nat → Int32)) (v_last : (Nat → Int32)) (v_length : (Nat → Int32)) (v_line : (Nat → Int32)) (v_behind : (Nat → Int32)), zk_G E l X cX3_leave 6 none yX3_leave.cls wsX3_leave ({ frames := 1, cells := 0, slots := 0, locals := 21 } : Room) 0 0 Q (gX3 E a (v_first, v_last, v_length, v_line, v_behind)) [(0, .ref a.1), (1, .int x1), (2, .int x2), (3, .int x3)] 80 [] (f_X3_leave_80 x1 x2 x3 v_first v_last v_length v_line v_behind) := by
    intro x2 x3 v_first v_last v_length v_line v_behind
    unfold f_X3_leave_80
    refine zk_aload_n dX3_leave_80 0 rfl 81 rfl ?_
    refine zk_get dX3_leave_81 0 rfl rfl kX3_leave_inX3 0 (by decide) kX3_leave_1 rfl 84 rfl ?_
    refine zk_iload_n dX3_leave_84 2 rfl 85 rfl ?_
    refine zk_aload_n dX3_leave_85 0 rfl 86 rfl ?_
    refine zk_get dX3_leave_86 0 rfl rfl kX3_leave_inX3 4 (by decide) kX3_leave_2 rfl 89 rfl ?_
    refine zk_iload_n dX3_leave_89 1 rfl 90 rfl ?_
    refine zk_iald dX3_leave_90 5 rfl 91 rfl ?_
    refine zk_iast (gX3 E a ((upd v_first x2.toNatClampNeg (v_behind x1.toNatClampNeg)), v_last, v_length, v_line, v_behind)) dX3_leave_91 1 rfl rfl 92 rfl ?_
    refine zk_nmw (fun v_first_7 => (gX3 E a (v_first_7, v_last, v_length, v_line, v_behind))) _ rfl (fun v_first_7 => ?_)
    refine zk_goto dX3_leave_92 107 (by decide) ?_
    exact J107   x2 x3 v_first_7 v_last v_length v_line v_behind
  have J70 : ∀ (x2 : Int32) (x3 : Int32) (v_first : (Nat → Int32)) (v_last : (Nat → Int32)) (v_length : (Nat → Int32)) (v_line : (Nat → Int32)) (v_behind : (Nat → Int32)), zk_G E l X cX3_leave 6 none yX3_leave.cls wsX3_leave ({ frames := 1, cells := 0, slots := 0, locals := 21 } : Room) 0 0 Q (gX3 E a (v_first, v_last, v_length, v_line, v_behind)) [(0, .ref a.1), (1, .int x1), (2, .int x2), (3, .int x3)] 70 [] (f_X3_leave_70 x1 x2 x3 v_first v_last v_length v_line v_behind) := by
    intro x2 x3 v_first v_last v_length v_line v_behind
    unfold f_X3_leave_70
    refine zk_iload_n dX3_leave_70 3 rfl 71 rfl ?_
    refine zk_if_lt dX3_leave_71 80 (by decide) 74 rfl (fun _ => ?_) (fun _ => ?_)
    · exact J80   x2 x3 v_first v_last v_length v_line v_behind
    · refine zk_iload_n dX3_leave_74 3 rfl 75 rfl ?_
      refine zk_bipush 40 dX3_leave_75 (by decide) 77 rfl ?_
      refine zk_icmp_lt dX3_leave_77 95 (by decide) 80 rfl (fun _ => ?_) (fun _ => ?_)
      · refine zk_aload_n dX3_leave_95 0 rfl 96 rfl ?_
        refine zk_get dX3_leave_96 0 rfl rfl kX3_leave_inX3 4 (by decide) kX3_leave_2 rfl 99 rfl ?_
        refine zk_iload_n dX3_leave_99 3 rfl 100 rfl ?_
        refine zk_aload_n dX3_leave_100 0 rfl 101 rfl ?_
        refine zk_get dX3_leave_101 0 rfl rfl kX3_leave_inX3 4 (by decide) kX3_leave_2 rfl 104 rfl ?_
        refine zk_iload_n dX3_leave_104 1 rfl 105 rfl ?_
        refine zk_iald dX3_leave_105 5 rfl 106 rfl ?_
        refine zk_iast (gX3 E a (v_first, v_last, v_length, v_line, (upd v_behind x3.toNatClampNeg (v_behind x1.toNatClampNeg)))) dX3_leave_106 5 rfl rfl 107 rfl ?_
        refine zk_nmw (fun v_behind_2 => (gX3 E a (v_first, v_last, v_length, v_line, v_behind_2))) _ rfl (fun v_behind_2 => ?_)
        exact J107   x2 x3 v_first v_last v_length v_line v_behind_2
      · exact J80   x2 x3 v_first v_last v_length v_line v_behind
  have J40 : ∀ (x2 : Int32) (v_first : (Nat → Int32)) (v_last : (Nat → Int32)) (v_length : (Nat → Int32)) (v_line : (Nat → Int32)) (v_behind : (Nat → Int32)) (n : Nat) (x3 : Int32) (x4 : Int32) (x5 : Int32), zk_G E l X cX3_leave 6 none yX3_leave.cls wsX3_leave ({ frames := 1, cells := 0, slots := 0, locals := 21 } : Room) 0 0 Q (gX3 E a (v_first, v_last, v_length, v_line, v_behind)) [(0, .ref a.1), (1, .int x1), (2, .int x2), (3, .int x3), (4, .int x4), (5, .int x5)] 40 [] (zk_fx (F_X3_leave_40 x1 x2 v_first v_last v_length v_line v_behind ) n (x3, x4, x5)) := by
    intro x2 v_first v_last v_length v_line v_behind n x3 x4 x5
    refine zk_loop (S := Int32 × Int32 × Int32) (F := F_X3_leave_40 x1 x2 v_first v_last v_length v_line v_behind) (wS := fun s => (gX3 E a (v_first, v_last, v_length, v_line, v_behind))) (lS := fun s => [(0, .ref a.1), (1, .int x1), (2, .int x2), (3, .int s.1), (4, .int s.2.1), (5, .int s.2.2)]) (sS := fun _ => []) (fun k40 hk40 s => ?_) n (x3, x4, x5)
    obtain ⟨x3, x4, x5⟩ := s
    unfold F_X3_leave_40
    dsimp only
    refine zk_iload dX3_leave_40 5 rfl 42 rfl ?_
    refine zk_bipush 40 dX3_leave_42 (by decide) 44 rfl ?_
    refine zk_icmp_ge dX3_leave_44 70 (by decide) 47 rfl (fun _ => ?_) (fun _ => ?_)
    · refine zk_lv [0, 1, 2, 3] rfl ?_
      exact J70   x2 x3 v_first v_last v_length v_line v_behind
    · refine zk_iload dX3_leave_47 4 rfl 49 rfl ?_
      refine zk_iload_n dX3_leave_49 1 rfl 50 rfl ?_
      refine zk_icmp_eq dX3_leave_50 70 (by decide) 53 rfl (fun _ => ?_) (fun _ => ?_)
      · refine zk_lv [0, 1, 2, 3] rfl ?_
        exact J70   x2 x3 v_first v_last v_length v_line v_behind
      · refine zk_iload dX3_leave_53 4 rfl 55 rfl ?_
        refine zk_istore_n [(3, .int x4), (0, .ref a.1), (1, .int x1), (2, .int x2), (4, .int x4), (5, .int x5)] dX3_leave_55 (by decide) rfl 56 rfl ?_
        refine zk_aload_n dX3_leave_56 1 rfl 57 rfl ?_
        refine zk_iload dX3_leave_57 4 rfl 59 rfl ?_
        refine zk_callV (ci := 3) (st := []) (c_X3_follower E l a (v_first, v_last, v_length, v_line, v_behind) x4) dX3_leave_59 1 gX3_leave_X3_follower rfl rfl rfl cd_X3_follower ⟨Nat.le_of_ble_eq_true rfl, Nat.le_of_ble_eq_true rfl⟩ ⟨Nat.zero_le _, Nat.zero_le _⟩ _ (fun r59 => (gX3 E a (v_first, v_last, v_length, v_line, v_behind))) zk_pa (fun r59 => zk_qa) rfl rfl rfl rfl (Nat.le_of_ble_eq_true rfl) (fun r59 => [.int r59]) (fun _ => rfl) 62 rfl (fun r59 => ?_)
        refine zk_istore [(4, .int r59), (3, .int x4), (0, .ref a.1), (1, .int x1), (2, .int x2), (5, .int x5)] dX3_leave_62 (by decide) rfl 64 rfl ?_
        refine zk_iinc (x5 + 1) [(5, .int (x5 + 1)), (4, .int r59), (3, .int x4), (0, .ref a.1), (1, .int x1), (2, .int x2)] dX3_leave_64 5 rfl rfl (by decide) rfl 67 rfl ?_
        refine zk_goto dX3_leave_67 40 (by decide) ?_
        refine zk_lv [3, 4, 5, 2, 1, 0] rfl ?_
        exact hk40 (x4, r59, (x5 + 1))
  refine zk_eqv (w1 := (gX3 E a (v_first, v_last, v_length, v_line, v_behind))) (lv1 := [(0, .ref a.1), (1, .int x1)]) (st1 := []) (o1 := f_X3_leave x1 v_first v_last v_length v_line v_behind) rfl rfl rfl rfl ?_
  unfold f_X3_leave
  refine zk_aload_n dX3_leave_0 0 rfl 1 rfl ?_
  refine zk_iload_n dX3_leave_1 1 rfl 2 rfl ?_
  refine zk_callV (ci := 3) (st := []) (c_X3_lineOf E l a (v_first, v_last, v_length, v_line, v_behind) x1) dX3_leave_2 1 gX3_leave_X3_lineOf rfl rfl rfl cd_X3_lineOf ⟨Nat.le_of_ble_eq_true rfl, Nat.le_of_ble_eq_true rfl⟩ ⟨Nat.zero_le _, Nat.zero_le _⟩ _ (fun r2 => (gX3 E a (v_first, v_last, v_length, v_line, v_behind))) zk_pa (fun r2 => zk_qa) rfl rfl rfl rfl (Nat.le_of_ble_eq_true rfl) (fun r2 => [.int r2]) (fun _ => rfl) 5 rfl (fun r2 => ?_)
  refine zk_istore_n [(2, .int r2), (0, .ref a.1), (1, .int x1)] dX3_leave_5 (by decide) rfl 6 rfl ?_
  refine zk_iload_n dX3_leave_6 0 rfl 7 rfl ?_
  refine zk_if_lt dX3_leave_7 26 (by decide) 10 rfl (fun _ => ?_) (fun _ => ?_)
  · exact zk_vret hQ dX3_leave_26 rfl rfl
  · refine zk_iload_n dX3_leave_10 0 rfl 11 rfl ?_
    refine zk_bipush 25 dX3_leave_11 (by decide) 13 rfl ?_
    refine zk_icmp_ge dX3_leave_13 26 (by decide) 16 rfl (fun _ => ?_) (fun _ => ?_)
    · exact zk_vret hQ dX3_leave_26 rfl rfl
    · refine zk_iload_n dX3_leave_16 2 rfl 17 rfl ?_
      refine zk_if_lt dX3_leave_17 26 (by decide) 20 rfl (fun _ => ?_) (fun _ => ?_)
      · exact zk_vret hQ dX3_leave_26 rfl rfl
      · refine zk_iload_n dX3_leave_20 2 rfl 21 rfl ?_
        refine zk_bipush 40 dX3_leave_21 (by decide) 23 rfl ?_
        refine zk_icmp_lt dX3_leave_23 27 (by decide) 26 rfl (fun _ => ?_) (fun _ => ?_)
        · refine zk_iconst (-1) dX3_leave_27 (by decide) 28 rfl ?_
          refine zk_istore_n [(3, .int (-1)), (2, .int r2), (0, .ref a.1), (1, .int x1)] dX3_leave_28 (by decide) rfl 29 rfl ?_
          refine zk_aload_n dX3_leave_29 2 rfl 30 rfl ?_
          refine zk_get dX3_leave_30 0 rfl rfl kX3_leave_inX3 0 (by decide) kX3_leave_1 rfl 33 rfl ?_
          refine zk_iload_n dX3_leave_33 1 rfl 34 rfl ?_
          refine zk_iald dX3_leave_34 1 rfl 35 rfl ?_
          refine zk_nm (fun x4_1 => ?_)
          refine zk_istore [(4, .int x4_1), (3, .int (-1)), (2, .int r2), (0, .ref a.1), (1, .int x1)] dX3_leave_35 (by decide) rfl 37 rfl ?_
          refine zk_iconst 0 dX3_leave_37 (by decide) 38 rfl ?_
          refine zk_istore [(5, .int 0), (4, .int x4_1), (3, .int (-1)), (2, .int r2), (0, .ref a.1), (1, .int x1)] dX3_leave_38 (by decide) rfl 40 rfl ?_
          refine zk_lv [4, 5, 3, 2, 1, 0] rfl ?_
          exact J40   r2 v_first v_last v_length v_line v_behind zk_N (-1) x4_1 0
        · exact zk_vret hQ dX3_leave_26 rfl rfl
end
