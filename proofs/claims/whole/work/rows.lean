section
-- ===== PART A: goes FIRST, ahead of the names: the tables' words, and 'selects' of the private methods out of them =====
/-- a private method of a class that the tables say can be made, by its rows of tables_1 -/
def lw_okq (q : MethodName × Nat) : Prop := (q.1.cls ≠ "java/lang/invoke/MethodHandle" ∧ q.1.cls ≠ "java/lang/invoke/VarHandle") ∧ Cond.instantiable q.1.cls q.2 ∈ tables_1 ∧ Cond.privateMethod q.1 ∈ tables_1 ∧ Cond.instanceMethod q.1 ∈ tables_1
theorem lw_p0 : lw_okq (⟨"BarStrips", "settle", "(I)I"⟩, 10) := ⟨⟨by decide +kernel, by decide +kernel⟩, List.mem_of_getElem? (i := 14) (by decide +kernel), List.mem_of_getElem? (i := 302) (by decide +kernel), List.mem_of_getElem? (i := 303) (by decide +kernel)⟩
theorem lw_p1 : lw_okq (⟨"BarStrips", "addPart", "(I)I"⟩, 10) := ⟨⟨by decide +kernel, by decide +kernel⟩, List.mem_of_getElem? (i := 14) (by decide +kernel), List.mem_of_getElem? (i := 371) (by decide +kernel), List.mem_of_getElem? (i := 372) (by decide +kernel)⟩
theorem lw_p2 : lw_okq (⟨"BarStrips", "latestOf", "(I)I"⟩, 10) := ⟨⟨by decide +kernel, by decide +kernel⟩, List.mem_of_getElem? (i := 14) (by decide +kernel), List.mem_of_getElem? (i := 581) (by decide +kernel), List.mem_of_getElem? (i := 582) (by decide +kernel)⟩
theorem lw_p3 : lw_okq (⟨"BarStrips", "stripOf", "(I)I"⟩, 10) := ⟨⟨by decide +kernel, by decide +kernel⟩, List.mem_of_getElem? (i := 14) (by decide +kernel), List.mem_of_getElem? (i := 602) (by decide +kernel), List.mem_of_getElem? (i := 603) (by decide +kernel)⟩
theorem lw_p4 : lw_okq (⟨"BarStrips", "undrawnArrows", "()I"⟩, 10) := ⟨⟨by decide +kernel, by decide +kernel⟩, List.mem_of_getElem? (i := 14) (by decide +kernel), List.mem_of_getElem? (i := 678) (by decide +kernel), List.mem_of_getElem? (i := 679) (by decide +kernel)⟩
theorem lw_p5 : lw_okq (⟨"BarStrips", "crossingPoints", "()I"⟩, 10) := ⟨⟨by decide +kernel, by decide +kernel⟩, List.mem_of_getElem? (i := 14) (by decide +kernel), List.mem_of_getElem? (i := 687) (by decide +kernel), List.mem_of_getElem? (i := 688) (by decide +kernel)⟩
theorem lw_p6 : lw_okq (⟨"BarStrips", "stripsInAll", "()I"⟩, 10) := ⟨⟨by decide +kernel, by decide +kernel⟩, List.mem_of_getElem? (i := 14) (by decide +kernel), List.mem_of_getElem? (i := 696) (by decide +kernel), List.mem_of_getElem? (i := 697) (by decide +kernel)⟩
theorem lw_p7 : lw_okq (⟨"BarStrips", "criticalBars", "()I"⟩, 10) := ⟨⟨by decide +kernel, by decide +kernel⟩, List.mem_of_getElem? (i := 14) (by decide +kernel), List.mem_of_getElem? (i := 700) (by decide +kernel), List.mem_of_getElem? (i := 701) (by decide +kernel)⟩
theorem lw_p8 : lw_okq (⟨"BarStripsModel", "putAside", "()V"⟩, 15) := ⟨⟨by decide +kernel, by decide +kernel⟩, List.mem_of_getElem? (i := 752) (by decide +kernel), List.mem_of_getElem? (i := 809) (by decide +kernel), List.mem_of_getElem? (i := 810) (by decide +kernel)⟩
theorem lw_p9 : lw_okq (⟨"BarStripsModel", "addsBar", "(III)I"⟩, 15) := ⟨⟨by decide +kernel, by decide +kernel⟩, List.mem_of_getElem? (i := 752) (by decide +kernel), List.mem_of_getElem? (i := 813) (by decide +kernel), List.mem_of_getElem? (i := 814) (by decide +kernel)⟩
theorem lw_p10 : lw_okq (⟨"BarStripsModel", "within", "(IIII)I"⟩, 15) := ⟨⟨by decide +kernel, by decide +kernel⟩, List.mem_of_getElem? (i := 752) (by decide +kernel), List.mem_of_getElem? (i := 823) (by decide +kernel), List.mem_of_getElem? (i := 824) (by decide +kernel)⟩
theorem lw_p11 : lw_okq (⟨"BarStripsModel", "of", "(II)I"⟩, 15) := ⟨⟨by decide +kernel, by decide +kernel⟩, List.mem_of_getElem? (i := 752) (by decide +kernel), List.mem_of_getElem? (i := 827) (by decide +kernel), List.mem_of_getElem? (i := 828) (by decide +kernel)⟩
theorem lw_p12 : lw_okq (⟨"BarStripsModel", "end", "(I)I"⟩, 15) := ⟨⟨by decide +kernel, by decide +kernel⟩, List.mem_of_getElem? (i := 752) (by decide +kernel), List.mem_of_getElem? (i := 831) (by decide +kernel), List.mem_of_getElem? (i := 832) (by decide +kernel)⟩
theorem lw_p13 : lw_okq (⟨"BarStripsModel", "act", "(I)I"⟩, 15) := ⟨⟨by decide +kernel, by decide +kernel⟩, List.mem_of_getElem? (i := 752) (by decide +kernel), List.mem_of_getElem? (i := 835) (by decide +kernel), List.mem_of_getElem? (i := 836) (by decide +kernel)⟩
theorem lw_p14 : lw_okq (⟨"BarStripsModel", "putBack", "()V"⟩, 15) := ⟨⟨by decide +kernel, by decide +kernel⟩, List.mem_of_getElem? (i := 752) (by decide +kernel), List.mem_of_getElem? (i := 839) (by decide +kernel), List.mem_of_getElem? (i := 840) (by decide +kernel)⟩
theorem lw_p15 : lw_okq (⟨"BarStripsModel", "addsArrow", "(II)I"⟩, 15) := ⟨⟨by decide +kernel, by decide +kernel⟩, List.mem_of_getElem? (i := 752) (by decide +kernel), List.mem_of_getElem? (i := 847) (by decide +kernel), List.mem_of_getElem? (i := 848) (by decide +kernel)⟩
def lw_privs_1 : List (MethodName × Nat) := [(⟨"BarStrips", "settle", "(I)I"⟩, 10), (⟨"BarStrips", "addPart", "(I)I"⟩, 10), (⟨"BarStrips", "latestOf", "(I)I"⟩, 10), (⟨"BarStrips", "stripOf", "(I)I"⟩, 10), (⟨"BarStrips", "undrawnArrows", "()I"⟩, 10), (⟨"BarStrips", "crossingPoints", "()I"⟩, 10), (⟨"BarStrips", "stripsInAll", "()I"⟩, 10), (⟨"BarStrips", "criticalBars", "()I"⟩, 10), (⟨"BarStripsModel", "putAside", "()V"⟩, 15), (⟨"BarStripsModel", "addsBar", "(III)I"⟩, 15), (⟨"BarStripsModel", "within", "(IIII)I"⟩, 15), (⟨"BarStripsModel", "of", "(II)I"⟩, 15), (⟨"BarStripsModel", "end", "(I)I"⟩, 15), (⟨"BarStripsModel", "act", "(I)I"⟩, 15), (⟨"BarStripsModel", "putBack", "()V"⟩, 15), (⟨"BarStripsModel", "addsArrow", "(II)I"⟩, 15)]
theorem lw_r1 : ∀ q ∈ lw_privs_1, lw_okq q := List.forall_mem_cons.mpr ⟨lw_p0, List.forall_mem_cons.mpr ⟨lw_p1, List.forall_mem_cons.mpr ⟨lw_p2, List.forall_mem_cons.mpr ⟨lw_p3, List.forall_mem_cons.mpr ⟨lw_p4, List.forall_mem_cons.mpr ⟨lw_p5, List.forall_mem_cons.mpr ⟨lw_p6, List.forall_mem_cons.mpr ⟨lw_p7, List.forall_mem_cons.mpr ⟨lw_p8, List.forall_mem_cons.mpr ⟨lw_p9, List.forall_mem_cons.mpr ⟨lw_p10, List.forall_mem_cons.mpr ⟨lw_p11, List.forall_mem_cons.mpr ⟨lw_p12, List.forall_mem_cons.mpr ⟨lw_p13, List.forall_mem_cons.mpr ⟨lw_p14, List.forall_mem_cons.mpr ⟨lw_p15, fun _ h => absurd h List.not_mem_nil⟩⟩⟩⟩⟩⟩⟩⟩⟩⟩⟩⟩⟩⟩⟩⟩
theorem lw_p16 : lw_okq (⟨"BarStripsModel", "find", "(I)I"⟩, 15) := ⟨⟨by decide +kernel, by decide +kernel⟩, List.mem_of_getElem? (i := 752) (by decide +kernel), List.mem_of_getElem? (i := 851) (by decide +kernel), List.mem_of_getElem? (i := 852) (by decide +kernel)⟩
theorem lw_p17 : lw_okq (⟨"BarStripsModel", "hasArrow", "(II)Z"⟩, 15) := ⟨⟨by decide +kernel, by decide +kernel⟩, List.mem_of_getElem? (i := 752) (by decide +kernel), List.mem_of_getElem? (i := 855) (by decide +kernel), List.mem_of_getElem? (i := 856) (by decide +kernel)⟩
theorem lw_p18 : lw_okq (⟨"BarStripsModel", "from", "(I)I"⟩, 15) := ⟨⟨by decide +kernel, by decide +kernel⟩, List.mem_of_getElem? (i := 752) (by decide +kernel), List.mem_of_getElem? (i := 859) (by decide +kernel), List.mem_of_getElem? (i := 860) (by decide +kernel)⟩
theorem lw_p19 : lw_okq (⟨"BarStripsModel", "to", "(I)I"⟩, 15) := ⟨⟨by decide +kernel, by decide +kernel⟩, List.mem_of_getElem? (i := 752) (by decide +kernel), List.mem_of_getElem? (i := 863) (by decide +kernel), List.mem_of_getElem? (i := 864) (by decide +kernel)⟩
theorem lw_p20 : lw_okq (⟨"BarStripsModel", "leads", "(II)Z"⟩, 15) := ⟨⟨by decide +kernel, by decide +kernel⟩, List.mem_of_getElem? (i := 752) (by decide +kernel), List.mem_of_getElem? (i := 867) (by decide +kernel), List.mem_of_getElem? (i := 868) (by decide +kernel)⟩
theorem lw_p21 : lw_okq (⟨"BarStripsModel", "takesBar", "(I)I"⟩, 15) := ⟨⟨by decide +kernel, by decide +kernel⟩, List.mem_of_getElem? (i := 752) (by decide +kernel), List.mem_of_getElem? (i := 875) (by decide +kernel), List.mem_of_getElem? (i := 876) (by decide +kernel)⟩
theorem lw_p22 : lw_okq (⟨"BarStripsModel", "dropArrow", "(I)V"⟩, 15) := ⟨⟨by decide +kernel, by decide +kernel⟩, List.mem_of_getElem? (i := 752) (by decide +kernel), List.mem_of_getElem? (i := 879) (by decide +kernel), List.mem_of_getElem? (i := 880) (by decide +kernel)⟩
theorem lw_p23 : lw_okq (⟨"BarStripsModel", "takesArrow", "(I)I"⟩, 15) := ⟨⟨by decide +kernel, by decide +kernel⟩, List.mem_of_getElem? (i := 752) (by decide +kernel), List.mem_of_getElem? (i := 887) (by decide +kernel), List.mem_of_getElem? (i := 888) (by decide +kernel)⟩
theorem lw_p24 : lw_okq (⟨"BarStripsModel", "findArrow", "(I)I"⟩, 15) := ⟨⟨by decide +kernel, by decide +kernel⟩, List.mem_of_getElem? (i := 752) (by decide +kernel), List.mem_of_getElem? (i := 891) (by decide +kernel), List.mem_of_getElem? (i := 892) (by decide +kernel)⟩
theorem lw_p25 : lw_okq (⟨"BarStripsModel", "moves", "(III)I"⟩, 15) := ⟨⟨by decide +kernel, by decide +kernel⟩, List.mem_of_getElem? (i := 752) (by decide +kernel), List.mem_of_getElem? (i := 899) (by decide +kernel), List.mem_of_getElem? (i := 900) (by decide +kernel)⟩
theorem lw_p26 : lw_okq (⟨"BarStripsModel", "notDrawn", "()I"⟩, 15) := ⟨⟨by decide +kernel, by decide +kernel⟩, List.mem_of_getElem? (i := 752) (by decide +kernel), List.mem_of_getElem? (i := 903) (by decide +kernel), List.mem_of_getElem? (i := 904) (by decide +kernel)⟩
theorem lw_p27 : lw_okq (⟨"BarStripsModel", "arrowsThat", "(Z)I"⟩, 15) := ⟨⟨by decide +kernel, by decide +kernel⟩, List.mem_of_getElem? (i := 752) (by decide +kernel), List.mem_of_getElem? (i := 907) (by decide +kernel), List.mem_of_getElem? (i := 908) (by decide +kernel)⟩
theorem lw_p28 : lw_okq (⟨"BarStripsModel", "lateBy", "(I)I"⟩, 15) := ⟨⟨by decide +kernel, by decide +kernel⟩, List.mem_of_getElem? (i := 752) (by decide +kernel), List.mem_of_getElem? (i := 911) (by decide +kernel), List.mem_of_getElem? (i := 912) (by decide +kernel)⟩
theorem lw_p29 : lw_okq (⟨"BarStripsModel", "bend", "(I)I"⟩, 15) := ⟨⟨by decide +kernel, by decide +kernel⟩, List.mem_of_getElem? (i := 752) (by decide +kernel), List.mem_of_getElem? (i := 918) (by decide +kernel), List.mem_of_getElem? (i := 919) (by decide +kernel)⟩
theorem lw_p30 : lw_okq (⟨"BarStripsModel", "reasonFor", "(II)I"⟩, 15) := ⟨⟨by decide +kernel, by decide +kernel⟩, List.mem_of_getElem? (i := 752) (by decide +kernel), List.mem_of_getElem? (i := 922) (by decide +kernel), List.mem_of_getElem? (i := 923) (by decide +kernel)⟩
theorem lw_p31 : lw_okq (⟨"BarStripsModel", "isBetween", "(III)Z"⟩, 15) := ⟨⟨by decide +kernel, by decide +kernel⟩, List.mem_of_getElem? (i := 752) (by decide +kernel), List.mem_of_getElem? (i := 926) (by decide +kernel), List.mem_of_getElem? (i := 927) (by decide +kernel)⟩
def lw_privs_2 : List (MethodName × Nat) := [(⟨"BarStripsModel", "find", "(I)I"⟩, 15), (⟨"BarStripsModel", "hasArrow", "(II)Z"⟩, 15), (⟨"BarStripsModel", "from", "(I)I"⟩, 15), (⟨"BarStripsModel", "to", "(I)I"⟩, 15), (⟨"BarStripsModel", "leads", "(II)Z"⟩, 15), (⟨"BarStripsModel", "takesBar", "(I)I"⟩, 15), (⟨"BarStripsModel", "dropArrow", "(I)V"⟩, 15), (⟨"BarStripsModel", "takesArrow", "(I)I"⟩, 15), (⟨"BarStripsModel", "findArrow", "(I)I"⟩, 15), (⟨"BarStripsModel", "moves", "(III)I"⟩, 15), (⟨"BarStripsModel", "notDrawn", "()I"⟩, 15), (⟨"BarStripsModel", "arrowsThat", "(Z)I"⟩, 15), (⟨"BarStripsModel", "lateBy", "(I)I"⟩, 15), (⟨"BarStripsModel", "bend", "(I)I"⟩, 15), (⟨"BarStripsModel", "reasonFor", "(II)I"⟩, 15), (⟨"BarStripsModel", "isBetween", "(III)Z"⟩, 15)]
theorem lw_r2 : ∀ q ∈ lw_privs_2, lw_okq q := List.forall_mem_cons.mpr ⟨lw_p16, List.forall_mem_cons.mpr ⟨lw_p17, List.forall_mem_cons.mpr ⟨lw_p18, List.forall_mem_cons.mpr ⟨lw_p19, List.forall_mem_cons.mpr ⟨lw_p20, List.forall_mem_cons.mpr ⟨lw_p21, List.forall_mem_cons.mpr ⟨lw_p22, List.forall_mem_cons.mpr ⟨lw_p23, List.forall_mem_cons.mpr ⟨lw_p24, List.forall_mem_cons.mpr ⟨lw_p25, List.forall_mem_cons.mpr ⟨lw_p26, List.forall_mem_cons.mpr ⟨lw_p27, List.forall_mem_cons.mpr ⟨lw_p28, List.forall_mem_cons.mpr ⟨lw_p29, List.forall_mem_cons.mpr ⟨lw_p30, List.forall_mem_cons.mpr ⟨lw_p31, fun _ h => absurd h List.not_mem_nil⟩⟩⟩⟩⟩⟩⟩⟩⟩⟩⟩⟩⟩⟩⟩⟩
theorem lw_p32 : lw_okq (⟨"BarStripsModel", "worth", "(II)I"⟩, 15) := ⟨⟨by decide +kernel, by decide +kernel⟩, List.mem_of_getElem? (i := 752) (by decide +kernel), List.mem_of_getElem? (i := 933) (by decide +kernel), List.mem_of_getElem? (i := 934) (by decide +kernel)⟩
theorem lw_p33 : lw_okq (⟨"BarStripsModel", "swaps", "(II)I"⟩, 15) := ⟨⟨by decide +kernel, by decide +kernel⟩, List.mem_of_getElem? (i := 752) (by decide +kernel), List.mem_of_getElem? (i := 941) (by decide +kernel), List.mem_of_getElem? (i := 942) (by decide +kernel)⟩
theorem lw_p34 : lw_okq (⟨"BarStripsModel", "hasBars", "(I)Z"⟩, 15) := ⟨⟨by decide +kernel, by decide +kernel⟩, List.mem_of_getElem? (i := 752) (by decide +kernel), List.mem_of_getElem? (i := 945) (by decide +kernel), List.mem_of_getElem? (i := 946) (by decide +kernel)⟩
theorem lw_p35 : lw_okq (⟨"BarStripsModel", "swapLanes", "(II)V"⟩, 15) := ⟨⟨by decide +kernel, by decide +kernel⟩, List.mem_of_getElem? (i := 752) (by decide +kernel), List.mem_of_getElem? (i := 949) (by decide +kernel), List.mem_of_getElem? (i := 950) (by decide +kernel)⟩
theorem lw_p36 : lw_okq (⟨"BarStripsModel", "packs", "()I"⟩, 15) := ⟨⟨by decide +kernel, by decide +kernel⟩, List.mem_of_getElem? (i := 752) (by decide +kernel), List.mem_of_getElem? (i := 957) (by decide +kernel), List.mem_of_getElem? (i := 958) (by decide +kernel)⟩
theorem lw_p37 : lw_okq (⟨"BarStripsModel", "nextByDay", "(I)I"⟩, 15) := ⟨⟨by decide +kernel, by decide +kernel⟩, List.mem_of_getElem? (i := 752) (by decide +kernel), List.mem_of_getElem? (i := 961) (by decide +kernel), List.mem_of_getElem? (i := 962) (by decide +kernel)⟩
theorem lw_p38 : lw_okq (⟨"BarStripsModel", "lanes", "()I"⟩, 15) := ⟨⟨by decide +kernel, by decide +kernel⟩, List.mem_of_getElem? (i := 752) (by decide +kernel), List.mem_of_getElem? (i := 965) (by decide +kernel), List.mem_of_getElem? (i := 966) (by decide +kernel)⟩
theorem lw_p39 : lw_okq (⟨"BarStripsModel", "slipsBy", "(II)I"⟩, 15) := ⟨⟨by decide +kernel, by decide +kernel⟩, List.mem_of_getElem? (i := 752) (by decide +kernel), List.mem_of_getElem? (i := 973) (by decide +kernel), List.mem_of_getElem? (i := 974) (by decide +kernel)⟩
theorem lw_p40 : lw_okq (⟨"BarStripsModel", "slips", "(II)I"⟩, 15) := ⟨⟨by decide +kernel, by decide +kernel⟩, List.mem_of_getElem? (i := 752) (by decide +kernel), List.mem_of_getElem? (i := 977) (by decide +kernel), List.mem_of_getElem? (i := 978) (by decide +kernel)⟩
theorem lw_p41 : lw_okq (⟨"BarStripsModel", "layPushes", "()V"⟩, 15) := ⟨⟨by decide +kernel, by decide +kernel⟩, List.mem_of_getElem? (i := 752) (by decide +kernel), List.mem_of_getElem? (i := 981) (by decide +kernel), List.mem_of_getElem? (i := 982) (by decide +kernel)⟩
theorem lw_p42 : lw_okq (⟨"BarStripsModel", "greatestEnd", "()I"⟩, 15) := ⟨⟨by decide +kernel, by decide +kernel⟩, List.mem_of_getElem? (i := 752) (by decide +kernel), List.mem_of_getElem? (i := 985) (by decide +kernel), List.mem_of_getElem? (i := 986) (by decide +kernel)⟩
theorem lw_p43 : lw_okq (⟨"BarStripsModel", "pulls", "(I)I"⟩, 15) := ⟨⟨by decide +kernel, by decide +kernel⟩, List.mem_of_getElem? (i := 752) (by decide +kernel), List.mem_of_getElem? (i := 993) (by decide +kernel), List.mem_of_getElem? (i := 994) (by decide +kernel)⟩
theorem lw_p44 : lw_okq (⟨"BarStripsModel", "widens", "(III)I"⟩, 15) := ⟨⟨by decide +kernel, by decide +kernel⟩, List.mem_of_getElem? (i := 752) (by decide +kernel), List.mem_of_getElem? (i := 1001) (by decide +kernel), List.mem_of_getElem? (i := 1002) (by decide +kernel)⟩
theorem lw_p45 : lw_okq (⟨"BarStripsModel", "sets", "(II)I"⟩, 15) := ⟨⟨by decide +kernel, by decide +kernel⟩, List.mem_of_getElem? (i := 752) (by decide +kernel), List.mem_of_getElem? (i := 1009) (by decide +kernel), List.mem_of_getElem? (i := 1010) (by decide +kernel)⟩
theorem lw_p46 : lw_okq (⟨"BarStripsModel", "go", "(Z)I"⟩, 15) := ⟨⟨by decide +kernel, by decide +kernel⟩, List.mem_of_getElem? (i := 752) (by decide +kernel), List.mem_of_getElem? (i := 1025) (by decide +kernel), List.mem_of_getElem? (i := 1026) (by decide +kernel)⟩
theorem lw_p47 : lw_okq (⟨"BarStripsModel", "part", "(Z)I"⟩, 15) := ⟨⟨by decide +kernel, by decide +kernel⟩, List.mem_of_getElem? (i := 752) (by decide +kernel), List.mem_of_getElem? (i := 1029) (by decide +kernel), List.mem_of_getElem? (i := 1030) (by decide +kernel)⟩
def lw_privs_3 : List (MethodName × Nat) := [(⟨"BarStripsModel", "worth", "(II)I"⟩, 15), (⟨"BarStripsModel", "swaps", "(II)I"⟩, 15), (⟨"BarStripsModel", "hasBars", "(I)Z"⟩, 15), (⟨"BarStripsModel", "swapLanes", "(II)V"⟩, 15), (⟨"BarStripsModel", "packs", "()I"⟩, 15), (⟨"BarStripsModel", "nextByDay", "(I)I"⟩, 15), (⟨"BarStripsModel", "lanes", "()I"⟩, 15), (⟨"BarStripsModel", "slipsBy", "(II)I"⟩, 15), (⟨"BarStripsModel", "slips", "(II)I"⟩, 15), (⟨"BarStripsModel", "layPushes", "()V"⟩, 15), (⟨"BarStripsModel", "greatestEnd", "()I"⟩, 15), (⟨"BarStripsModel", "pulls", "(I)I"⟩, 15), (⟨"BarStripsModel", "widens", "(III)I"⟩, 15), (⟨"BarStripsModel", "sets", "(II)I"⟩, 15), (⟨"BarStripsModel", "go", "(Z)I"⟩, 15), (⟨"BarStripsModel", "part", "(Z)I"⟩, 15)]
theorem lw_r3 : ∀ q ∈ lw_privs_3, lw_okq q := List.forall_mem_cons.mpr ⟨lw_p32, List.forall_mem_cons.mpr ⟨lw_p33, List.forall_mem_cons.mpr ⟨lw_p34, List.forall_mem_cons.mpr ⟨lw_p35, List.forall_mem_cons.mpr ⟨lw_p36, List.forall_mem_cons.mpr ⟨lw_p37, List.forall_mem_cons.mpr ⟨lw_p38, List.forall_mem_cons.mpr ⟨lw_p39, List.forall_mem_cons.mpr ⟨lw_p40, List.forall_mem_cons.mpr ⟨lw_p41, List.forall_mem_cons.mpr ⟨lw_p42, List.forall_mem_cons.mpr ⟨lw_p43, List.forall_mem_cons.mpr ⟨lw_p44, List.forall_mem_cons.mpr ⟨lw_p45, List.forall_mem_cons.mpr ⟨lw_p46, List.forall_mem_cons.mpr ⟨lw_p47, fun _ h => absurd h List.not_mem_nil⟩⟩⟩⟩⟩⟩⟩⟩⟩⟩⟩⟩⟩⟩⟩⟩
theorem lw_p48 : lw_okq (⟨"BarStripsModel", "number", "(II)I"⟩, 15) := ⟨⟨by decide +kernel, by decide +kernel⟩, List.mem_of_getElem? (i := 752) (by decide +kernel), List.mem_of_getElem? (i := 1033) (by decide +kernel), List.mem_of_getElem? (i := 1034) (by decide +kernel)⟩
theorem lw_p49 : lw_okq (⟨"BarStripsModel", "sign", "(II)I"⟩, 15) := ⟨⟨by decide +kernel, by decide +kernel⟩, List.mem_of_getElem? (i := 752) (by decide +kernel), List.mem_of_getElem? (i := 1037) (by decide +kernel), List.mem_of_getElem? (i := 1038) (by decide +kernel)⟩
theorem lw_p50 : lw_okq (⟨"BarStripsModel", "isNext", "(I)Z"⟩, 15) := ⟨⟨by decide +kernel, by decide +kernel⟩, List.mem_of_getElem? (i := 752) (by decide +kernel), List.mem_of_getElem? (i := 1041) (by decide +kernel), List.mem_of_getElem? (i := 1042) (by decide +kernel)⟩
theorem lw_p51 : lw_okq (⟨"BarStripsModel", "widthOf", "(II)I"⟩, 15) := ⟨⟨by decide +kernel, by decide +kernel⟩, List.mem_of_getElem? (i := 752) (by decide +kernel), List.mem_of_getElem? (i := 1065) (by decide +kernel), List.mem_of_getElem? (i := 1066) (by decide +kernel)⟩
theorem lw_p52 : lw_okq (⟨"BarStripsModel", "slack", "(I)I"⟩, 15) := ⟨⟨by decide +kernel, by decide +kernel⟩, List.mem_of_getElem? (i := 752) (by decide +kernel), List.mem_of_getElem? (i := 1069) (by decide +kernel), List.mem_of_getElem? (i := 1070) (by decide +kernel)⟩
theorem lw_p53 : lw_okq (⟨"BarStripsModel", "layLatest", "()V"⟩, 15) := ⟨⟨by decide +kernel, by decide +kernel⟩, List.mem_of_getElem? (i := 752) (by decide +kernel), List.mem_of_getElem? (i := 1073) (by decide +kernel), List.mem_of_getElem? (i := 1074) (by decide +kernel)⟩
theorem lw_p54 : lw_okq (⟨"BarStripsModel", "arrowsAt", "(II)I"⟩, 15) := ⟨⟨by decide +kernel, by decide +kernel⟩, List.mem_of_getElem? (i := 752) (by decide +kernel), List.mem_of_getElem? (i := 1077) (by decide +kernel), List.mem_of_getElem? (i := 1078) (by decide +kernel)⟩
theorem lw_p55 : lw_okq (⟨"BarStripsModel", "stripOf", "(I)I"⟩, 15) := ⟨⟨by decide +kernel, by decide +kernel⟩, List.mem_of_getElem? (i := 752) (by decide +kernel), List.mem_of_getElem? (i := 1081) (by decide +kernel), List.mem_of_getElem? (i := 1082) (by decide +kernel)⟩
theorem lw_p56 : lw_okq (⟨"BarStripsModel", "stripEnd", "(I)I"⟩, 15) := ⟨⟨by decide +kernel, by decide +kernel⟩, List.mem_of_getElem? (i := 752) (by decide +kernel), List.mem_of_getElem? (i := 1085) (by decide +kernel), List.mem_of_getElem? (i := 1086) (by decide +kernel)⟩
theorem lw_p57 : lw_okq (⟨"BarStripsModel", "behind", "(I)I"⟩, 15) := ⟨⟨by decide +kernel, by decide +kernel⟩, List.mem_of_getElem? (i := 752) (by decide +kernel), List.mem_of_getElem? (i := 1089) (by decide +kernel), List.mem_of_getElem? (i := 1090) (by decide +kernel)⟩
theorem lw_p58 : lw_okq (⟨"BarStripsModel", "freeBends", "(I)I"⟩, 15) := ⟨⟨by decide +kernel, by decide +kernel⟩, List.mem_of_getElem? (i := 752) (by decide +kernel), List.mem_of_getElem? (i := 1097) (by decide +kernel), List.mem_of_getElem? (i := 1098) (by decide +kernel)⟩
theorem lw_p59 : lw_okq (⟨"BarStripsModel", "pointsOf", "(I)I"⟩, 15) := ⟨⟨by decide +kernel, by decide +kernel⟩, List.mem_of_getElem? (i := 752) (by decide +kernel), List.mem_of_getElem? (i := 1101) (by decide +kernel), List.mem_of_getElem? (i := 1102) (by decide +kernel)⟩
theorem lw_p60 : lw_okq (⟨"BarStripsModel", "layBends", "()V"⟩, 15) := ⟨⟨by decide +kernel, by decide +kernel⟩, List.mem_of_getElem? (i := 752) (by decide +kernel), List.mem_of_getElem? (i := 1105) (by decide +kernel), List.mem_of_getElem? (i := 1106) (by decide +kernel)⟩
theorem lw_p61 : lw_okq (⟨"BarStripsModel", "points", "(II)I"⟩, 15) := ⟨⟨by decide +kernel, by decide +kernel⟩, List.mem_of_getElem? (i := 752) (by decide +kernel), List.mem_of_getElem? (i := 1109) (by decide +kernel), List.mem_of_getElem? (i := 1110) (by decide +kernel)⟩
theorem lw_p62 : lw_okq (⟨"BarStripsModel", "goesAlong", "(III)Z"⟩, 15) := ⟨⟨by decide +kernel, by decide +kernel⟩, List.mem_of_getElem? (i := 752) (by decide +kernel), List.mem_of_getElem? (i := 1113) (by decide +kernel), List.mem_of_getElem? (i := 1114) (by decide +kernel)⟩
theorem lw_p63 : lw_okq (⟨"BarStripsModel", "stripStart", "(I)I"⟩, 15) := ⟨⟨by decide +kernel, by decide +kernel⟩, List.mem_of_getElem? (i := 752) (by decide +kernel), List.mem_of_getElem? (i := 1129) (by decide +kernel), List.mem_of_getElem? (i := 1130) (by decide +kernel)⟩
def lw_privs_4 : List (MethodName × Nat) := [(⟨"BarStripsModel", "number", "(II)I"⟩, 15), (⟨"BarStripsModel", "sign", "(II)I"⟩, 15), (⟨"BarStripsModel", "isNext", "(I)Z"⟩, 15), (⟨"BarStripsModel", "widthOf", "(II)I"⟩, 15), (⟨"BarStripsModel", "slack", "(I)I"⟩, 15), (⟨"BarStripsModel", "layLatest", "()V"⟩, 15), (⟨"BarStripsModel", "arrowsAt", "(II)I"⟩, 15), (⟨"BarStripsModel", "stripOf", "(I)I"⟩, 15), (⟨"BarStripsModel", "stripEnd", "(I)I"⟩, 15), (⟨"BarStripsModel", "behind", "(I)I"⟩, 15), (⟨"BarStripsModel", "freeBends", "(I)I"⟩, 15), (⟨"BarStripsModel", "pointsOf", "(I)I"⟩, 15), (⟨"BarStripsModel", "layBends", "()V"⟩, 15), (⟨"BarStripsModel", "points", "(II)I"⟩, 15), (⟨"BarStripsModel", "goesAlong", "(III)Z"⟩, 15), (⟨"BarStripsModel", "stripStart", "(I)I"⟩, 15)]
theorem lw_r4 : ∀ q ∈ lw_privs_4, lw_okq q := List.forall_mem_cons.mpr ⟨lw_p48, List.forall_mem_cons.mpr ⟨lw_p49, List.forall_mem_cons.mpr ⟨lw_p50, List.forall_mem_cons.mpr ⟨lw_p51, List.forall_mem_cons.mpr ⟨lw_p52, List.forall_mem_cons.mpr ⟨lw_p53, List.forall_mem_cons.mpr ⟨lw_p54, List.forall_mem_cons.mpr ⟨lw_p55, List.forall_mem_cons.mpr ⟨lw_p56, List.forall_mem_cons.mpr ⟨lw_p57, List.forall_mem_cons.mpr ⟨lw_p58, List.forall_mem_cons.mpr ⟨lw_p59, List.forall_mem_cons.mpr ⟨lw_p60, List.forall_mem_cons.mpr ⟨lw_p61, List.forall_mem_cons.mpr ⟨lw_p62, List.forall_mem_cons.mpr ⟨lw_p63, fun _ h => absurd h List.not_mem_nil⟩⟩⟩⟩⟩⟩⟩⟩⟩⟩⟩⟩⟩⟩⟩⟩
theorem lw_p64 : lw_okq (⟨"BarStripsModel", "allPoints", "()I"⟩, 15) := ⟨⟨by decide +kernel, by decide +kernel⟩, List.mem_of_getElem? (i := 752) (by decide +kernel), List.mem_of_getElem? (i := 1137) (by decide +kernel), List.mem_of_getElem? (i := 1138) (by decide +kernel)⟩
theorem lw_p65 : lw_okq (⟨"BarStripsModel", "strips", "()I"⟩, 15) := ⟨⟨by decide +kernel, by decide +kernel⟩, List.mem_of_getElem? (i := 752) (by decide +kernel), List.mem_of_getElem? (i := 1141) (by decide +kernel), List.mem_of_getElem? (i := 1142) (by decide +kernel)⟩
theorem lw_p66 : lw_okq (⟨"BarStripsModel", "critical", "()I"⟩, 15) := ⟨⟨by decide +kernel, by decide +kernel⟩, List.mem_of_getElem? (i := 752) (by decide +kernel), List.mem_of_getElem? (i := 1145) (by decide +kernel), List.mem_of_getElem? (i := 1146) (by decide +kernel)⟩
def lw_privs_5 : List (MethodName × Nat) := [(⟨"BarStripsModel", "allPoints", "()I"⟩, 15), (⟨"BarStripsModel", "strips", "()I"⟩, 15), (⟨"BarStripsModel", "critical", "()I"⟩, 15)]
theorem lw_r5 : ∀ q ∈ lw_privs_5, lw_okq q := List.forall_mem_cons.mpr ⟨lw_p64, List.forall_mem_cons.mpr ⟨lw_p65, List.forall_mem_cons.mpr ⟨lw_p66, fun _ h => absurd h List.not_mem_nil⟩⟩⟩
def lw_privs : List (MethodName × Nat) := lw_privs_1 ++ (lw_privs_2 ++ (lw_privs_3 ++ (lw_privs_4 ++ (lw_privs_5))))
def lw_tbl : List Cond := k2_sels lw_privs ++ tables_1
theorem lw_privs_ok : ∀ q ∈ lw_privs, lw_okq q := by
  show ∀ q ∈ lw_privs_1 ++ (lw_privs_2 ++ (lw_privs_3 ++ (lw_privs_4 ++ (lw_privs_5)))), lw_okq q
  exact List.forall_mem_append.mpr ⟨lw_r1, List.forall_mem_append.mpr ⟨lw_r2, List.forall_mem_append.mpr ⟨lw_r3, List.forall_mem_append.mpr ⟨lw_r4, lw_r5⟩⟩⟩⟩
/-- the streams that the claim lets the run draw from -/
abbrev lw_cs : List Choice := [Jvm.Choice.named "NaN.bits"]
theorem lw_bits : nanBits ∈ lw_cs := by first | decide | exact List.mem_cons_self | simp [lw_cs, nanBits]
-- ===== end of PART A; then your names; then what follows =====
end
section
/-! ===== BEGIN words of one list among another's, by their places ===== -/
theorem goodIn_r {big : List Cond} (ws : List Cond) (ps : List Nat) (hp : ws = ps.filterMap (fun i => big[i]?)) (h : ws.all goodWord = true) : GoodIn big ws := by
  intro w hw
  have h1 := List.all_eq_true.mp h w hw
  rw [hp] at hw
  obtain ⟨i, -, hi⟩ := List.mem_filterMap.mp hw
  have hm : w ∈ big := by first | exact List.mem_of_getElem? hi | exact List.getElem?_mem hi
  exact ⟨hm, good_of_word h1⟩
theorem goodIn_app {big a b : List Cond} (ha : GoodIn big a) (hb : GoodIn big b) : GoodIn big (a ++ b) := fun w h => (List.mem_append.mp h).elim (ha w) (hb w)
theorem goodIn_ca {big a b : List Cond} {c : Cond} (ha : GoodIn big (c :: a)) (hb : GoodIn big b) : GoodIn big (c :: (a ++ b)) := fun w h => (List.mem_cons.mp h).elim (fun e => ha w (List.mem_cons.mpr (Or.inl e))) (fun h => (List.mem_append.mp h).elim (fun h => ha w (List.mem_cons.mpr (Or.inr h))) (hb w))
theorem goodIn_sub {big ws : List Cond} (hm : ∀ w ∈ ws, w ∈ big) (h : ws.all goodWord = true) : GoodIn big ws := fun w hw => ⟨hm w hw, good_of_word (List.all_eq_true.mp h w hw)⟩
/-! ===== END ===== -/

/-! ===== BEGIN printed: names, fields, word lists, decode rows ===== -/
def RX0 : String := "BarStrips$Chart"
def TX0 : u_T := fun k => match k with
  | 0 => ("BarStrips$Chart", "bars", "I", false)
  | 1 => ("BarStrips$Chart", "barsEver", "I", false)
  | 2 => ("BarStrips$Chart", "number", "[I", true)
  | 3 => ("BarStrips$Chart", "lane", "[I", true)
  | 4 => ("BarStrips$Chart", "first", "[I", true)
  | 5 => ("BarStrips$Chart", "days", "[I", true)
  | 6 => ("BarStrips$Chart", "arrows", "I", false)
  | 7 => ("BarStrips$Chart", "arrowsEver", "I", false)
  | 8 => ("BarStrips$Chart", "arrowNumber", "[I", true)
  | 9 => ("BarStrips$Chart", "from", "[I", true)
  | 10 => ("BarStrips$Chart", "to", "[I", true)
  | 11 => ("BarStrips$Chart", "widths", "[I", true)
  | 12 => ("BarStrips$Chart", "settings", "[I", true)
  | _ => ("BarStrips$Chart", "slipped", "I", false)
def tyX0 : Nat → FieldType := fun k => match k with
  | 0 => .int
  | 1 => .int
  | 2 => .array .int
  | 3 => .array .int
  | 4 => .array .int
  | 5 => .array .int
  | 6 => .int
  | 7 => .int
  | 8 => .array .int
  | 9 => .array .int
  | 10 => .array .int
  | 11 => .array .int
  | 12 => .array .int
  | _ => .int
abbrev wsX00 : List Cond := u_ws RX0 TX0 14
theorem nmX0 : ∀ a, a < 14 → ∀ b, b < 14 → a ≠ b → (TX0 a).2.1 ≠ (TX0 b).2.1 := by decide +kernel
theorem tyX0_ok : ∀ k, k < 14 → parseFieldDescriptor (TX0 k).2.2.1 = some (tyX0 k) := by decide +kernel
abbrev cX0_init : ByteArray := prog_2_method_1_code
def yX0_init : MethodName := ⟨RX0, "<init>", "()V"⟩
abbrev cX0_copyFrom : ByteArray := prog_2_method_2_code
def yX0_copyFrom : MethodName := ⟨RX0, "copyFrom", "(LBarStrips$Chart;)V"⟩
abbrev cX0_slotOf : ByteArray := prog_2_method_3_code
def yX0_slotOf : MethodName := ⟨RX0, "slotOf", "(I)I"⟩
abbrev cX0_arrowSlotOf : ByteArray := prog_2_method_4_code
def yX0_arrowSlotOf : MethodName := ⟨RX0, "arrowSlotOf", "(I)I"⟩
abbrev cX0_addBar : ByteArray := prog_2_method_5_code
def yX0_addBar : MethodName := ⟨RX0, "addBar", "(III)I"⟩
abbrev cX0_addArrow : ByteArray := prog_2_method_6_code
def yX0_addArrow : MethodName := ⟨RX0, "addArrow", "(II)I"⟩
abbrev cX0_hasArrow : ByteArray := prog_2_method_7_code
def yX0_hasArrow : MethodName := ⟨RX0, "hasArrow", "(II)Z"⟩
abbrev cX0_leadsOn : ByteArray := prog_2_method_8_code
def yX0_leadsOn : MethodName := ⟨RX0, "leadsOn", "(II)Z"⟩
abbrev cX0_dropBar : ByteArray := prog_2_method_9_code
def yX0_dropBar : MethodName := ⟨RX0, "dropBar", "(I)I"⟩
abbrev cX0_dropArrow : ByteArray := prog_2_method_10_code
def yX0_dropArrow : MethodName := ⟨RX0, "dropArrow", "(I)V"⟩
abbrev cX0_hasRoom : ByteArray := prog_2_method_11_code
def yX0_hasRoom : MethodName := ⟨RX0, "hasRoom", "(IIII)Z"⟩
abbrev cX0_sharesDays : ByteArray := prog_2_method_12_code
def yX0_sharesDays : MethodName := ⟨RX0, "sharesDays", "(III)Z"⟩
abbrev cX0_exchangeLanes : ByteArray := prog_2_method_13_code
def yX0_exchangeLanes : MethodName := ⟨RX0, "exchangeLanes", "(II)V"⟩
abbrev cX0_packLanes : ByteArray := prog_2_method_14_code
def yX0_packLanes : MethodName := ⟨RX0, "packLanes", "([I)I"⟩
abbrev cX0_lowestLane : ByteArray := prog_2_method_15_code
def yX0_lowestLane : MethodName := ⟨RX0, "lowestLane", "([II)I"⟩
abbrev cX0_isTaken : ByteArray := prog_2_method_16_code
def yX0_isTaken : MethodName := ⟨RX0, "isTaken", "([III)Z"⟩
abbrev cX0_slipTo : ByteArray := prog_2_method_17_code
def yX0_slipTo : MethodName := ⟨RX0, "slipTo", "([I)I"⟩
abbrev cX0_setWidths : ByteArray := prog_2_method_18_code
def yX0_setWidths : MethodName := ⟨RX0, "setWidths", "(III)I"⟩
abbrev cX0_endOf : ByteArray := prog_2_method_19_code
def yX0_endOf : MethodName := ⟨RX0, "endOf", "(I)I"⟩
abbrev cX0_greatestEnd : ByteArray := prog_2_method_20_code
def yX0_greatestEnd : MethodName := ⟨RX0, "greatestEnd", "()I"⟩
abbrev cX0_lateBy : ByteArray := prog_2_method_21_code
def yX0_lateBy : MethodName := ⟨RX0, "lateBy", "(I)I"⟩
abbrev cX0_lateArrows : ByteArray := prog_2_method_22_code
def yX0_lateArrows : MethodName := ⟨RX0, "lateArrows", "()I"⟩
abbrev cX0_arrowsFrom : ByteArray := prog_2_method_23_code
def yX0_arrowsFrom : MethodName := ⟨RX0, "arrowsFrom", "(I)I"⟩
abbrev cX0_arrowsTo : ByteArray := prog_2_method_24_code
def yX0_arrowsTo : MethodName := ⟨RX0, "arrowsTo", "(I)I"⟩
abbrev cX0_hasBars : ByteArray := prog_2_method_25_code
def yX0_hasBars : MethodName := ⟨RX0, "hasBars", "(I)Z"⟩
abbrev cX0_lanesWithBars : ByteArray := prog_2_method_26_code
def yX0_lanesWithBars : MethodName := ⟨RX0, "lanesWithBars", "()I"⟩
abbrev cX0_barAt : ByteArray := prog_2_method_27_code
def yX0_barAt : MethodName := ⟨RX0, "barAt", "(II)I"⟩
abbrev cX0_nextInLane : ByteArray := prog_2_method_28_code
def yX0_nextInLane : MethodName := ⟨RX0, "nextInLane", "(I)I"⟩
abbrev cX0_barsShown : ByteArray := prog_2_method_29_code
def yX0_barsShown : MethodName := ⟨RX0, "barsShown", "(II)I"⟩
abbrev cX0_barsBegun : ByteArray := prog_2_method_30_code
def yX0_barsBegun : MethodName := ⟨RX0, "barsBegun", "(II)I"⟩
abbrev cX0_place : ByteArray := prog_2_method_31_code
def yX0_place : MethodName := ⟨RX0, "place", "(I)I"⟩
abbrev cX0_widthBetween : ByteArray := prog_2_method_32_code
def yX0_widthBetween : MethodName := ⟨RX0, "widthBetween", "(II)I"⟩
abbrev cX0_widthOfBars : ByteArray := prog_2_method_33_code
def yX0_widthOfBars : MethodName := ⟨RX0, "widthOfBars", "()I"⟩
def RX1 : String := "BarStrips$Cutting"
def TX1 : u_T := fun k => match k with
  | 0 => ("BarStrips$Cutting", "strips", "I", false)
  | _ => ("BarStrips$Cutting", "start", "[I", true)
def tyX1 : Nat → FieldType := fun k => match k with
  | 0 => .int
  | _ => .array .int
abbrev wsX10 : List Cond := u_ws RX1 TX1 2
theorem nmX1 : ∀ a, a < 2 → ∀ b, b < 2 → a ≠ b → (TX1 a).2.1 ≠ (TX1 b).2.1 := by decide +kernel
theorem tyX1_ok : ∀ k, k < 2 → parseFieldDescriptor (TX1 k).2.2.1 = some (tyX1 k) := by decide +kernel
abbrev cX1_init : ByteArray := prog_3_method_1_code
def yX1_init : MethodName := ⟨RX1, "<init>", "()V"⟩
abbrev cX1_cut : ByteArray := prog_3_method_2_code
def yX1_cut : MethodName := ⟨RX1, "cut", "(LBarStrips$Chart;)V"⟩
abbrev cX1_stripOf : ByteArray := prog_3_method_3_code
def yX1_stripOf : MethodName := ⟨RX1, "stripOf", "(I)I"⟩
def RX2 : String := "BarStrips$Drawing"
def TX2 : u_T := fun k => match k with
  | 0 => ("BarStrips$Drawing", "bend", "[I", true)
  | 1 => ("BarStrips$Drawing", "undrawn", "I", false)
  | _ => ("BarStrips$Drawing", "barred", "[I", true)
def tyX2 : Nat → FieldType := fun k => match k with
  | 0 => .array .int
  | 1 => .int
  | _ => .array .int
abbrev wsX20 : List Cond := u_ws RX2 TX2 3
theorem nmX2 : ∀ a, a < 3 → ∀ b, b < 3 → a ≠ b → (TX2 a).2.1 ≠ (TX2 b).2.1 := by decide +kernel
theorem tyX2_ok : ∀ k, k < 3 → parseFieldDescriptor (TX2 k).2.2.1 = some (tyX2 k) := by decide +kernel
abbrev cX2_init : ByteArray := prog_4_method_1_code
def yX2_init : MethodName := ⟨RX2, "<init>", "()V"⟩
abbrev cX2_readBars : ByteArray := prog_4_method_2_code
def yX2_readBars : MethodName := ⟨RX2, "readBars", "(LBarStrips$Chart;)V"⟩
abbrev cX2_draw : ByteArray := prog_4_method_3_code
def yX2_draw : MethodName := ⟨RX2, "draw", "(LBarStrips$Chart;)V"⟩
abbrev cX2_choose : ByteArray := prog_4_method_4_code
def yX2_choose : MethodName := ⟨RX2, "choose", "(LBarStrips$Chart;I)I"⟩
abbrev cX2_freeBends : ByteArray := prog_4_method_5_code
def yX2_freeBends : MethodName := ⟨RX2, "freeBends", "(LBarStrips$Chart;I)I"⟩
abbrev cX2_whyShut : ByteArray := prog_4_method_6_code
def yX2_whyShut : MethodName := ⟨RX2, "whyShut", "(LBarStrips$Chart;II)I"⟩
abbrev cX2_highest : ByteArray := prog_4_method_7_code
def yX2_highest : MethodName := ⟨RX2, "highest", "(LBarStrips$Chart;I)I"⟩
abbrev cX2_lowest : ByteArray := prog_4_method_8_code
def yX2_lowest : MethodName := ⟨RX2, "lowest", "(LBarStrips$Chart;I)I"⟩
abbrev cX2_lanesBetween : ByteArray := prog_4_method_9_code
def yX2_lanesBetween : MethodName := ⟨RX2, "lanesBetween", "(LBarStrips$Chart;I)I"⟩
abbrev cX2_pointsInAll : ByteArray := prog_4_method_10_code
def yX2_pointsInAll : MethodName := ⟨RX2, "pointsInAll", "(LBarStrips$Chart;)I"⟩
abbrev cX2_pointsOf : ByteArray := prog_4_method_11_code
def yX2_pointsOf : MethodName := ⟨RX2, "pointsOf", "(LBarStrips$Chart;I)I"⟩
abbrev cX2_crosses : ByteArray := prog_4_method_12_code
def yX2_crosses : MethodName := ⟨RX2, "crosses", "(LBarStrips$Chart;II)Z"⟩
abbrev cX2_passesThrough : ByteArray := prog_4_method_13_code
def yX2_passesThrough : MethodName := ⟨RX2, "passesThrough", "(LBarStrips$Chart;III)Z"⟩
abbrev cX2_goesAlong : ByteArray := prog_4_method_14_code
def yX2_goesAlong : MethodName := ⟨RX2, "goesAlong", "(LBarStrips$Chart;III)Z"⟩
def RX3 : String := "BarStrips$History"
def TX3 : u_T := fun k => match k with
  | 0 => ("BarStrips$History", "states", "[LBarStrips$Chart;", true)
  | 1 => ("BarStrips$History", "oldest", "I", false)
  | _ => ("BarStrips$History", "size", "I", false)
def tyX3 : Nat → FieldType := fun k => match k with
  | 0 => .array (.object "BarStrips$Chart")
  | 1 => .int
  | _ => .int
abbrev wsX30 : List Cond := u_ws RX3 TX3 3
theorem nmX3 : ∀ a, a < 3 → ∀ b, b < 3 → a ≠ b → (TX3 a).2.1 ≠ (TX3 b).2.1 := by decide +kernel
theorem tyX3_ok : ∀ k, k < 3 → parseFieldDescriptor (TX3 k).2.2.1 = some (tyX3 k) := by decide +kernel
abbrev cX3_init : ByteArray := prog_5_method_1_code
def yX3_init : MethodName := ⟨RX3, "<init>", "()V"⟩
abbrev cX3_record : ByteArray := prog_5_method_2_code
def yX3_record : MethodName := ⟨RX3, "record", "(LBarStrips$Chart;)V"⟩
abbrev cX3_takeLatest : ByteArray := prog_5_method_3_code
def yX3_takeLatest : MethodName := ⟨RX3, "takeLatest", "(LBarStrips$Chart;)I"⟩
def RX4 : String := "BarStrips$PartsText"
def TX4 : u_T := fun k => match k with
  | 0 => ("BarStrips$PartsText", "signs", "[C", true)
  | 1 => ("BarStrips$PartsText", "length", "I", false)
  | 2 => ("BarStrips$PartsText", "parts", "I", false)
  | 3 => ("BarStrips$PartsText", "head", "[I", true)
  | 4 => ("BarStrips$PartsText", "second", "[I", true)
  | 5 => ("BarStrips$PartsText", "days", "[I", true)
  | 6 => ("BarStrips$PartsText", "field", "I", false)
  | 7 => ("BarStrips$PartsText", "value", "I", false)
  | _ => ("BarStrips$PartsText", "digits", "I", false)
def tyX4 : Nat → FieldType := fun k => match k with
  | 0 => .array .char
  | 1 => .int
  | 2 => .int
  | 3 => .array .int
  | 4 => .array .int
  | 5 => .array .int
  | 6 => .int
  | 7 => .int
  | _ => .int
abbrev wsX40 : List Cond := u_ws RX4 TX4 9
theorem nmX4 : ∀ a, a < 9 → ∀ b, b < 9 → a ≠ b → (TX4 a).2.1 ≠ (TX4 b).2.1 := by decide +kernel
theorem tyX4_ok : ∀ k, k < 9 → parseFieldDescriptor (TX4 k).2.2.1 = some (tyX4 k) := by decide +kernel
abbrev cX4_init : ByteArray := prog_6_method_1_code
def yX4_init : MethodName := ⟨RX4, "<init>", "()V"⟩
abbrev cX4_append : ByteArray := prog_6_method_2_code
def yX4_append : MethodName := ⟨RX4, "append", "(C)I"⟩
abbrev cX4_isArrow : ByteArray := prog_6_method_3_code
def yX4_isArrow : MethodName := ⟨RX4, "isArrow", "(I)Z"⟩
abbrev cX4_readParts : ByteArray := prog_6_method_4_code
def yX4_readParts : MethodName := ⟨RX4, "readParts", "()I"⟩
abbrev cX4_take : ByteArray := prog_6_method_5_code
def yX4_take : MethodName := ⟨RX4, "take", "(C)Z"⟩
abbrev cX4_takeDigit : ByteArray := prog_6_method_6_code
def yX4_takeDigit : MethodName := ⟨RX4, "takeDigit", "(I)Z"⟩
abbrev cX4_greatest : ByteArray := prog_6_method_7_code
def yX4_greatest : MethodName := ⟨RX4, "greatest", "()I"⟩
abbrev cX4_takeMark : ByteArray := prog_6_method_8_code
def yX4_takeMark : MethodName := ⟨RX4, "takeMark", "(C)Z"⟩
abbrev cX4_turnTo : ByteArray := prog_6_method_9_code
def yX4_turnTo : MethodName := ⟨RX4, "turnTo", "(I)Z"⟩
abbrev cX4_endPart : ByteArray := prog_6_method_10_code
def yX4_endPart : MethodName := ⟨RX4, "endPart", "()Z"⟩
abbrev cX4_begin : ByteArray := prog_6_method_11_code
def yX4_begin : MethodName := ⟨RX4, "begin", "(I)V"⟩
abbrev cX4_storeNumber : ByteArray := prog_6_method_12_code
def yX4_storeNumber : MethodName := ⟨RX4, "storeNumber", "()V"⟩
def RX5 : String := "BarStrips$Pushes"
def TX5 : u_T := fun k => match k with
  | 0 => ("BarStrips$Pushes", "order", "[I", true)
  | 1 => ("BarStrips$Pushes", "pushed", "[I", true)
  | _ => ("BarStrips$Pushes", "day", "[I", true)
def tyX5 : Nat → FieldType := fun k => match k with
  | 0 => .array .int
  | 1 => .array .int
  | _ => .array .int
abbrev wsX50 : List Cond := u_ws RX5 TX5 3
theorem nmX5 : ∀ a, a < 3 → ∀ b, b < 3 → a ≠ b → (TX5 a).2.1 ≠ (TX5 b).2.1 := by decide +kernel
theorem tyX5_ok : ∀ k, k < 3 → parseFieldDescriptor (TX5 k).2.2.1 = some (tyX5 k) := by decide +kernel
abbrev cX5_init : ByteArray := prog_7_method_1_code
def yX5_init : MethodName := ⟨RX5, "<init>", "()V"⟩
abbrev cX5_read : ByteArray := prog_7_method_2_code
def yX5_read : MethodName := ⟨RX5, "read", "(LBarStrips$Chart;)V"⟩
abbrev cX5_sortByFirstDays : ByteArray := prog_7_method_3_code
def yX5_sortByFirstDays : MethodName := ⟨RX5, "sortByFirstDays", "(LBarStrips$Chart;)V"⟩
abbrev cX5_behindInLane : ByteArray := prog_7_method_4_code
def yX5_behindInLane : MethodName := ⟨RX5, "behindInLane", "(LBarStrips$Chart;I)I"⟩
abbrev cX5_isPushed : ByteArray := prog_7_method_5_code
def yX5_isPushed : MethodName := ⟨RX5, "isPushed", "(II)Z"⟩
abbrev cX5_slipFrom : ByteArray := prog_7_method_6_code
def yX5_slipFrom : MethodName := ⟨RX5, "slipFrom", "(LBarStrips$Chart;II)I"⟩
abbrev cX5_findLatest : ByteArray := prog_7_method_7_code
def yX5_findLatest : MethodName := ⟨RX5, "findLatest", "(LBarStrips$Chart;)V"⟩
abbrev cX5_earliest : ByteArray := prog_7_method_8_code
def yX5_earliest : MethodName := ⟨RX5, "earliest", "(LBarStrips$Chart;I)I"⟩
abbrev cX5_longestRow : ByteArray := prog_7_method_9_code
def yX5_longestRow : MethodName := ⟨RX5, "longestRow", "(LBarStrips$Chart;)I"⟩
def RX6 : String := "BarStrips$SwapSearch"
def TX6 : u_T := fun k => match k with
  | 0 => ("BarStrips$SwapSearch", "lane", "I", false)
  | 1 => ("BarStrips$SwapSearch", "other", "I", false)
  | 2 => ("BarStrips$SwapSearch", "undrawn", "I", false)
  | _ => ("BarStrips$SwapSearch", "points", "I", false)
def tyX6 : Nat → FieldType := fun k => match k with
  | 0 => .int
  | 1 => .int
  | 2 => .int
  | _ => .int
abbrev wsX60 : List Cond := u_ws RX6 TX6 4
theorem nmX6 : ∀ a, a < 4 → ∀ b, b < 4 → a ≠ b → (TX6 a).2.1 ≠ (TX6 b).2.1 := by decide +kernel
theorem tyX6_ok : ∀ k, k < 4 → parseFieldDescriptor (TX6 k).2.2.1 = some (tyX6 k) := by decide +kernel
abbrev cX6_init : ByteArray := prog_8_method_1_code
def yX6_init : MethodName := ⟨RX6, "<init>", "()V"⟩
abbrev cX6_find : ByteArray := prog_8_method_2_code
def yX6_find : MethodName := ⟨RX6, "find", "(LBarStrips$Chart;LBarStrips$Drawing;)Z"⟩
abbrev cX6_isBetterSwapped : ByteArray := prog_8_method_3_code
def yX6_isBetterSwapped : MethodName := ⟨RX6, "isBetterSwapped", "(LBarStrips$Chart;LBarStrips$Drawing;II)Z"⟩
abbrev cX6_isBetter : ByteArray := prog_8_method_4_code
def yX6_isBetter : MethodName := ⟨RX6, "isBetter", "(LBarStrips$Chart;LBarStrips$Drawing;)Z"⟩
def RX7 : String := "BarStrips"
def TX7 : u_T := fun k => match k with
  | 0 => ("BarStrips", "chart", "LBarStrips$Chart;", true)
  | 1 => ("BarStrips", "draft", "LBarStrips$Chart;", true)
  | 2 => ("BarStrips", "snapshot", "LBarStrips$Chart;", true)
  | 3 => ("BarStrips", "snapshotTaken", "Z", false)
  | 4 => ("BarStrips", "history", "LBarStrips$History;", true)
  | 5 => ("BarStrips", "text", "LBarStrips$PartsText;", true)
  | 6 => ("BarStrips", "pushes", "LBarStrips$Pushes;", true)
  | 7 => ("BarStrips", "drawing", "LBarStrips$Drawing;", true)
  | 8 => ("BarStrips", "cutting", "LBarStrips$Cutting;", true)
  | _ => ("BarStrips", "swapSearch", "LBarStrips$SwapSearch;", true)
def tyX7 : Nat → FieldType := fun k => match k with
  | 0 => .object "BarStrips$Chart"
  | 1 => .object "BarStrips$Chart"
  | 2 => .object "BarStrips$Chart"
  | 3 => .boolean
  | 4 => .object "BarStrips$History"
  | 5 => .object "BarStrips$PartsText"
  | 6 => .object "BarStrips$Pushes"
  | 7 => .object "BarStrips$Drawing"
  | 8 => .object "BarStrips$Cutting"
  | _ => .object "BarStrips$SwapSearch"
abbrev wsX70 : List Cond := u_ws RX7 TX7 10
theorem nmX7 : ∀ a, a < 10 → ∀ b, b < 10 → a ≠ b → (TX7 a).2.1 ≠ (TX7 b).2.1 := by decide +kernel
theorem tyX7_ok : ∀ k, k < 10 → parseFieldDescriptor (TX7 k).2.2.1 = some (tyX7 k) := by decide +kernel
abbrev cX7_init : ByteArray := prog_1_method_1_code
def yX7_init : MethodName := ⟨RX7, "<init>", "()V"⟩
abbrev cX7_bar : ByteArray := prog_1_method_2_code
def yX7_bar : MethodName := ⟨RX7, "bar", "(III)I"⟩
abbrev cX7_arrow : ByteArray := prog_1_method_3_code
def yX7_arrow : MethodName := ⟨RX7, "arrow", "(II)I"⟩
abbrev cX7_addAll : ByteArray := prog_1_method_4_code
def yX7_addAll : MethodName := ⟨RX7, "addAll", "()I"⟩
abbrev cX7_takeBar : ByteArray := prog_1_method_5_code
def yX7_takeBar : MethodName := ⟨RX7, "takeBar", "(I)I"⟩
abbrev cX7_takeArrow : ByteArray := prog_1_method_6_code
def yX7_takeArrow : MethodName := ⟨RX7, "takeArrow", "(I)I"⟩
abbrev cX7_move : ByteArray := prog_1_method_7_code
def yX7_move : MethodName := ⟨RX7, "move", "(III)I"⟩
abbrev cX7_swap : ByteArray := prog_1_method_8_code
def yX7_swap : MethodName := ⟨RX7, "swap", "(II)I"⟩
abbrev cX7_pack : ByteArray := prog_1_method_9_code
def yX7_pack : MethodName := ⟨RX7, "pack", "()I"⟩
abbrev cX7_slip : ByteArray := prog_1_method_10_code
def yX7_slip : MethodName := ⟨RX7, "slip", "(II)I"⟩
abbrev cX7_pull : ByteArray := prog_1_method_11_code
def yX7_pull : MethodName := ⟨RX7, "pull", "(I)I"⟩
abbrev cX7_width : ByteArray := prog_1_method_12_code
def yX7_width : MethodName := ⟨RX7, "width", "(III)I"⟩
abbrev cX7_set : ByteArray := prog_1_method_13_code
def yX7_set : MethodName := ⟨RX7, "set", "(II)I"⟩
abbrev cX7_type : ByteArray := prog_1_method_14_code
def yX7_type : MethodName := ⟨RX7, "type", "(C)I"⟩
abbrev cX7_clearText : ByteArray := prog_1_method_15_code
def yX7_clearText : MethodName := ⟨RX7, "clearText", "()I"⟩
abbrev cX7_fault : ByteArray := prog_1_method_16_code
def yX7_fault : MethodName := ⟨RX7, "fault", "()I"⟩
abbrev cX7_undo : ByteArray := prog_1_method_17_code
def yX7_undo : MethodName := ⟨RX7, "undo", "()I"⟩
abbrev cX7_keep : ByteArray := prog_1_method_18_code
def yX7_keep : MethodName := ⟨RX7, "keep", "()I"⟩
abbrev cX7_restore : ByteArray := prog_1_method_19_code
def yX7_restore : MethodName := ⟨RX7, "restore", "()I"⟩
abbrev cX7_barOf : ByteArray := prog_1_method_20_code
def yX7_barOf : MethodName := ⟨RX7, "barOf", "(II)I"⟩
abbrev cX7_arrowOf : ByteArray := prog_1_method_21_code
def yX7_arrowOf : MethodName := ⟨RX7, "arrowOf", "(II)I"⟩
abbrev cX7_reason : ByteArray := prog_1_method_22_code
def yX7_reason : MethodName := ⟨RX7, "reason", "(II)I"⟩
abbrev cX7_cell : ByteArray := prog_1_method_23_code
def yX7_cell : MethodName := ⟨RX7, "cell", "(II)I"⟩
abbrev cX7_strip : ByteArray := prog_1_method_24_code
def yX7_strip : MethodName := ⟨RX7, "strip", "(II)I"⟩
abbrev cX7_count : ByteArray := prog_1_method_25_code
def yX7_count : MethodName := ⟨RX7, "count", "(I)I"⟩
abbrev cX7_latest : ByteArray := prog_1_method_26_code
def yX7_latest : MethodName := ⟨RX7, "latest", "(I)I"⟩
abbrev cX7_longest : ByteArray := prog_1_method_27_code
def yX7_longest : MethodName := ⟨RX7, "longest", "()I"⟩
abbrev cX7_share : ByteArray := prog_1_method_28_code
def yX7_share : MethodName := ⟨RX7, "share", "()D"⟩
abbrev cX7_ifSlipped : ByteArray := prog_1_method_29_code
def yX7_ifSlipped : MethodName := ⟨RX7, "ifSlipped", "(II)I"⟩
abbrev cX7_bestSwap : ByteArray := prog_1_method_30_code
def yX7_bestSwap : MethodName := ⟨RX7, "bestSwap", "(I)I"⟩
abbrev cX7_bestLane : ByteArray := prog_1_method_31_code
def yX7_bestLane : MethodName := ⟨RX7, "bestLane", "(I)I"⟩
abbrev cX7_settle : ByteArray := prog_1_method_32_code
def yX7_settle : MethodName := ⟨RX7, "settle", "(I)I"⟩
abbrev cX7_addPart : ByteArray := prog_1_method_33_code
def yX7_addPart : MethodName := ⟨RX7, "addPart", "(I)I"⟩
abbrev cX7_latestOf : ByteArray := prog_1_method_34_code
def yX7_latestOf : MethodName := ⟨RX7, "latestOf", "(I)I"⟩
abbrev cX7_criticalBars : ByteArray := prog_1_method_35_code
def yX7_criticalBars : MethodName := ⟨RX7, "criticalBars", "()I"⟩
abbrev cX7_undrawnArrows : ByteArray := prog_1_method_36_code
def yX7_undrawnArrows : MethodName := ⟨RX7, "undrawnArrows", "()I"⟩
abbrev cX7_crossingPoints : ByteArray := prog_1_method_37_code
def yX7_crossingPoints : MethodName := ⟨RX7, "crossingPoints", "()I"⟩
abbrev cX7_stripOf : ByteArray := prog_1_method_38_code
def yX7_stripOf : MethodName := ⟨RX7, "stripOf", "(I)I"⟩
abbrev cX7_stripsInAll : ByteArray := prog_1_method_39_code
def yX7_stripsInAll : MethodName := ⟨RX7, "stripsInAll", "()I"⟩
abbrev cX7_isLane : ByteArray := prog_1_method_40_code
def yX7_isLane : MethodName := ⟨RX7, "isLane", "(I)Z"⟩
abbrev cX7_isDay : ByteArray := prog_1_method_41_code
def yX7_isDay : MethodName := ⟨RX7, "isDay", "(I)Z"⟩
abbrev cX7_isSetting : ByteArray := prog_1_method_42_code
def yX7_isSetting : MethodName := ⟨RX7, "isSetting", "(II)Z"⟩
def RX8 : String := "BarStripsModel"
def TX8 : u_T := fun k => match k with
  | 0 => ("BarStripsModel", "s", "[I", true)
  | 1 => ("BarStripsModel", "aside", "[I", true)
  | 2 => ("BarStripsModel", "before", "[I", true)
  | 3 => ("BarStripsModel", "known", "I", false)
  | 4 => ("BarStripsModel", "kept", "[I", true)
  | 5 => ("BarStripsModel", "isKept", "Z", false)
  | 6 => ("BarStripsModel", "text", "[I", true)
  | 7 => ("BarStripsModel", "length", "I", false)
  | 8 => ("BarStripsModel", "bends", "[I", true)
  | 9 => ("BarStripsModel", "pushes", "[Z", true)
  | 10 => ("BarStripsModel", "latestDays", "[I", true)
  | 11 => ("BarStripsModel", "isReached", "[Z", true)
  | 12 => ("BarStripsModel", "place", "I", false)
  | 13 => ("BarStripsModel", "isWrong", "Z", false)
  | _ => ("BarStripsModel", "rows", "[I", true)
def tyX8 : Nat → FieldType := fun k => match k with
  | 0 => .array .int
  | 1 => .array .int
  | 2 => .array .int
  | 3 => .int
  | 4 => .array .int
  | 5 => .boolean
  | 6 => .array .int
  | 7 => .int
  | 8 => .array .int
  | 9 => .array .boolean
  | 10 => .array .int
  | 11 => .array .boolean
  | 12 => .int
  | 13 => .boolean
  | _ => .array .int
abbrev wsX80 : List Cond := u_ws RX8 TX8 15
theorem nmX8 : ∀ a, a < 15 → ∀ b, b < 15 → a ≠ b → (TX8 a).2.1 ≠ (TX8 b).2.1 := by decide +kernel
theorem tyX8_ok : ∀ k, k < 15 → parseFieldDescriptor (TX8 k).2.2.1 = some (tyX8 k) := by decide +kernel
abbrev cX8_init : ByteArray := prog_10_method_1_code
def yX8_init : MethodName := ⟨RX8, "<init>", "()V"⟩
abbrev cX8_in : ByteArray := prog_10_method_3_code
def yX8_in : MethodName := ⟨RX8, "in", "(III)Z"⟩
abbrev cX8_least : ByteArray := prog_10_method_4_code
def yX8_least : MethodName := ⟨RX8, "least", "(II)I"⟩
abbrev cX8_most : ByteArray := prog_10_method_5_code
def yX8_most : MethodName := ⟨RX8, "most", "(II)I"⟩
abbrev cX8_putAside : ByteArray := prog_10_method_6_code
def yX8_putAside : MethodName := ⟨RX8, "putAside", "()V"⟩
abbrev cX8_putBack : ByteArray := prog_10_method_7_code
def yX8_putBack : MethodName := ⟨RX8, "putBack", "()V"⟩
abbrev cX8_act : ByteArray := prog_10_method_8_code
def yX8_act : MethodName := ⟨RX8, "act", "(I)I"⟩
abbrev cX8_of : ByteArray := prog_10_method_9_code
def yX8_of : MethodName := ⟨RX8, "of", "(II)I"⟩
abbrev cX8_end : ByteArray := prog_10_method_10_code
def yX8_end : MethodName := ⟨RX8, "end", "(I)I"⟩
abbrev cX8_find : ByteArray := prog_10_method_11_code
def yX8_find : MethodName := ⟨RX8, "find", "(I)I"⟩
abbrev cX8_findArrow : ByteArray := prog_10_method_12_code
def yX8_findArrow : MethodName := ⟨RX8, "findArrow", "(I)I"⟩
abbrev cX8_from : ByteArray := prog_10_method_13_code
def yX8_from : MethodName := ⟨RX8, "from", "(I)I"⟩
abbrev cX8_to : ByteArray := prog_10_method_14_code
def yX8_to : MethodName := ⟨RX8, "to", "(I)I"⟩
abbrev cX8_within : ByteArray := prog_10_method_15_code
def yX8_within : MethodName := ⟨RX8, "within", "(IIII)I"⟩
abbrev cX8_greatestEnd : ByteArray := prog_10_method_16_code
def yX8_greatestEnd : MethodName := ⟨RX8, "greatestEnd", "()I"⟩
abbrev cX8_hasBars : ByteArray := prog_10_method_17_code
def yX8_hasBars : MethodName := ⟨RX8, "hasBars", "(I)Z"⟩
abbrev cX8_lanes : ByteArray := prog_10_method_18_code
def yX8_lanes : MethodName := ⟨RX8, "lanes", "()I"⟩
abbrev cX8_lateBy : ByteArray := prog_10_method_19_code
def yX8_lateBy : MethodName := ⟨RX8, "lateBy", "(I)I"⟩
abbrev cX8_isBetween : ByteArray := prog_10_method_20_code
def yX8_isBetween : MethodName := ⟨RX8, "isBetween", "(III)Z"⟩
abbrev cX8_reasonFor : ByteArray := prog_10_method_21_code
def yX8_reasonFor : MethodName := ⟨RX8, "reasonFor", "(II)I"⟩
abbrev cX8_freeBends : ByteArray := prog_10_method_22_code
def yX8_freeBends : MethodName := ⟨RX8, "freeBends", "(I)I"⟩
abbrev cX8_worth : ByteArray := prog_10_method_23_code
def yX8_worth : MethodName := ⟨RX8, "worth", "(II)I"⟩
abbrev cX8_bend : ByteArray := prog_10_method_24_code
def yX8_bend : MethodName := ⟨RX8, "bend", "(I)I"⟩
abbrev cX8_layBends : ByteArray := prog_10_method_25_code
def yX8_layBends : MethodName := ⟨RX8, "layBends", "()V"⟩
abbrev cX8_goesAlong : ByteArray := prog_10_method_26_code
def yX8_goesAlong : MethodName := ⟨RX8, "goesAlong", "(III)Z"⟩
abbrev cX8_points : ByteArray := prog_10_method_27_code
def yX8_points : MethodName := ⟨RX8, "points", "(II)I"⟩
abbrev cX8_allPoints : ByteArray := prog_10_method_28_code
def yX8_allPoints : MethodName := ⟨RX8, "allPoints", "()I"⟩
abbrev cX8_pointsOf : ByteArray := prog_10_method_29_code
def yX8_pointsOf : MethodName := ⟨RX8, "pointsOf", "(I)I"⟩
abbrev cX8_arrowsThat : ByteArray := prog_10_method_30_code
def yX8_arrowsThat : MethodName := ⟨RX8, "arrowsThat", "(Z)I"⟩
abbrev cX8_notDrawn : ByteArray := prog_10_method_31_code
def yX8_notDrawn : MethodName := ⟨RX8, "notDrawn", "()I"⟩
abbrev cX8_widthOf : ByteArray := prog_10_method_32_code
def yX8_widthOf : MethodName := ⟨RX8, "widthOf", "(II)I"⟩
abbrev cX8_stripEnd : ByteArray := prog_10_method_33_code
def yX8_stripEnd : MethodName := ⟨RX8, "stripEnd", "(I)I"⟩
abbrev cX8_stripStart : ByteArray := prog_10_method_34_code
def yX8_stripStart : MethodName := ⟨RX8, "stripStart", "(I)I"⟩
abbrev cX8_stripOf : ByteArray := prog_10_method_35_code
def yX8_stripOf : MethodName := ⟨RX8, "stripOf", "(I)I"⟩
abbrev cX8_strips : ByteArray := prog_10_method_36_code
def yX8_strips : MethodName := ⟨RX8, "strips", "()I"⟩
abbrev cX8_layPushes : ByteArray := prog_10_method_37_code
def yX8_layPushes : MethodName := ⟨RX8, "layPushes", "()V"⟩
abbrev cX8_slips : ByteArray := prog_10_method_38_code
def yX8_slips : MethodName := ⟨RX8, "slips", "(II)I"⟩
abbrev cX8_layLatest : ByteArray := prog_10_method_39_code
def yX8_layLatest : MethodName := ⟨RX8, "layLatest", "()V"⟩
abbrev cX8_slack : ByteArray := prog_10_method_40_code
def yX8_slack : MethodName := ⟨RX8, "slack", "(I)I"⟩
abbrev cX8_critical : ByteArray := prog_10_method_41_code
def yX8_critical : MethodName := ⟨RX8, "critical", "()I"⟩
abbrev cX8_isLane : ByteArray := prog_10_method_42_code
def yX8_isLane : MethodName := ⟨RX8, "isLane", "(I)Z"⟩
abbrev cX8_addsBar : ByteArray := prog_10_method_43_code
def yX8_addsBar : MethodName := ⟨RX8, "addsBar", "(III)I"⟩
abbrev cX8_leads : ByteArray := prog_10_method_44_code
def yX8_leads : MethodName := ⟨RX8, "leads", "(II)Z"⟩
abbrev cX8_hasArrow : ByteArray := prog_10_method_45_code
def yX8_hasArrow : MethodName := ⟨RX8, "hasArrow", "(II)Z"⟩
abbrev cX8_addsArrow : ByteArray := prog_10_method_46_code
def yX8_addsArrow : MethodName := ⟨RX8, "addsArrow", "(II)I"⟩
abbrev cX8_dropArrow : ByteArray := prog_10_method_47_code
def yX8_dropArrow : MethodName := ⟨RX8, "dropArrow", "(I)V"⟩
abbrev cX8_takesBar : ByteArray := prog_10_method_48_code
def yX8_takesBar : MethodName := ⟨RX8, "takesBar", "(I)I"⟩
abbrev cX8_takesArrow : ByteArray := prog_10_method_49_code
def yX8_takesArrow : MethodName := ⟨RX8, "takesArrow", "(I)I"⟩
abbrev cX8_moves : ByteArray := prog_10_method_50_code
def yX8_moves : MethodName := ⟨RX8, "moves", "(III)I"⟩
abbrev cX8_swapLanes : ByteArray := prog_10_method_51_code
def yX8_swapLanes : MethodName := ⟨RX8, "swapLanes", "(II)V"⟩
abbrev cX8_swaps : ByteArray := prog_10_method_52_code
def yX8_swaps : MethodName := ⟨RX8, "swaps", "(II)I"⟩
abbrev cX8_nextByDay : ByteArray := prog_10_method_53_code
def yX8_nextByDay : MethodName := ⟨RX8, "nextByDay", "(I)I"⟩
abbrev cX8_packs : ByteArray := prog_10_method_54_code
def yX8_packs : MethodName := ⟨RX8, "packs", "()I"⟩
abbrev cX8_slipsBy : ByteArray := prog_10_method_55_code
def yX8_slipsBy : MethodName := ⟨RX8, "slipsBy", "(II)I"⟩
abbrev cX8_pulls : ByteArray := prog_10_method_56_code
def yX8_pulls : MethodName := ⟨RX8, "pulls", "(I)I"⟩
abbrev cX8_widens : ByteArray := prog_10_method_57_code
def yX8_widens : MethodName := ⟨RX8, "widens", "(III)I"⟩
abbrev cX8_sets : ByteArray := prog_10_method_58_code
def yX8_sets : MethodName := ⟨RX8, "sets", "(II)I"⟩
abbrev cX8_bar : ByteArray := prog_10_method_59_code
def yX8_bar : MethodName := ⟨RX8, "bar", "(III)I"⟩
abbrev cX8_arrow : ByteArray := prog_10_method_60_code
def yX8_arrow : MethodName := ⟨RX8, "arrow", "(II)I"⟩
abbrev cX8_takeBar : ByteArray := prog_10_method_61_code
def yX8_takeBar : MethodName := ⟨RX8, "takeBar", "(I)I"⟩
abbrev cX8_takeArrow : ByteArray := prog_10_method_62_code
def yX8_takeArrow : MethodName := ⟨RX8, "takeArrow", "(I)I"⟩
abbrev cX8_move : ByteArray := prog_10_method_63_code
def yX8_move : MethodName := ⟨RX8, "move", "(III)I"⟩
abbrev cX8_swap : ByteArray := prog_10_method_64_code
def yX8_swap : MethodName := ⟨RX8, "swap", "(II)I"⟩
abbrev cX8_pack : ByteArray := prog_10_method_65_code
def yX8_pack : MethodName := ⟨RX8, "pack", "()I"⟩
abbrev cX8_slip : ByteArray := prog_10_method_66_code
def yX8_slip : MethodName := ⟨RX8, "slip", "(II)I"⟩
abbrev cX8_pull : ByteArray := prog_10_method_67_code
def yX8_pull : MethodName := ⟨RX8, "pull", "(I)I"⟩
abbrev cX8_width : ByteArray := prog_10_method_68_code
def yX8_width : MethodName := ⟨RX8, "width", "(III)I"⟩
abbrev cX8_set : ByteArray := prog_10_method_69_code
def yX8_set : MethodName := ⟨RX8, "set", "(II)I"⟩
abbrev cX8_type : ByteArray := prog_10_method_70_code
def yX8_type : MethodName := ⟨RX8, "type", "(C)I"⟩
abbrev cX8_clearText : ByteArray := prog_10_method_71_code
def yX8_clearText : MethodName := ⟨RX8, "clearText", "()I"⟩
abbrev cX8_sign : ByteArray := prog_10_method_72_code
def yX8_sign : MethodName := ⟨RX8, "sign", "(II)I"⟩
abbrev cX8_isNext : ByteArray := prog_10_method_73_code
def yX8_isNext : MethodName := ⟨RX8, "isNext", "(I)Z"⟩
abbrev cX8_number : ByteArray := prog_10_method_74_code
def yX8_number : MethodName := ⟨RX8, "number", "(II)I"⟩
abbrev cX8_part : ByteArray := prog_10_method_75_code
def yX8_part : MethodName := ⟨RX8, "part", "(Z)I"⟩
abbrev cX8_go : ByteArray := prog_10_method_76_code
def yX8_go : MethodName := ⟨RX8, "go", "(Z)I"⟩
abbrev cX8_fault : ByteArray := prog_10_method_77_code
def yX8_fault : MethodName := ⟨RX8, "fault", "()I"⟩
abbrev cX8_addAll : ByteArray := prog_10_method_78_code
def yX8_addAll : MethodName := ⟨RX8, "addAll", "()I"⟩
abbrev cX8_undo : ByteArray := prog_10_method_79_code
def yX8_undo : MethodName := ⟨RX8, "undo", "()I"⟩
abbrev cX8_keep : ByteArray := prog_10_method_80_code
def yX8_keep : MethodName := ⟨RX8, "keep", "()I"⟩
abbrev cX8_restore : ByteArray := prog_10_method_81_code
def yX8_restore : MethodName := ⟨RX8, "restore", "()I"⟩
abbrev cX8_arrowsAt : ByteArray := prog_10_method_82_code
def yX8_arrowsAt : MethodName := ⟨RX8, "arrowsAt", "(II)I"⟩
abbrev cX8_behind : ByteArray := prog_10_method_83_code
def yX8_behind : MethodName := ⟨RX8, "behind", "(I)I"⟩
abbrev cX8_barOf : ByteArray := prog_10_method_84_code
def yX8_barOf : MethodName := ⟨RX8, "barOf", "(II)I"⟩
abbrev cX8_arrowOf : ByteArray := prog_10_method_85_code
def yX8_arrowOf : MethodName := ⟨RX8, "arrowOf", "(II)I"⟩
abbrev cX8_reason : ByteArray := prog_10_method_86_code
def yX8_reason : MethodName := ⟨RX8, "reason", "(II)I"⟩
abbrev cX8_cell : ByteArray := prog_10_method_87_code
def yX8_cell : MethodName := ⟨RX8, "cell", "(II)I"⟩
abbrev cX8_strip : ByteArray := prog_10_method_88_code
def yX8_strip : MethodName := ⟨RX8, "strip", "(II)I"⟩
abbrev cX8_count : ByteArray := prog_10_method_89_code
def yX8_count : MethodName := ⟨RX8, "count", "(I)I"⟩
abbrev cX8_latest : ByteArray := prog_10_method_90_code
def yX8_latest : MethodName := ⟨RX8, "latest", "(I)I"⟩
abbrev cX8_longest : ByteArray := prog_10_method_91_code
def yX8_longest : MethodName := ⟨RX8, "longest", "()I"⟩
abbrev cX8_share : ByteArray := prog_10_method_92_code
def yX8_share : MethodName := ⟨RX8, "share", "()D"⟩
abbrev cX8_ifSlipped : ByteArray := prog_10_method_93_code
def yX8_ifSlipped : MethodName := ⟨RX8, "ifSlipped", "(II)I"⟩
abbrev cX8_bestSwap : ByteArray := prog_10_method_94_code
def yX8_bestSwap : MethodName := ⟨RX8, "bestSwap", "(I)I"⟩
abbrev cX8_bestLane : ByteArray := prog_10_method_95_code
def yX8_bestLane : MethodName := ⟨RX8, "bestLane", "(I)I"⟩
def RJ9 : String := "java/lang/Math"
def TJ9 : u_T := fun k => match k with
  | _ => ("", "", "", false)
def tyJ9 : Nat → FieldType := fun k => match k with
  | _ => .int
abbrev wsJ90 : List Cond := u_ws RJ9 TJ9 0
theorem nmJ9 : ∀ a, a < 0 → ∀ b, b < 0 → a ≠ b → (TJ9 a).2.1 ≠ (TJ9 b).2.1 := by decide +kernel
theorem tyJ9_ok : ∀ k, k < 0 → parseFieldDescriptor (TJ9 k).2.2.1 = some (tyJ9 k) := by decide +kernel
abbrev cJ9_abs_0f7a4 : ByteArray := prog_11_method_59_code
def yJ9_abs_0f7a4 : MethodName := ⟨RJ9, "abs", "(I)I"⟩
abbrev cJ9_max_7cf53 : ByteArray := prog_11_method_65_code
def yJ9_max_7cf53 : MethodName := ⟨RJ9, "max", "(II)I"⟩
abbrev cJ9_min_7cf53 : ByteArray := prog_11_method_69_code
def yJ9_min_7cf53 : MethodName := ⟨RJ9, "min", "(II)I"⟩
def RJ10 : String := "java/lang/System"
def TJ10 : u_T := fun k => match k with
  | _ => ("", "", "", false)
def tyJ10 : Nat → FieldType := fun k => match k with
  | _ => .int
abbrev wsJ100 : List Cond := u_ws RJ10 TJ10 0
theorem nmJ10 : ∀ a, a < 0 → ∀ b, b < 0 → a ≠ b → (TJ10 a).2.1 ≠ (TJ10 b).2.1 := by decide +kernel
theorem tyJ10_ok : ∀ k, k < 0 → parseFieldDescriptor (TJ10 k).2.2.1 = some (tyJ10 k) := by decide +kernel
def RJ7 : String := "java/util/Arrays"
def TJ7 : u_T := fun k => match k with
  | _ => ("", "", "", false)
def tyJ7 : Nat → FieldType := fun k => match k with
  | _ => .int
abbrev wsJ70 : List Cond := u_ws RJ7 TJ7 0
theorem nmJ7 : ∀ a, a < 0 → ∀ b, b < 0 → a ≠ b → (TJ7 a).2.1 ≠ (TJ7 b).2.1 := by decide +kernel
theorem tyJ7_ok : ∀ k, k < 0 → parseFieldDescriptor (TJ7 k).2.2.1 = some (tyJ7 k) := by decide +kernel
abbrev cJ7_fill_53178 : ByteArray := prog_13_method_103_code
def yJ7_fill_53178 : MethodName := ⟨RJ7, "fill", "([II)V"⟩
def RL : String := "BarStripsLaw"
abbrev cL_law : ByteArray := code
def yL_law : MethodName := ⟨RL, "law", "([I)Z"⟩
abbrev vwCl : List vw_C := [(RX0, TX0, 14), (RX1, TX1, 2), (RX2, TX2, 3), (RX3, TX3, 3), (RX4, TX4, 9), (RX5, TX5, 3), (RX6, TX6, 4), (RX7, TX7, 10), (RX8, TX8, 15)]
end
section
theorem dX0_init_0 : decode cX0_init 0 = .ok (.aload_n 0, 1) := by decide +kernel
theorem dX0_init_1 : decode cX0_init 1 = .ok (.invokespecial 3, 3) := by decide +kernel
theorem dX0_init_4 : decode cX0_init 4 = .ok (.aload_n 0, 1) := by decide +kernel
theorem dX0_init_5 : decode cX0_init 5 = .ok (.bipush 30, 2) := by decide +kernel
theorem dX0_init_7 : decode cX0_init 7 = .ok (.newarray .int, 2) := by decide +kernel
theorem dX0_init_9 : decode cX0_init 9 = .ok (.putfield 9, 3) := by decide +kernel
theorem dX0_init_12 : decode cX0_init 12 = .ok (.aload_n 0, 1) := by decide +kernel
theorem dX0_init_13 : decode cX0_init 13 = .ok (.bipush 30, 2) := by decide +kernel
theorem dX0_init_15 : decode cX0_init 15 = .ok (.newarray .int, 2) := by decide +kernel
theorem dX0_init_17 : decode cX0_init 17 = .ok (.putfield 15, 3) := by decide +kernel
theorem dX0_init_20 : decode cX0_init 20 = .ok (.aload_n 0, 1) := by decide +kernel
theorem dX0_init_21 : decode cX0_init 21 = .ok (.bipush 30, 2) := by decide +kernel
theorem dX0_init_23 : decode cX0_init 23 = .ok (.newarray .int, 2) := by decide +kernel
theorem dX0_init_25 : decode cX0_init 25 = .ok (.putfield 18, 3) := by decide +kernel
theorem dX0_init_28 : decode cX0_init 28 = .ok (.aload_n 0, 1) := by decide +kernel
theorem dX0_init_29 : decode cX0_init 29 = .ok (.bipush 30, 2) := by decide +kernel
theorem dX0_init_31 : decode cX0_init 31 = .ok (.newarray .int, 2) := by decide +kernel
theorem dX0_init_33 : decode cX0_init 33 = .ok (.putfield 21, 3) := by decide +kernel
theorem dX0_init_36 : decode cX0_init 36 = .ok (.aload_n 0, 1) := by decide +kernel
theorem dX0_init_37 : decode cX0_init 37 = .ok (.bipush 40, 2) := by decide +kernel
theorem dX0_init_39 : decode cX0_init 39 = .ok (.newarray .int, 2) := by decide +kernel
theorem dX0_init_41 : decode cX0_init 41 = .ok (.putfield 24, 3) := by decide +kernel
theorem dX0_init_44 : decode cX0_init 44 = .ok (.aload_n 0, 1) := by decide +kernel
theorem dX0_init_45 : decode cX0_init 45 = .ok (.bipush 40, 2) := by decide +kernel
theorem dX0_init_47 : decode cX0_init 47 = .ok (.newarray .int, 2) := by decide +kernel
theorem dX0_init_49 : decode cX0_init 49 = .ok (.putfield 27, 3) := by decide +kernel
theorem dX0_init_52 : decode cX0_init 52 = .ok (.aload_n 0, 1) := by decide +kernel
theorem dX0_init_53 : decode cX0_init 53 = .ok (.bipush 40, 2) := by decide +kernel
theorem dX0_init_55 : decode cX0_init 55 = .ok (.newarray .int, 2) := by decide +kernel
theorem dX0_init_57 : decode cX0_init 57 = .ok (.putfield 30, 3) := by decide +kernel
theorem dX0_init_60 : decode cX0_init 60 = .ok (.aload_n 0, 1) := by decide +kernel
theorem dX0_init_61 : decode cX0_init 61 = .ok (.sipush 200, 3) := by decide +kernel
theorem dX0_init_64 : decode cX0_init 64 = .ok (.newarray .int, 2) := by decide +kernel
theorem dX0_init_66 : decode cX0_init 66 = .ok (.putfield 33, 3) := by decide +kernel
theorem dX0_init_69 : decode cX0_init 69 = .ok (.aload_n 0, 1) := by decide +kernel
theorem dX0_init_70 : decode cX0_init 70 = .ok (.iconst 2, 1) := by decide +kernel
theorem dX0_init_71 : decode cX0_init 71 = .ok (.newarray .int, 2) := by decide +kernel
theorem dX0_init_73 : decode cX0_init 73 = .ok (.putfield 36, 3) := by decide +kernel
theorem dX0_init_76 : decode cX0_init 76 = .ok (.aload_n 0, 1) := by decide +kernel
theorem dX0_init_77 : decode cX0_init 77 = .ok (.getfield 33, 3) := by decide +kernel
theorem dX0_init_80 : decode cX0_init 80 = .ok (.iconst 2, 1) := by decide +kernel
theorem dX0_init_81 : decode cX0_init 81 = .ok (.invokestatic 39, 3) := by decide +kernel
theorem dX0_init_84 : decode cX0_init 84 = .ok (.aload_n 0, 1) := by decide +kernel
theorem dX0_init_85 : decode cX0_init 85 = .ok (.getfield 36, 3) := by decide +kernel
theorem dX0_init_88 : decode cX0_init 88 = .ok (.iconst 0, 1) := by decide +kernel
theorem dX0_init_89 : decode cX0_init 89 = .ok (.iconst 0, 1) := by decide +kernel
theorem dX0_init_90 : decode cX0_init 90 = .ok (.iastore, 1) := by decide +kernel
theorem dX0_init_91 : decode cX0_init 91 = .ok (.aload_n 0, 1) := by decide +kernel
theorem dX0_init_92 : decode cX0_init 92 = .ok (.getfield 36, 3) := by decide +kernel
theorem dX0_init_95 : decode cX0_init 95 = .ok (.iconst 1, 1) := by decide +kernel
theorem dX0_init_96 : decode cX0_init 96 = .ok (.bipush 60, 2) := by decide +kernel
theorem dX0_init_98 : decode cX0_init 98 = .ok (.iastore, 1) := by decide +kernel
theorem dX0_init_99 : decode cX0_init 99 = .ok (.return_, 1) := by decide +kernel
theorem dX0_copyFrom_0 : decode cX0_copyFrom 0 = .ok (.aload_n 0, 1) := by decide +kernel
theorem dX0_copyFrom_1 : decode cX0_copyFrom 1 = .ok (.aload_n 1, 1) := by decide +kernel
theorem dX0_copyFrom_2 : decode cX0_copyFrom 2 = .ok (.getfield 45, 3) := by decide +kernel
theorem dX0_copyFrom_5 : decode cX0_copyFrom 5 = .ok (.putfield 45, 3) := by decide +kernel
theorem dX0_copyFrom_8 : decode cX0_copyFrom 8 = .ok (.aload_n 0, 1) := by decide +kernel
theorem dX0_copyFrom_9 : decode cX0_copyFrom 9 = .ok (.aload_n 1, 1) := by decide +kernel
theorem dX0_copyFrom_10 : decode cX0_copyFrom 10 = .ok (.getfield 49, 3) := by decide +kernel
theorem dX0_copyFrom_13 : decode cX0_copyFrom 13 = .ok (.putfield 49, 3) := by decide +kernel
theorem dX0_copyFrom_16 : decode cX0_copyFrom 16 = .ok (.aload_n 1, 1) := by decide +kernel
theorem dX0_copyFrom_17 : decode cX0_copyFrom 17 = .ok (.getfield 9, 3) := by decide +kernel
theorem dX0_copyFrom_20 : decode cX0_copyFrom 20 = .ok (.iconst 0, 1) := by decide +kernel
theorem dX0_copyFrom_21 : decode cX0_copyFrom 21 = .ok (.aload_n 0, 1) := by decide +kernel
theorem dX0_copyFrom_22 : decode cX0_copyFrom 22 = .ok (.getfield 9, 3) := by decide +kernel
theorem dX0_copyFrom_25 : decode cX0_copyFrom 25 = .ok (.iconst 0, 1) := by decide +kernel
theorem dX0_copyFrom_26 : decode cX0_copyFrom 26 = .ok (.bipush 30, 2) := by decide +kernel
theorem dX0_copyFrom_28 : decode cX0_copyFrom 28 = .ok (.invokestatic 52, 3) := by decide +kernel
theorem dX0_copyFrom_31 : decode cX0_copyFrom 31 = .ok (.aload_n 1, 1) := by decide +kernel
theorem dX0_copyFrom_32 : decode cX0_copyFrom 32 = .ok (.getfield 15, 3) := by decide +kernel
theorem dX0_copyFrom_35 : decode cX0_copyFrom 35 = .ok (.iconst 0, 1) := by decide +kernel
theorem dX0_copyFrom_36 : decode cX0_copyFrom 36 = .ok (.aload_n 0, 1) := by decide +kernel
theorem dX0_copyFrom_37 : decode cX0_copyFrom 37 = .ok (.getfield 15, 3) := by decide +kernel
theorem dX0_copyFrom_40 : decode cX0_copyFrom 40 = .ok (.iconst 0, 1) := by decide +kernel
theorem dX0_copyFrom_41 : decode cX0_copyFrom 41 = .ok (.bipush 30, 2) := by decide +kernel
theorem dX0_copyFrom_43 : decode cX0_copyFrom 43 = .ok (.invokestatic 52, 3) := by decide +kernel
theorem dX0_copyFrom_46 : decode cX0_copyFrom 46 = .ok (.aload_n 1, 1) := by decide +kernel
theorem dX0_copyFrom_47 : decode cX0_copyFrom 47 = .ok (.getfield 18, 3) := by decide +kernel
theorem dX0_copyFrom_50 : decode cX0_copyFrom 50 = .ok (.iconst 0, 1) := by decide +kernel
theorem dX0_copyFrom_51 : decode cX0_copyFrom 51 = .ok (.aload_n 0, 1) := by decide +kernel
theorem dX0_copyFrom_52 : decode cX0_copyFrom 52 = .ok (.getfield 18, 3) := by decide +kernel
theorem dX0_copyFrom_55 : decode cX0_copyFrom 55 = .ok (.iconst 0, 1) := by decide +kernel
theorem dX0_copyFrom_56 : decode cX0_copyFrom 56 = .ok (.bipush 30, 2) := by decide +kernel
theorem dX0_copyFrom_58 : decode cX0_copyFrom 58 = .ok (.invokestatic 52, 3) := by decide +kernel
theorem dX0_copyFrom_61 : decode cX0_copyFrom 61 = .ok (.aload_n 1, 1) := by decide +kernel
theorem dX0_copyFrom_62 : decode cX0_copyFrom 62 = .ok (.getfield 21, 3) := by decide +kernel
theorem dX0_copyFrom_65 : decode cX0_copyFrom 65 = .ok (.iconst 0, 1) := by decide +kernel
theorem dX0_copyFrom_66 : decode cX0_copyFrom 66 = .ok (.aload_n 0, 1) := by decide +kernel
theorem dX0_copyFrom_67 : decode cX0_copyFrom 67 = .ok (.getfield 21, 3) := by decide +kernel
theorem dX0_copyFrom_70 : decode cX0_copyFrom 70 = .ok (.iconst 0, 1) := by decide +kernel
theorem dX0_copyFrom_71 : decode cX0_copyFrom 71 = .ok (.bipush 30, 2) := by decide +kernel
theorem dX0_copyFrom_73 : decode cX0_copyFrom 73 = .ok (.invokestatic 52, 3) := by decide +kernel
theorem dX0_copyFrom_76 : decode cX0_copyFrom 76 = .ok (.aload_n 0, 1) := by decide +kernel
theorem dX0_copyFrom_77 : decode cX0_copyFrom 77 = .ok (.aload_n 1, 1) := by decide +kernel
theorem dX0_copyFrom_78 : decode cX0_copyFrom 78 = .ok (.getfield 58, 3) := by decide +kernel
theorem dX0_copyFrom_81 : decode cX0_copyFrom 81 = .ok (.putfield 58, 3) := by decide +kernel
theorem dX0_copyFrom_84 : decode cX0_copyFrom 84 = .ok (.aload_n 0, 1) := by decide +kernel
theorem dX0_copyFrom_85 : decode cX0_copyFrom 85 = .ok (.aload_n 1, 1) := by decide +kernel
theorem dX0_copyFrom_86 : decode cX0_copyFrom 86 = .ok (.getfield 61, 3) := by decide +kernel
theorem dX0_copyFrom_89 : decode cX0_copyFrom 89 = .ok (.putfield 61, 3) := by decide +kernel
theorem dX0_copyFrom_92 : decode cX0_copyFrom 92 = .ok (.aload_n 1, 1) := by decide +kernel
theorem dX0_copyFrom_93 : decode cX0_copyFrom 93 = .ok (.getfield 24, 3) := by decide +kernel
theorem dX0_copyFrom_96 : decode cX0_copyFrom 96 = .ok (.iconst 0, 1) := by decide +kernel
theorem dX0_copyFrom_97 : decode cX0_copyFrom 97 = .ok (.aload_n 0, 1) := by decide +kernel
theorem dX0_copyFrom_98 : decode cX0_copyFrom 98 = .ok (.getfield 24, 3) := by decide +kernel
theorem dX0_copyFrom_101 : decode cX0_copyFrom 101 = .ok (.iconst 0, 1) := by decide +kernel
theorem dX0_copyFrom_102 : decode cX0_copyFrom 102 = .ok (.bipush 40, 2) := by decide +kernel
theorem dX0_copyFrom_104 : decode cX0_copyFrom 104 = .ok (.invokestatic 52, 3) := by decide +kernel
theorem dX0_copyFrom_107 : decode cX0_copyFrom 107 = .ok (.aload_n 1, 1) := by decide +kernel
theorem dX0_copyFrom_108 : decode cX0_copyFrom 108 = .ok (.getfield 27, 3) := by decide +kernel
theorem dX0_copyFrom_111 : decode cX0_copyFrom 111 = .ok (.iconst 0, 1) := by decide +kernel
theorem dX0_copyFrom_112 : decode cX0_copyFrom 112 = .ok (.aload_n 0, 1) := by decide +kernel
theorem dX0_copyFrom_113 : decode cX0_copyFrom 113 = .ok (.getfield 27, 3) := by decide +kernel
theorem dX0_copyFrom_116 : decode cX0_copyFrom 116 = .ok (.iconst 0, 1) := by decide +kernel
theorem dX0_copyFrom_117 : decode cX0_copyFrom 117 = .ok (.bipush 40, 2) := by decide +kernel
theorem dX0_copyFrom_119 : decode cX0_copyFrom 119 = .ok (.invokestatic 52, 3) := by decide +kernel
theorem dX0_copyFrom_122 : decode cX0_copyFrom 122 = .ok (.aload_n 1, 1) := by decide +kernel
theorem dX0_copyFrom_123 : decode cX0_copyFrom 123 = .ok (.getfield 30, 3) := by decide +kernel
theorem dX0_copyFrom_126 : decode cX0_copyFrom 126 = .ok (.iconst 0, 1) := by decide +kernel
theorem dX0_copyFrom_127 : decode cX0_copyFrom 127 = .ok (.aload_n 0, 1) := by decide +kernel
theorem dX0_copyFrom_128 : decode cX0_copyFrom 128 = .ok (.getfield 30, 3) := by decide +kernel
theorem dX0_copyFrom_131 : decode cX0_copyFrom 131 = .ok (.iconst 0, 1) := by decide +kernel
theorem dX0_copyFrom_132 : decode cX0_copyFrom 132 = .ok (.bipush 40, 2) := by decide +kernel
theorem dX0_copyFrom_134 : decode cX0_copyFrom 134 = .ok (.invokestatic 52, 3) := by decide +kernel
theorem dX0_copyFrom_137 : decode cX0_copyFrom 137 = .ok (.aload_n 1, 1) := by decide +kernel
theorem dX0_copyFrom_138 : decode cX0_copyFrom 138 = .ok (.getfield 33, 3) := by decide +kernel
theorem dX0_copyFrom_141 : decode cX0_copyFrom 141 = .ok (.iconst 0, 1) := by decide +kernel
theorem dX0_copyFrom_142 : decode cX0_copyFrom 142 = .ok (.aload_n 0, 1) := by decide +kernel
theorem dX0_copyFrom_143 : decode cX0_copyFrom 143 = .ok (.getfield 33, 3) := by decide +kernel
theorem dX0_copyFrom_146 : decode cX0_copyFrom 146 = .ok (.iconst 0, 1) := by decide +kernel
theorem dX0_copyFrom_147 : decode cX0_copyFrom 147 = .ok (.sipush 200, 3) := by decide +kernel
theorem dX0_copyFrom_150 : decode cX0_copyFrom 150 = .ok (.invokestatic 52, 3) := by decide +kernel
theorem dX0_copyFrom_153 : decode cX0_copyFrom 153 = .ok (.aload_n 1, 1) := by decide +kernel
theorem dX0_copyFrom_154 : decode cX0_copyFrom 154 = .ok (.getfield 36, 3) := by decide +kernel
theorem dX0_copyFrom_157 : decode cX0_copyFrom 157 = .ok (.iconst 0, 1) := by decide +kernel
theorem dX0_copyFrom_158 : decode cX0_copyFrom 158 = .ok (.aload_n 0, 1) := by decide +kernel
theorem dX0_copyFrom_159 : decode cX0_copyFrom 159 = .ok (.getfield 36, 3) := by decide +kernel
theorem dX0_copyFrom_162 : decode cX0_copyFrom 162 = .ok (.iconst 0, 1) := by decide +kernel
theorem dX0_copyFrom_163 : decode cX0_copyFrom 163 = .ok (.iconst 2, 1) := by decide +kernel
theorem dX0_copyFrom_164 : decode cX0_copyFrom 164 = .ok (.invokestatic 52, 3) := by decide +kernel
theorem dX0_copyFrom_167 : decode cX0_copyFrom 167 = .ok (.aload_n 0, 1) := by decide +kernel
theorem dX0_copyFrom_168 : decode cX0_copyFrom 168 = .ok (.aload_n 1, 1) := by decide +kernel
theorem dX0_copyFrom_169 : decode cX0_copyFrom 169 = .ok (.getfield 64, 3) := by decide +kernel
theorem dX0_copyFrom_172 : decode cX0_copyFrom 172 = .ok (.putfield 64, 3) := by decide +kernel
theorem dX0_copyFrom_175 : decode cX0_copyFrom 175 = .ok (.return_, 1) := by decide +kernel
theorem dX0_slotOf_0 : decode cX0_slotOf 0 = .ok (.iconst 0, 1) := by decide +kernel
theorem dX0_slotOf_1 : decode cX0_slotOf 1 = .ok (.istore_n 2, 1) := by decide +kernel
theorem dX0_slotOf_2 : decode cX0_slotOf 2 = .ok (.iload_n 2, 1) := by decide +kernel
theorem dX0_slotOf_3 : decode cX0_slotOf 3 = .ok (.aload_n 0, 1) := by decide +kernel
theorem dX0_slotOf_4 : decode cX0_slotOf 4 = .ok (.getfield 45, 3) := by decide +kernel
theorem dX0_slotOf_7 : decode cX0_slotOf 7 = .ok (.if_icmp .ge 21, 3) := by decide +kernel
theorem dX0_slotOf_10 : decode cX0_slotOf 10 = .ok (.aload_n 0, 1) := by decide +kernel
theorem dX0_slotOf_11 : decode cX0_slotOf 11 = .ok (.getfield 9, 3) := by decide +kernel
theorem dX0_slotOf_14 : decode cX0_slotOf 14 = .ok (.iload_n 2, 1) := by decide +kernel
theorem dX0_slotOf_15 : decode cX0_slotOf 15 = .ok (.iaload, 1) := by decide +kernel
theorem dX0_slotOf_16 : decode cX0_slotOf 16 = .ok (.iload_n 1, 1) := by decide +kernel
theorem dX0_slotOf_17 : decode cX0_slotOf 17 = .ok (.if_icmp .ne 5, 3) := by decide +kernel
theorem dX0_slotOf_20 : decode cX0_slotOf 20 = .ok (.iload_n 2, 1) := by decide +kernel
theorem dX0_slotOf_21 : decode cX0_slotOf 21 = .ok (.ireturn, 1) := by decide +kernel
theorem dX0_slotOf_22 : decode cX0_slotOf 22 = .ok (.iinc 2 1, 3) := by decide +kernel
theorem dX0_slotOf_25 : decode cX0_slotOf 25 = .ok (.goto (-23), 3) := by decide +kernel
theorem dX0_slotOf_28 : decode cX0_slotOf 28 = .ok (.iconst (-1), 1) := by decide +kernel
theorem dX0_slotOf_29 : decode cX0_slotOf 29 = .ok (.ireturn, 1) := by decide +kernel
theorem dX0_arrowSlotOf_0 : decode cX0_arrowSlotOf 0 = .ok (.iconst 0, 1) := by decide +kernel
theorem dX0_arrowSlotOf_1 : decode cX0_arrowSlotOf 1 = .ok (.istore_n 2, 1) := by decide +kernel
theorem dX0_arrowSlotOf_2 : decode cX0_arrowSlotOf 2 = .ok (.iload_n 2, 1) := by decide +kernel
theorem dX0_arrowSlotOf_3 : decode cX0_arrowSlotOf 3 = .ok (.aload_n 0, 1) := by decide +kernel
theorem dX0_arrowSlotOf_4 : decode cX0_arrowSlotOf 4 = .ok (.getfield 58, 3) := by decide +kernel
theorem dX0_arrowSlotOf_7 : decode cX0_arrowSlotOf 7 = .ok (.if_icmp .ge 21, 3) := by decide +kernel
theorem dX0_arrowSlotOf_10 : decode cX0_arrowSlotOf 10 = .ok (.aload_n 0, 1) := by decide +kernel
theorem dX0_arrowSlotOf_11 : decode cX0_arrowSlotOf 11 = .ok (.getfield 24, 3) := by decide +kernel
theorem dX0_arrowSlotOf_14 : decode cX0_arrowSlotOf 14 = .ok (.iload_n 2, 1) := by decide +kernel
theorem dX0_arrowSlotOf_15 : decode cX0_arrowSlotOf 15 = .ok (.iaload, 1) := by decide +kernel
theorem dX0_arrowSlotOf_16 : decode cX0_arrowSlotOf 16 = .ok (.iload_n 1, 1) := by decide +kernel
theorem dX0_arrowSlotOf_17 : decode cX0_arrowSlotOf 17 = .ok (.if_icmp .ne 5, 3) := by decide +kernel
theorem dX0_arrowSlotOf_20 : decode cX0_arrowSlotOf 20 = .ok (.iload_n 2, 1) := by decide +kernel
theorem dX0_arrowSlotOf_21 : decode cX0_arrowSlotOf 21 = .ok (.ireturn, 1) := by decide +kernel
theorem dX0_arrowSlotOf_22 : decode cX0_arrowSlotOf 22 = .ok (.iinc 2 1, 3) := by decide +kernel
theorem dX0_arrowSlotOf_25 : decode cX0_arrowSlotOf 25 = .ok (.goto (-23), 3) := by decide +kernel
theorem dX0_arrowSlotOf_28 : decode cX0_arrowSlotOf 28 = .ok (.iconst (-1), 1) := by decide +kernel
theorem dX0_arrowSlotOf_29 : decode cX0_arrowSlotOf 29 = .ok (.ireturn, 1) := by decide +kernel
theorem dX0_addBar_0 : decode cX0_addBar 0 = .ok (.iload_n 1, 1) := by decide +kernel
theorem dX0_addBar_1 : decode cX0_addBar 1 = .ok (.invokestatic 67, 3) := by decide +kernel
theorem dX0_addBar_4 : decode cX0_addBar 4 = .ok (.ifCond .ne 5, 3) := by decide +kernel
theorem dX0_addBar_7 : decode cX0_addBar 7 = .ok (.iconst (-1), 1) := by decide +kernel
theorem dX0_addBar_8 : decode cX0_addBar 8 = .ok (.ireturn, 1) := by decide +kernel
theorem dX0_addBar_9 : decode cX0_addBar 9 = .ok (.iload_n 2, 1) := by decide +kernel
theorem dX0_addBar_10 : decode cX0_addBar 10 = .ok (.invokestatic 71, 3) := by decide +kernel
theorem dX0_addBar_13 : decode cX0_addBar 13 = .ok (.ifCond .eq 23, 3) := by decide +kernel
theorem dX0_addBar_16 : decode cX0_addBar 16 = .ok (.iload_n 3, 1) := by decide +kernel
theorem dX0_addBar_17 : decode cX0_addBar 17 = .ok (.iconst 1, 1) := by decide +kernel
theorem dX0_addBar_18 : decode cX0_addBar 18 = .ok (.if_icmp .lt 18, 3) := by decide +kernel
theorem dX0_addBar_21 : decode cX0_addBar 21 = .ok (.iload_n 3, 1) := by decide +kernel
theorem dX0_addBar_22 : decode cX0_addBar 22 = .ok (.bipush 30, 2) := by decide +kernel
theorem dX0_addBar_24 : decode cX0_addBar 24 = .ok (.if_icmp .gt 12, 3) := by decide +kernel
theorem dX0_addBar_27 : decode cX0_addBar 27 = .ok (.iload_n 2, 1) := by decide +kernel
theorem dX0_addBar_28 : decode cX0_addBar 28 = .ok (.iload_n 3, 1) := by decide +kernel
theorem dX0_addBar_29 : decode cX0_addBar 29 = .ok (.iadd, 1) := by decide +kernel
theorem dX0_addBar_30 : decode cX0_addBar 30 = .ok (.sipush 200, 3) := by decide +kernel
theorem dX0_addBar_33 : decode cX0_addBar 33 = .ok (.if_icmp .le 6, 3) := by decide +kernel
theorem dX0_addBar_36 : decode cX0_addBar 36 = .ok (.bipush (-2), 2) := by decide +kernel
theorem dX0_addBar_38 : decode cX0_addBar 38 = .ok (.ireturn, 1) := by decide +kernel
theorem dX0_addBar_39 : decode cX0_addBar 39 = .ok (.aload_n 0, 1) := by decide +kernel
theorem dX0_addBar_40 : decode cX0_addBar 40 = .ok (.iload_n 1, 1) := by decide +kernel
theorem dX0_addBar_41 : decode cX0_addBar 41 = .ok (.iload_n 2, 1) := by decide +kernel
theorem dX0_addBar_42 : decode cX0_addBar 42 = .ok (.iload_n 3, 1) := by decide +kernel
theorem dX0_addBar_43 : decode cX0_addBar 43 = .ok (.iconst (-1), 1) := by decide +kernel
theorem dX0_addBar_44 : decode cX0_addBar 44 = .ok (.invokevirtual 74, 3) := by decide +kernel
theorem dX0_addBar_47 : decode cX0_addBar 47 = .ok (.ifCond .ne 6, 3) := by decide +kernel
theorem dX0_addBar_50 : decode cX0_addBar 50 = .ok (.bipush (-4), 2) := by decide +kernel
theorem dX0_addBar_52 : decode cX0_addBar 52 = .ok (.ireturn, 1) := by decide +kernel
theorem dX0_addBar_53 : decode cX0_addBar 53 = .ok (.aload_n 0, 1) := by decide +kernel
theorem dX0_addBar_54 : decode cX0_addBar 54 = .ok (.getfield 45, 3) := by decide +kernel
theorem dX0_addBar_57 : decode cX0_addBar 57 = .ok (.bipush 30, 2) := by decide +kernel
theorem dX0_addBar_59 : decode cX0_addBar 59 = .ok (.if_icmp .ge 12, 3) := by decide +kernel
theorem dX0_addBar_62 : decode cX0_addBar 62 = .ok (.aload_n 0, 1) := by decide +kernel
theorem dX0_addBar_63 : decode cX0_addBar 63 = .ok (.getfield 49, 3) := by decide +kernel
theorem dX0_addBar_66 : decode cX0_addBar 66 = .ok (.bipush 90, 2) := by decide +kernel
theorem dX0_addBar_68 : decode cX0_addBar 68 = .ok (.if_icmp .lt 6, 3) := by decide +kernel
theorem dX0_addBar_71 : decode cX0_addBar 71 = .ok (.bipush (-3), 2) := by decide +kernel
theorem dX0_addBar_73 : decode cX0_addBar 73 = .ok (.ireturn, 1) := by decide +kernel
theorem dX0_addBar_74 : decode cX0_addBar 74 = .ok (.aload_n 0, 1) := by decide +kernel
theorem dX0_addBar_75 : decode cX0_addBar 75 = .ok (.getfield 9, 3) := by decide +kernel
theorem dX0_addBar_78 : decode cX0_addBar 78 = .ok (.aload_n 0, 1) := by decide +kernel
theorem dX0_addBar_79 : decode cX0_addBar 79 = .ok (.getfield 45, 3) := by decide +kernel
theorem dX0_addBar_82 : decode cX0_addBar 82 = .ok (.aload_n 0, 1) := by decide +kernel
theorem dX0_addBar_83 : decode cX0_addBar 83 = .ok (.getfield 49, 3) := by decide +kernel
theorem dX0_addBar_86 : decode cX0_addBar 86 = .ok (.iastore, 1) := by decide +kernel
theorem dX0_addBar_87 : decode cX0_addBar 87 = .ok (.aload_n 0, 1) := by decide +kernel
theorem dX0_addBar_88 : decode cX0_addBar 88 = .ok (.getfield 15, 3) := by decide +kernel
theorem dX0_addBar_91 : decode cX0_addBar 91 = .ok (.aload_n 0, 1) := by decide +kernel
theorem dX0_addBar_92 : decode cX0_addBar 92 = .ok (.getfield 45, 3) := by decide +kernel
theorem dX0_addBar_95 : decode cX0_addBar 95 = .ok (.iload_n 1, 1) := by decide +kernel
theorem dX0_addBar_96 : decode cX0_addBar 96 = .ok (.iastore, 1) := by decide +kernel
theorem dX0_addBar_97 : decode cX0_addBar 97 = .ok (.aload_n 0, 1) := by decide +kernel
theorem dX0_addBar_98 : decode cX0_addBar 98 = .ok (.getfield 18, 3) := by decide +kernel
theorem dX0_addBar_101 : decode cX0_addBar 101 = .ok (.aload_n 0, 1) := by decide +kernel
theorem dX0_addBar_102 : decode cX0_addBar 102 = .ok (.getfield 45, 3) := by decide +kernel
theorem dX0_addBar_105 : decode cX0_addBar 105 = .ok (.iload_n 2, 1) := by decide +kernel
theorem dX0_addBar_106 : decode cX0_addBar 106 = .ok (.iastore, 1) := by decide +kernel
theorem dX0_addBar_107 : decode cX0_addBar 107 = .ok (.aload_n 0, 1) := by decide +kernel
theorem dX0_addBar_108 : decode cX0_addBar 108 = .ok (.getfield 21, 3) := by decide +kernel
theorem dX0_addBar_111 : decode cX0_addBar 111 = .ok (.aload_n 0, 1) := by decide +kernel
theorem dX0_addBar_112 : decode cX0_addBar 112 = .ok (.getfield 45, 3) := by decide +kernel
theorem dX0_addBar_115 : decode cX0_addBar 115 = .ok (.iload_n 3, 1) := by decide +kernel
theorem dX0_addBar_116 : decode cX0_addBar 116 = .ok (.iastore, 1) := by decide +kernel
theorem dX0_addBar_117 : decode cX0_addBar 117 = .ok (.aload_n 0, 1) := by decide +kernel
theorem dX0_addBar_118 : decode cX0_addBar 118 = .ok (.dup, 1) := by decide +kernel
theorem dX0_addBar_119 : decode cX0_addBar 119 = .ok (.getfield 45, 3) := by decide +kernel
theorem dX0_addBar_122 : decode cX0_addBar 122 = .ok (.iconst 1, 1) := by decide +kernel
theorem dX0_addBar_123 : decode cX0_addBar 123 = .ok (.iadd, 1) := by decide +kernel
theorem dX0_addBar_124 : decode cX0_addBar 124 = .ok (.putfield 45, 3) := by decide +kernel
theorem dX0_addBar_127 : decode cX0_addBar 127 = .ok (.aload_n 0, 1) := by decide +kernel
theorem dX0_addBar_128 : decode cX0_addBar 128 = .ok (.dup, 1) := by decide +kernel
theorem dX0_addBar_129 : decode cX0_addBar 129 = .ok (.getfield 49, 3) := by decide +kernel
theorem dX0_addBar_132 : decode cX0_addBar 132 = .ok (.iconst 1, 1) := by decide +kernel
theorem dX0_addBar_133 : decode cX0_addBar 133 = .ok (.iadd, 1) := by decide +kernel
theorem dX0_addBar_134 : decode cX0_addBar 134 = .ok (.putfield 49, 3) := by decide +kernel
theorem dX0_addBar_137 : decode cX0_addBar 137 = .ok (.aload_n 0, 1) := by decide +kernel
theorem dX0_addBar_138 : decode cX0_addBar 138 = .ok (.getfield 49, 3) := by decide +kernel
theorem dX0_addBar_141 : decode cX0_addBar 141 = .ok (.iconst 1, 1) := by decide +kernel
theorem dX0_addBar_142 : decode cX0_addBar 142 = .ok (.isub, 1) := by decide +kernel
theorem dX0_addBar_143 : decode cX0_addBar 143 = .ok (.ireturn, 1) := by decide +kernel
theorem dX0_addArrow_0 : decode cX0_addArrow 0 = .ok (.aload_n 0, 1) := by decide +kernel
theorem dX0_addArrow_1 : decode cX0_addArrow 1 = .ok (.iload_n 1, 1) := by decide +kernel
theorem dX0_addArrow_2 : decode cX0_addArrow 2 = .ok (.invokevirtual 78, 3) := by decide +kernel
theorem dX0_addArrow_5 : decode cX0_addArrow 5 = .ok (.istore_n 3, 1) := by decide +kernel
theorem dX0_addArrow_6 : decode cX0_addArrow 6 = .ok (.aload_n 0, 1) := by decide +kernel
theorem dX0_addArrow_7 : decode cX0_addArrow 7 = .ok (.iload_n 2, 1) := by decide +kernel
theorem dX0_addArrow_8 : decode cX0_addArrow 8 = .ok (.invokevirtual 78, 3) := by decide +kernel
theorem dX0_addArrow_11 : decode cX0_addArrow 11 = .ok (.istore 4, 2) := by decide +kernel
theorem dX0_addArrow_13 : decode cX0_addArrow 13 = .ok (.iload_n 3, 1) := by decide +kernel
theorem dX0_addArrow_14 : decode cX0_addArrow 14 = .ok (.ifCond .lt 8, 3) := by decide +kernel
theorem dX0_addArrow_17 : decode cX0_addArrow 17 = .ok (.iload 4, 2) := by decide +kernel
theorem dX0_addArrow_19 : decode cX0_addArrow 19 = .ok (.ifCond .ge 5, 3) := by decide +kernel
theorem dX0_addArrow_22 : decode cX0_addArrow 22 = .ok (.iconst (-1), 1) := by decide +kernel
theorem dX0_addArrow_23 : decode cX0_addArrow 23 = .ok (.ireturn, 1) := by decide +kernel
theorem dX0_addArrow_24 : decode cX0_addArrow 24 = .ok (.iload_n 3, 1) := by decide +kernel
theorem dX0_addArrow_25 : decode cX0_addArrow 25 = .ok (.iload 4, 2) := by decide +kernel
theorem dX0_addArrow_27 : decode cX0_addArrow 27 = .ok (.if_icmp .eq 23, 3) := by decide +kernel
theorem dX0_addArrow_30 : decode cX0_addArrow 30 = .ok (.aload_n 0, 1) := by decide +kernel
theorem dX0_addArrow_31 : decode cX0_addArrow 31 = .ok (.iload_n 3, 1) := by decide +kernel
theorem dX0_addArrow_32 : decode cX0_addArrow 32 = .ok (.iload 4, 2) := by decide +kernel
theorem dX0_addArrow_34 : decode cX0_addArrow 34 = .ok (.invokevirtual 82, 3) := by decide +kernel
theorem dX0_addArrow_37 : decode cX0_addArrow 37 = .ok (.ifCond .ne 13, 3) := by decide +kernel
theorem dX0_addArrow_40 : decode cX0_addArrow 40 = .ok (.aload_n 0, 1) := by decide +kernel
theorem dX0_addArrow_41 : decode cX0_addArrow 41 = .ok (.iload 4, 2) := by decide +kernel
theorem dX0_addArrow_43 : decode cX0_addArrow 43 = .ok (.iload_n 3, 1) := by decide +kernel
theorem dX0_addArrow_44 : decode cX0_addArrow 44 = .ok (.invokevirtual 86, 3) := by decide +kernel
theorem dX0_addArrow_47 : decode cX0_addArrow 47 = .ok (.ifCond .eq 6, 3) := by decide +kernel
theorem dX0_addArrow_50 : decode cX0_addArrow 50 = .ok (.bipush (-4), 2) := by decide +kernel
theorem dX0_addArrow_52 : decode cX0_addArrow 52 = .ok (.ireturn, 1) := by decide +kernel
theorem dX0_addArrow_53 : decode cX0_addArrow 53 = .ok (.aload_n 0, 1) := by decide +kernel
theorem dX0_addArrow_54 : decode cX0_addArrow 54 = .ok (.getfield 58, 3) := by decide +kernel
theorem dX0_addArrow_57 : decode cX0_addArrow 57 = .ok (.bipush 40, 2) := by decide +kernel
theorem dX0_addArrow_59 : decode cX0_addArrow 59 = .ok (.if_icmp .ge 13, 3) := by decide +kernel
theorem dX0_addArrow_62 : decode cX0_addArrow 62 = .ok (.aload_n 0, 1) := by decide +kernel
theorem dX0_addArrow_63 : decode cX0_addArrow 63 = .ok (.getfield 61, 3) := by decide +kernel
theorem dX0_addArrow_66 : decode cX0_addArrow 66 = .ok (.sipush 200, 3) := by decide +kernel
theorem dX0_addArrow_69 : decode cX0_addArrow 69 = .ok (.if_icmp .lt 6, 3) := by decide +kernel
theorem dX0_addArrow_72 : decode cX0_addArrow 72 = .ok (.bipush (-3), 2) := by decide +kernel
theorem dX0_addArrow_74 : decode cX0_addArrow 74 = .ok (.ireturn, 1) := by decide +kernel
theorem dX0_addArrow_75 : decode cX0_addArrow 75 = .ok (.aload_n 0, 1) := by decide +kernel
theorem dX0_addArrow_76 : decode cX0_addArrow 76 = .ok (.getfield 24, 3) := by decide +kernel
theorem dX0_addArrow_79 : decode cX0_addArrow 79 = .ok (.aload_n 0, 1) := by decide +kernel
theorem dX0_addArrow_80 : decode cX0_addArrow 80 = .ok (.getfield 58, 3) := by decide +kernel
theorem dX0_addArrow_83 : decode cX0_addArrow 83 = .ok (.aload_n 0, 1) := by decide +kernel
theorem dX0_addArrow_84 : decode cX0_addArrow 84 = .ok (.getfield 61, 3) := by decide +kernel
theorem dX0_addArrow_87 : decode cX0_addArrow 87 = .ok (.iastore, 1) := by decide +kernel
theorem dX0_addArrow_88 : decode cX0_addArrow 88 = .ok (.aload_n 0, 1) := by decide +kernel
theorem dX0_addArrow_89 : decode cX0_addArrow 89 = .ok (.getfield 27, 3) := by decide +kernel
theorem dX0_addArrow_92 : decode cX0_addArrow 92 = .ok (.aload_n 0, 1) := by decide +kernel
theorem dX0_addArrow_93 : decode cX0_addArrow 93 = .ok (.getfield 58, 3) := by decide +kernel
theorem dX0_addArrow_96 : decode cX0_addArrow 96 = .ok (.iload_n 3, 1) := by decide +kernel
theorem dX0_addArrow_97 : decode cX0_addArrow 97 = .ok (.iastore, 1) := by decide +kernel
theorem dX0_addArrow_98 : decode cX0_addArrow 98 = .ok (.aload_n 0, 1) := by decide +kernel
theorem dX0_addArrow_99 : decode cX0_addArrow 99 = .ok (.getfield 30, 3) := by decide +kernel
theorem dX0_addArrow_102 : decode cX0_addArrow 102 = .ok (.aload_n 0, 1) := by decide +kernel
theorem dX0_addArrow_103 : decode cX0_addArrow 103 = .ok (.getfield 58, 3) := by decide +kernel
theorem dX0_addArrow_106 : decode cX0_addArrow 106 = .ok (.iload 4, 2) := by decide +kernel
theorem dX0_addArrow_108 : decode cX0_addArrow 108 = .ok (.iastore, 1) := by decide +kernel
theorem dX0_addArrow_109 : decode cX0_addArrow 109 = .ok (.aload_n 0, 1) := by decide +kernel
theorem dX0_addArrow_110 : decode cX0_addArrow 110 = .ok (.dup, 1) := by decide +kernel
theorem dX0_addArrow_111 : decode cX0_addArrow 111 = .ok (.getfield 58, 3) := by decide +kernel
theorem dX0_addArrow_114 : decode cX0_addArrow 114 = .ok (.iconst 1, 1) := by decide +kernel
theorem dX0_addArrow_115 : decode cX0_addArrow 115 = .ok (.iadd, 1) := by decide +kernel
theorem dX0_addArrow_116 : decode cX0_addArrow 116 = .ok (.putfield 58, 3) := by decide +kernel
theorem dX0_addArrow_119 : decode cX0_addArrow 119 = .ok (.aload_n 0, 1) := by decide +kernel
theorem dX0_addArrow_120 : decode cX0_addArrow 120 = .ok (.dup, 1) := by decide +kernel
theorem dX0_addArrow_121 : decode cX0_addArrow 121 = .ok (.getfield 61, 3) := by decide +kernel
theorem dX0_addArrow_124 : decode cX0_addArrow 124 = .ok (.iconst 1, 1) := by decide +kernel
theorem dX0_addArrow_125 : decode cX0_addArrow 125 = .ok (.iadd, 1) := by decide +kernel
theorem dX0_addArrow_126 : decode cX0_addArrow 126 = .ok (.putfield 61, 3) := by decide +kernel
theorem dX0_addArrow_129 : decode cX0_addArrow 129 = .ok (.aload_n 0, 1) := by decide +kernel
theorem dX0_addArrow_130 : decode cX0_addArrow 130 = .ok (.getfield 61, 3) := by decide +kernel
theorem dX0_addArrow_133 : decode cX0_addArrow 133 = .ok (.iconst 1, 1) := by decide +kernel
theorem dX0_addArrow_134 : decode cX0_addArrow 134 = .ok (.isub, 1) := by decide +kernel
theorem dX0_addArrow_135 : decode cX0_addArrow 135 = .ok (.ireturn, 1) := by decide +kernel
theorem dX0_hasArrow_0 : decode cX0_hasArrow 0 = .ok (.iconst 0, 1) := by decide +kernel
theorem dX0_hasArrow_1 : decode cX0_hasArrow 1 = .ok (.istore_n 3, 1) := by decide +kernel
theorem dX0_hasArrow_2 : decode cX0_hasArrow 2 = .ok (.iload_n 3, 1) := by decide +kernel
theorem dX0_hasArrow_3 : decode cX0_hasArrow 3 = .ok (.aload_n 0, 1) := by decide +kernel
theorem dX0_hasArrow_4 : decode cX0_hasArrow 4 = .ok (.getfield 58, 3) := by decide +kernel
theorem dX0_hasArrow_7 : decode cX0_hasArrow 7 = .ok (.if_icmp .ge 31, 3) := by decide +kernel
theorem dX0_hasArrow_10 : decode cX0_hasArrow 10 = .ok (.aload_n 0, 1) := by decide +kernel
theorem dX0_hasArrow_11 : decode cX0_hasArrow 11 = .ok (.getfield 27, 3) := by decide +kernel
theorem dX0_hasArrow_14 : decode cX0_hasArrow 14 = .ok (.iload_n 3, 1) := by decide +kernel
theorem dX0_hasArrow_15 : decode cX0_hasArrow 15 = .ok (.iaload, 1) := by decide +kernel
theorem dX0_hasArrow_16 : decode cX0_hasArrow 16 = .ok (.iload_n 1, 1) := by decide +kernel
theorem dX0_hasArrow_17 : decode cX0_hasArrow 17 = .ok (.if_icmp .ne 15, 3) := by decide +kernel
theorem dX0_hasArrow_20 : decode cX0_hasArrow 20 = .ok (.aload_n 0, 1) := by decide +kernel
theorem dX0_hasArrow_21 : decode cX0_hasArrow 21 = .ok (.getfield 30, 3) := by decide +kernel
theorem dX0_hasArrow_24 : decode cX0_hasArrow 24 = .ok (.iload_n 3, 1) := by decide +kernel
theorem dX0_hasArrow_25 : decode cX0_hasArrow 25 = .ok (.iaload, 1) := by decide +kernel
theorem dX0_hasArrow_26 : decode cX0_hasArrow 26 = .ok (.iload_n 2, 1) := by decide +kernel
theorem dX0_hasArrow_27 : decode cX0_hasArrow 27 = .ok (.if_icmp .ne 5, 3) := by decide +kernel
theorem dX0_hasArrow_30 : decode cX0_hasArrow 30 = .ok (.iconst 1, 1) := by decide +kernel
theorem dX0_hasArrow_31 : decode cX0_hasArrow 31 = .ok (.ireturn, 1) := by decide +kernel
theorem dX0_hasArrow_32 : decode cX0_hasArrow 32 = .ok (.iinc 3 1, 3) := by decide +kernel
theorem dX0_hasArrow_35 : decode cX0_hasArrow 35 = .ok (.goto (-33), 3) := by decide +kernel
theorem dX0_hasArrow_38 : decode cX0_hasArrow 38 = .ok (.iconst 0, 1) := by decide +kernel
theorem dX0_hasArrow_39 : decode cX0_hasArrow 39 = .ok (.ireturn, 1) := by decide +kernel
theorem dX0_leadsOn_0 : decode cX0_leadsOn 0 = .ok (.iconst 1, 1) := by decide +kernel
theorem dX0_leadsOn_1 : decode cX0_leadsOn 1 = .ok (.iload_n 1, 1) := by decide +kernel
theorem dX0_leadsOn_2 : decode cX0_leadsOn 2 = .ok (.ishl, 1) := by decide +kernel
theorem dX0_leadsOn_3 : decode cX0_leadsOn 3 = .ok (.istore_n 3, 1) := by decide +kernel
theorem dX0_leadsOn_4 : decode cX0_leadsOn 4 = .ok (.iconst 0, 1) := by decide +kernel
theorem dX0_leadsOn_5 : decode cX0_leadsOn 5 = .ok (.istore 4, 2) := by decide +kernel
theorem dX0_leadsOn_7 : decode cX0_leadsOn 7 = .ok (.iload 4, 2) := by decide +kernel
theorem dX0_leadsOn_9 : decode cX0_leadsOn 9 = .ok (.aload_n 0, 1) := by decide +kernel
theorem dX0_leadsOn_10 : decode cX0_leadsOn 10 = .ok (.getfield 45, 3) := by decide +kernel
theorem dX0_leadsOn_13 : decode cX0_leadsOn 13 = .ok (.if_icmp .ge 66, 3) := by decide +kernel
theorem dX0_leadsOn_16 : decode cX0_leadsOn 16 = .ok (.iload_n 3, 1) := by decide +kernel
theorem dX0_leadsOn_17 : decode cX0_leadsOn 17 = .ok (.istore 5, 2) := by decide +kernel
theorem dX0_leadsOn_19 : decode cX0_leadsOn 19 = .ok (.iconst 0, 1) := by decide +kernel
theorem dX0_leadsOn_20 : decode cX0_leadsOn 20 = .ok (.istore 6, 2) := by decide +kernel
theorem dX0_leadsOn_22 : decode cX0_leadsOn 22 = .ok (.iload 6, 2) := by decide +kernel
theorem dX0_leadsOn_24 : decode cX0_leadsOn 24 = .ok (.aload_n 0, 1) := by decide +kernel
theorem dX0_leadsOn_25 : decode cX0_leadsOn 25 = .ok (.getfield 58, 3) := by decide +kernel
theorem dX0_leadsOn_28 : decode cX0_leadsOn 28 = .ok (.if_icmp .ge 36, 3) := by decide +kernel
theorem dX0_leadsOn_31 : decode cX0_leadsOn 31 = .ok (.iload_n 3, 1) := by decide +kernel
theorem dX0_leadsOn_32 : decode cX0_leadsOn 32 = .ok (.aload_n 0, 1) := by decide +kernel
theorem dX0_leadsOn_33 : decode cX0_leadsOn 33 = .ok (.getfield 27, 3) := by decide +kernel
theorem dX0_leadsOn_36 : decode cX0_leadsOn 36 = .ok (.iload 6, 2) := by decide +kernel
theorem dX0_leadsOn_38 : decode cX0_leadsOn 38 = .ok (.iaload, 1) := by decide +kernel
theorem dX0_leadsOn_39 : decode cX0_leadsOn 39 = .ok (.ishr, 1) := by decide +kernel
theorem dX0_leadsOn_40 : decode cX0_leadsOn 40 = .ok (.iconst 1, 1) := by decide +kernel
theorem dX0_leadsOn_41 : decode cX0_leadsOn 41 = .ok (.iand, 1) := by decide +kernel
theorem dX0_leadsOn_42 : decode cX0_leadsOn 42 = .ok (.iconst 1, 1) := by decide +kernel
theorem dX0_leadsOn_43 : decode cX0_leadsOn 43 = .ok (.if_icmp .ne 15, 3) := by decide +kernel
theorem dX0_leadsOn_46 : decode cX0_leadsOn 46 = .ok (.iload_n 3, 1) := by decide +kernel
theorem dX0_leadsOn_47 : decode cX0_leadsOn 47 = .ok (.iconst 1, 1) := by decide +kernel
theorem dX0_leadsOn_48 : decode cX0_leadsOn 48 = .ok (.aload_n 0, 1) := by decide +kernel
theorem dX0_leadsOn_49 : decode cX0_leadsOn 49 = .ok (.getfield 30, 3) := by decide +kernel
theorem dX0_leadsOn_52 : decode cX0_leadsOn 52 = .ok (.iload 6, 2) := by decide +kernel
theorem dX0_leadsOn_54 : decode cX0_leadsOn 54 = .ok (.iaload, 1) := by decide +kernel
theorem dX0_leadsOn_55 : decode cX0_leadsOn 55 = .ok (.ishl, 1) := by decide +kernel
theorem dX0_leadsOn_56 : decode cX0_leadsOn 56 = .ok (.ior, 1) := by decide +kernel
theorem dX0_leadsOn_57 : decode cX0_leadsOn 57 = .ok (.istore_n 3, 1) := by decide +kernel
theorem dX0_leadsOn_58 : decode cX0_leadsOn 58 = .ok (.iinc 6 1, 3) := by decide +kernel
theorem dX0_leadsOn_61 : decode cX0_leadsOn 61 = .ok (.goto (-39), 3) := by decide +kernel
theorem dX0_leadsOn_64 : decode cX0_leadsOn 64 = .ok (.iload_n 3, 1) := by decide +kernel
theorem dX0_leadsOn_65 : decode cX0_leadsOn 65 = .ok (.iload 5, 2) := by decide +kernel
theorem dX0_leadsOn_67 : decode cX0_leadsOn 67 = .ok (.if_icmp .ne 6, 3) := by decide +kernel
theorem dX0_leadsOn_70 : decode cX0_leadsOn 70 = .ok (.goto 9, 3) := by decide +kernel
theorem dX0_leadsOn_73 : decode cX0_leadsOn 73 = .ok (.iinc 4 1, 3) := by decide +kernel
theorem dX0_leadsOn_76 : decode cX0_leadsOn 76 = .ok (.goto (-69), 3) := by decide +kernel
theorem dX0_leadsOn_79 : decode cX0_leadsOn 79 = .ok (.iload_n 3, 1) := by decide +kernel
theorem dX0_leadsOn_80 : decode cX0_leadsOn 80 = .ok (.iload_n 2, 1) := by decide +kernel
theorem dX0_leadsOn_81 : decode cX0_leadsOn 81 = .ok (.ishr, 1) := by decide +kernel
theorem dX0_leadsOn_82 : decode cX0_leadsOn 82 = .ok (.iconst 1, 1) := by decide +kernel
theorem dX0_leadsOn_83 : decode cX0_leadsOn 83 = .ok (.iand, 1) := by decide +kernel
theorem dX0_leadsOn_84 : decode cX0_leadsOn 84 = .ok (.iconst 1, 1) := by decide +kernel
theorem dX0_leadsOn_85 : decode cX0_leadsOn 85 = .ok (.if_icmp .ne 7, 3) := by decide +kernel
theorem dX0_leadsOn_88 : decode cX0_leadsOn 88 = .ok (.iconst 1, 1) := by decide +kernel
theorem dX0_leadsOn_89 : decode cX0_leadsOn 89 = .ok (.goto 4, 3) := by decide +kernel
theorem dX0_leadsOn_92 : decode cX0_leadsOn 92 = .ok (.iconst 0, 1) := by decide +kernel
theorem dX0_leadsOn_93 : decode cX0_leadsOn 93 = .ok (.ireturn, 1) := by decide +kernel
theorem dX0_dropBar_0 : decode cX0_dropBar 0 = .ok (.iconst 0, 1) := by decide +kernel
theorem dX0_dropBar_1 : decode cX0_dropBar 1 = .ok (.istore_n 2, 1) := by decide +kernel
theorem dX0_dropBar_2 : decode cX0_dropBar 2 = .ok (.aload_n 0, 1) := by decide +kernel
theorem dX0_dropBar_3 : decode cX0_dropBar 3 = .ok (.getfield 58, 3) := by decide +kernel
theorem dX0_dropBar_6 : decode cX0_dropBar 6 = .ok (.iconst 1, 1) := by decide +kernel
theorem dX0_dropBar_7 : decode cX0_dropBar 7 = .ok (.isub, 1) := by decide +kernel
theorem dX0_dropBar_8 : decode cX0_dropBar 8 = .ok (.istore_n 3, 1) := by decide +kernel
theorem dX0_dropBar_9 : decode cX0_dropBar 9 = .ok (.iload_n 3, 1) := by decide +kernel
theorem dX0_dropBar_10 : decode cX0_dropBar 10 = .ok (.ifCond .lt 37, 3) := by decide +kernel
theorem dX0_dropBar_13 : decode cX0_dropBar 13 = .ok (.aload_n 0, 1) := by decide +kernel
theorem dX0_dropBar_14 : decode cX0_dropBar 14 = .ok (.getfield 27, 3) := by decide +kernel
theorem dX0_dropBar_17 : decode cX0_dropBar 17 = .ok (.iload_n 3, 1) := by decide +kernel
theorem dX0_dropBar_18 : decode cX0_dropBar 18 = .ok (.iaload, 1) := by decide +kernel
theorem dX0_dropBar_19 : decode cX0_dropBar 19 = .ok (.iload_n 1, 1) := by decide +kernel
theorem dX0_dropBar_20 : decode cX0_dropBar 20 = .ok (.if_icmp .eq 13, 3) := by decide +kernel
theorem dX0_dropBar_23 : decode cX0_dropBar 23 = .ok (.aload_n 0, 1) := by decide +kernel
theorem dX0_dropBar_24 : decode cX0_dropBar 24 = .ok (.getfield 30, 3) := by decide +kernel
theorem dX0_dropBar_27 : decode cX0_dropBar 27 = .ok (.iload_n 3, 1) := by decide +kernel
theorem dX0_dropBar_28 : decode cX0_dropBar 28 = .ok (.iaload, 1) := by decide +kernel
theorem dX0_dropBar_29 : decode cX0_dropBar 29 = .ok (.iload_n 1, 1) := by decide +kernel
theorem dX0_dropBar_30 : decode cX0_dropBar 30 = .ok (.if_icmp .ne 11, 3) := by decide +kernel
theorem dX0_dropBar_33 : decode cX0_dropBar 33 = .ok (.aload_n 0, 1) := by decide +kernel
theorem dX0_dropBar_34 : decode cX0_dropBar 34 = .ok (.iload_n 3, 1) := by decide +kernel
theorem dX0_dropBar_35 : decode cX0_dropBar 35 = .ok (.invokevirtual 89, 3) := by decide +kernel
theorem dX0_dropBar_38 : decode cX0_dropBar 38 = .ok (.iinc 2 1, 3) := by decide +kernel
theorem dX0_dropBar_41 : decode cX0_dropBar 41 = .ok (.iinc 3 (-1), 3) := by decide +kernel
theorem dX0_dropBar_44 : decode cX0_dropBar 44 = .ok (.goto (-35), 3) := by decide +kernel
theorem dX0_dropBar_47 : decode cX0_dropBar 47 = .ok (.aload_n 0, 1) := by decide +kernel
theorem dX0_dropBar_48 : decode cX0_dropBar 48 = .ok (.dup, 1) := by decide +kernel
theorem dX0_dropBar_49 : decode cX0_dropBar 49 = .ok (.getfield 45, 3) := by decide +kernel
theorem dX0_dropBar_52 : decode cX0_dropBar 52 = .ok (.iconst 1, 1) := by decide +kernel
theorem dX0_dropBar_53 : decode cX0_dropBar 53 = .ok (.isub, 1) := by decide +kernel
theorem dX0_dropBar_54 : decode cX0_dropBar 54 = .ok (.putfield 45, 3) := by decide +kernel
theorem dX0_dropBar_57 : decode cX0_dropBar 57 = .ok (.iload_n 1, 1) := by decide +kernel
theorem dX0_dropBar_58 : decode cX0_dropBar 58 = .ok (.istore_n 3, 1) := by decide +kernel
theorem dX0_dropBar_59 : decode cX0_dropBar 59 = .ok (.iload_n 3, 1) := by decide +kernel
theorem dX0_dropBar_60 : decode cX0_dropBar 60 = .ok (.aload_n 0, 1) := by decide +kernel
theorem dX0_dropBar_61 : decode cX0_dropBar 61 = .ok (.getfield 45, 3) := by decide +kernel
theorem dX0_dropBar_64 : decode cX0_dropBar 64 = .ok (.if_icmp .ge 65, 3) := by decide +kernel
theorem dX0_dropBar_67 : decode cX0_dropBar 67 = .ok (.aload_n 0, 1) := by decide +kernel
theorem dX0_dropBar_68 : decode cX0_dropBar 68 = .ok (.getfield 9, 3) := by decide +kernel
theorem dX0_dropBar_71 : decode cX0_dropBar 71 = .ok (.iload_n 3, 1) := by decide +kernel
theorem dX0_dropBar_72 : decode cX0_dropBar 72 = .ok (.aload_n 0, 1) := by decide +kernel
theorem dX0_dropBar_73 : decode cX0_dropBar 73 = .ok (.getfield 9, 3) := by decide +kernel
theorem dX0_dropBar_76 : decode cX0_dropBar 76 = .ok (.iload_n 3, 1) := by decide +kernel
theorem dX0_dropBar_77 : decode cX0_dropBar 77 = .ok (.iconst 1, 1) := by decide +kernel
theorem dX0_dropBar_78 : decode cX0_dropBar 78 = .ok (.iadd, 1) := by decide +kernel
theorem dX0_dropBar_79 : decode cX0_dropBar 79 = .ok (.iaload, 1) := by decide +kernel
theorem dX0_dropBar_80 : decode cX0_dropBar 80 = .ok (.iastore, 1) := by decide +kernel
theorem dX0_dropBar_81 : decode cX0_dropBar 81 = .ok (.aload_n 0, 1) := by decide +kernel
theorem dX0_dropBar_82 : decode cX0_dropBar 82 = .ok (.getfield 15, 3) := by decide +kernel
theorem dX0_dropBar_85 : decode cX0_dropBar 85 = .ok (.iload_n 3, 1) := by decide +kernel
theorem dX0_dropBar_86 : decode cX0_dropBar 86 = .ok (.aload_n 0, 1) := by decide +kernel
theorem dX0_dropBar_87 : decode cX0_dropBar 87 = .ok (.getfield 15, 3) := by decide +kernel
theorem dX0_dropBar_90 : decode cX0_dropBar 90 = .ok (.iload_n 3, 1) := by decide +kernel
theorem dX0_dropBar_91 : decode cX0_dropBar 91 = .ok (.iconst 1, 1) := by decide +kernel
theorem dX0_dropBar_92 : decode cX0_dropBar 92 = .ok (.iadd, 1) := by decide +kernel
theorem dX0_dropBar_93 : decode cX0_dropBar 93 = .ok (.iaload, 1) := by decide +kernel
theorem dX0_dropBar_94 : decode cX0_dropBar 94 = .ok (.iastore, 1) := by decide +kernel
theorem dX0_dropBar_95 : decode cX0_dropBar 95 = .ok (.aload_n 0, 1) := by decide +kernel
theorem dX0_dropBar_96 : decode cX0_dropBar 96 = .ok (.getfield 18, 3) := by decide +kernel
theorem dX0_dropBar_99 : decode cX0_dropBar 99 = .ok (.iload_n 3, 1) := by decide +kernel
theorem dX0_dropBar_100 : decode cX0_dropBar 100 = .ok (.aload_n 0, 1) := by decide +kernel
theorem dX0_dropBar_101 : decode cX0_dropBar 101 = .ok (.getfield 18, 3) := by decide +kernel
theorem dX0_dropBar_104 : decode cX0_dropBar 104 = .ok (.iload_n 3, 1) := by decide +kernel
theorem dX0_dropBar_105 : decode cX0_dropBar 105 = .ok (.iconst 1, 1) := by decide +kernel
theorem dX0_dropBar_106 : decode cX0_dropBar 106 = .ok (.iadd, 1) := by decide +kernel
theorem dX0_dropBar_107 : decode cX0_dropBar 107 = .ok (.iaload, 1) := by decide +kernel
theorem dX0_dropBar_108 : decode cX0_dropBar 108 = .ok (.iastore, 1) := by decide +kernel
theorem dX0_dropBar_109 : decode cX0_dropBar 109 = .ok (.aload_n 0, 1) := by decide +kernel
theorem dX0_dropBar_110 : decode cX0_dropBar 110 = .ok (.getfield 21, 3) := by decide +kernel
theorem dX0_dropBar_113 : decode cX0_dropBar 113 = .ok (.iload_n 3, 1) := by decide +kernel
theorem dX0_dropBar_114 : decode cX0_dropBar 114 = .ok (.aload_n 0, 1) := by decide +kernel
theorem dX0_dropBar_115 : decode cX0_dropBar 115 = .ok (.getfield 21, 3) := by decide +kernel
theorem dX0_dropBar_118 : decode cX0_dropBar 118 = .ok (.iload_n 3, 1) := by decide +kernel
theorem dX0_dropBar_119 : decode cX0_dropBar 119 = .ok (.iconst 1, 1) := by decide +kernel
theorem dX0_dropBar_120 : decode cX0_dropBar 120 = .ok (.iadd, 1) := by decide +kernel
theorem dX0_dropBar_121 : decode cX0_dropBar 121 = .ok (.iaload, 1) := by decide +kernel
theorem dX0_dropBar_122 : decode cX0_dropBar 122 = .ok (.iastore, 1) := by decide +kernel
theorem dX0_dropBar_123 : decode cX0_dropBar 123 = .ok (.iinc 3 1, 3) := by decide +kernel
theorem dX0_dropBar_126 : decode cX0_dropBar 126 = .ok (.goto (-67), 3) := by decide +kernel
theorem dX0_dropBar_129 : decode cX0_dropBar 129 = .ok (.iconst 0, 1) := by decide +kernel
theorem dX0_dropBar_130 : decode cX0_dropBar 130 = .ok (.istore_n 3, 1) := by decide +kernel
theorem dX0_dropBar_131 : decode cX0_dropBar 131 = .ok (.iload_n 3, 1) := by decide +kernel
theorem dX0_dropBar_132 : decode cX0_dropBar 132 = .ok (.aload_n 0, 1) := by decide +kernel
theorem dX0_dropBar_133 : decode cX0_dropBar 133 = .ok (.getfield 58, 3) := by decide +kernel
theorem dX0_dropBar_136 : decode cX0_dropBar 136 = .ok (.if_icmp .ge 57, 3) := by decide +kernel
theorem dX0_dropBar_139 : decode cX0_dropBar 139 = .ok (.aload_n 0, 1) := by decide +kernel
theorem dX0_dropBar_140 : decode cX0_dropBar 140 = .ok (.getfield 27, 3) := by decide +kernel
theorem dX0_dropBar_143 : decode cX0_dropBar 143 = .ok (.iload_n 3, 1) := by decide +kernel
theorem dX0_dropBar_144 : decode cX0_dropBar 144 = .ok (.dup2, 1) := by decide +kernel
theorem dX0_dropBar_145 : decode cX0_dropBar 145 = .ok (.iaload, 1) := by decide +kernel
theorem dX0_dropBar_146 : decode cX0_dropBar 146 = .ok (.aload_n 0, 1) := by decide +kernel
theorem dX0_dropBar_147 : decode cX0_dropBar 147 = .ok (.getfield 27, 3) := by decide +kernel
theorem dX0_dropBar_150 : decode cX0_dropBar 150 = .ok (.iload_n 3, 1) := by decide +kernel
theorem dX0_dropBar_151 : decode cX0_dropBar 151 = .ok (.iaload, 1) := by decide +kernel
theorem dX0_dropBar_152 : decode cX0_dropBar 152 = .ok (.iload_n 1, 1) := by decide +kernel
theorem dX0_dropBar_153 : decode cX0_dropBar 153 = .ok (.if_icmp .le 7, 3) := by decide +kernel
theorem dX0_dropBar_156 : decode cX0_dropBar 156 = .ok (.iconst 1, 1) := by decide +kernel
theorem dX0_dropBar_157 : decode cX0_dropBar 157 = .ok (.goto 4, 3) := by decide +kernel
theorem dX0_dropBar_160 : decode cX0_dropBar 160 = .ok (.iconst 0, 1) := by decide +kernel
theorem dX0_dropBar_161 : decode cX0_dropBar 161 = .ok (.isub, 1) := by decide +kernel
theorem dX0_dropBar_162 : decode cX0_dropBar 162 = .ok (.iastore, 1) := by decide +kernel
theorem dX0_dropBar_163 : decode cX0_dropBar 163 = .ok (.aload_n 0, 1) := by decide +kernel
theorem dX0_dropBar_164 : decode cX0_dropBar 164 = .ok (.getfield 30, 3) := by decide +kernel
theorem dX0_dropBar_167 : decode cX0_dropBar 167 = .ok (.iload_n 3, 1) := by decide +kernel
theorem dX0_dropBar_168 : decode cX0_dropBar 168 = .ok (.dup2, 1) := by decide +kernel
theorem dX0_dropBar_169 : decode cX0_dropBar 169 = .ok (.iaload, 1) := by decide +kernel
theorem dX0_dropBar_170 : decode cX0_dropBar 170 = .ok (.aload_n 0, 1) := by decide +kernel
theorem dX0_dropBar_171 : decode cX0_dropBar 171 = .ok (.getfield 30, 3) := by decide +kernel
theorem dX0_dropBar_174 : decode cX0_dropBar 174 = .ok (.iload_n 3, 1) := by decide +kernel
theorem dX0_dropBar_175 : decode cX0_dropBar 175 = .ok (.iaload, 1) := by decide +kernel
theorem dX0_dropBar_176 : decode cX0_dropBar 176 = .ok (.iload_n 1, 1) := by decide +kernel
theorem dX0_dropBar_177 : decode cX0_dropBar 177 = .ok (.if_icmp .le 7, 3) := by decide +kernel
theorem dX0_dropBar_180 : decode cX0_dropBar 180 = .ok (.iconst 1, 1) := by decide +kernel
theorem dX0_dropBar_181 : decode cX0_dropBar 181 = .ok (.goto 4, 3) := by decide +kernel
theorem dX0_dropBar_184 : decode cX0_dropBar 184 = .ok (.iconst 0, 1) := by decide +kernel
theorem dX0_dropBar_185 : decode cX0_dropBar 185 = .ok (.isub, 1) := by decide +kernel
theorem dX0_dropBar_186 : decode cX0_dropBar 186 = .ok (.iastore, 1) := by decide +kernel
theorem dX0_dropBar_187 : decode cX0_dropBar 187 = .ok (.iinc 3 1, 3) := by decide +kernel
theorem dX0_dropBar_190 : decode cX0_dropBar 190 = .ok (.goto (-59), 3) := by decide +kernel
theorem dX0_dropBar_193 : decode cX0_dropBar 193 = .ok (.iload_n 2, 1) := by decide +kernel
theorem dX0_dropBar_194 : decode cX0_dropBar 194 = .ok (.ireturn, 1) := by decide +kernel
theorem dX0_dropArrow_0 : decode cX0_dropArrow 0 = .ok (.aload_n 0, 1) := by decide +kernel
theorem dX0_dropArrow_1 : decode cX0_dropArrow 1 = .ok (.dup, 1) := by decide +kernel
theorem dX0_dropArrow_2 : decode cX0_dropArrow 2 = .ok (.getfield 58, 3) := by decide +kernel
theorem dX0_dropArrow_5 : decode cX0_dropArrow 5 = .ok (.iconst 1, 1) := by decide +kernel
theorem dX0_dropArrow_6 : decode cX0_dropArrow 6 = .ok (.isub, 1) := by decide +kernel
theorem dX0_dropArrow_7 : decode cX0_dropArrow 7 = .ok (.putfield 58, 3) := by decide +kernel
theorem dX0_dropArrow_10 : decode cX0_dropArrow 10 = .ok (.iload_n 1, 1) := by decide +kernel
theorem dX0_dropArrow_11 : decode cX0_dropArrow 11 = .ok (.istore_n 2, 1) := by decide +kernel
theorem dX0_dropArrow_12 : decode cX0_dropArrow 12 = .ok (.iload_n 2, 1) := by decide +kernel
theorem dX0_dropArrow_13 : decode cX0_dropArrow 13 = .ok (.aload_n 0, 1) := by decide +kernel
theorem dX0_dropArrow_14 : decode cX0_dropArrow 14 = .ok (.getfield 58, 3) := by decide +kernel
theorem dX0_dropArrow_17 : decode cX0_dropArrow 17 = .ok (.if_icmp .ge 51, 3) := by decide +kernel
theorem dX0_dropArrow_20 : decode cX0_dropArrow 20 = .ok (.aload_n 0, 1) := by decide +kernel
theorem dX0_dropArrow_21 : decode cX0_dropArrow 21 = .ok (.getfield 24, 3) := by decide +kernel
theorem dX0_dropArrow_24 : decode cX0_dropArrow 24 = .ok (.iload_n 2, 1) := by decide +kernel
theorem dX0_dropArrow_25 : decode cX0_dropArrow 25 = .ok (.aload_n 0, 1) := by decide +kernel
theorem dX0_dropArrow_26 : decode cX0_dropArrow 26 = .ok (.getfield 24, 3) := by decide +kernel
theorem dX0_dropArrow_29 : decode cX0_dropArrow 29 = .ok (.iload_n 2, 1) := by decide +kernel
theorem dX0_dropArrow_30 : decode cX0_dropArrow 30 = .ok (.iconst 1, 1) := by decide +kernel
theorem dX0_dropArrow_31 : decode cX0_dropArrow 31 = .ok (.iadd, 1) := by decide +kernel
theorem dX0_dropArrow_32 : decode cX0_dropArrow 32 = .ok (.iaload, 1) := by decide +kernel
theorem dX0_dropArrow_33 : decode cX0_dropArrow 33 = .ok (.iastore, 1) := by decide +kernel
theorem dX0_dropArrow_34 : decode cX0_dropArrow 34 = .ok (.aload_n 0, 1) := by decide +kernel
theorem dX0_dropArrow_35 : decode cX0_dropArrow 35 = .ok (.getfield 27, 3) := by decide +kernel
theorem dX0_dropArrow_38 : decode cX0_dropArrow 38 = .ok (.iload_n 2, 1) := by decide +kernel
theorem dX0_dropArrow_39 : decode cX0_dropArrow 39 = .ok (.aload_n 0, 1) := by decide +kernel
theorem dX0_dropArrow_40 : decode cX0_dropArrow 40 = .ok (.getfield 27, 3) := by decide +kernel
theorem dX0_dropArrow_43 : decode cX0_dropArrow 43 = .ok (.iload_n 2, 1) := by decide +kernel
theorem dX0_dropArrow_44 : decode cX0_dropArrow 44 = .ok (.iconst 1, 1) := by decide +kernel
theorem dX0_dropArrow_45 : decode cX0_dropArrow 45 = .ok (.iadd, 1) := by decide +kernel
theorem dX0_dropArrow_46 : decode cX0_dropArrow 46 = .ok (.iaload, 1) := by decide +kernel
theorem dX0_dropArrow_47 : decode cX0_dropArrow 47 = .ok (.iastore, 1) := by decide +kernel
theorem dX0_dropArrow_48 : decode cX0_dropArrow 48 = .ok (.aload_n 0, 1) := by decide +kernel
theorem dX0_dropArrow_49 : decode cX0_dropArrow 49 = .ok (.getfield 30, 3) := by decide +kernel
theorem dX0_dropArrow_52 : decode cX0_dropArrow 52 = .ok (.iload_n 2, 1) := by decide +kernel
theorem dX0_dropArrow_53 : decode cX0_dropArrow 53 = .ok (.aload_n 0, 1) := by decide +kernel
theorem dX0_dropArrow_54 : decode cX0_dropArrow 54 = .ok (.getfield 30, 3) := by decide +kernel
theorem dX0_dropArrow_57 : decode cX0_dropArrow 57 = .ok (.iload_n 2, 1) := by decide +kernel
theorem dX0_dropArrow_58 : decode cX0_dropArrow 58 = .ok (.iconst 1, 1) := by decide +kernel
theorem dX0_dropArrow_59 : decode cX0_dropArrow 59 = .ok (.iadd, 1) := by decide +kernel
theorem dX0_dropArrow_60 : decode cX0_dropArrow 60 = .ok (.iaload, 1) := by decide +kernel
theorem dX0_dropArrow_61 : decode cX0_dropArrow 61 = .ok (.iastore, 1) := by decide +kernel
theorem dX0_dropArrow_62 : decode cX0_dropArrow 62 = .ok (.iinc 2 1, 3) := by decide +kernel
theorem dX0_dropArrow_65 : decode cX0_dropArrow 65 = .ok (.goto (-53), 3) := by decide +kernel
theorem dX0_dropArrow_68 : decode cX0_dropArrow 68 = .ok (.return_, 1) := by decide +kernel
theorem dX0_hasRoom_0 : decode cX0_hasRoom 0 = .ok (.iconst 0, 1) := by decide +kernel
theorem dX0_hasRoom_1 : decode cX0_hasRoom 1 = .ok (.istore 5, 2) := by decide +kernel
theorem dX0_hasRoom_3 : decode cX0_hasRoom 3 = .ok (.iload 5, 2) := by decide +kernel
theorem dX0_hasRoom_5 : decode cX0_hasRoom 5 = .ok (.aload_n 0, 1) := by decide +kernel
theorem dX0_hasRoom_6 : decode cX0_hasRoom 6 = .ok (.getfield 45, 3) := by decide +kernel
theorem dX0_hasRoom_9 : decode cX0_hasRoom 9 = .ok (.if_icmp .ge 42, 3) := by decide +kernel
theorem dX0_hasRoom_12 : decode cX0_hasRoom 12 = .ok (.iload 5, 2) := by decide +kernel
theorem dX0_hasRoom_14 : decode cX0_hasRoom 14 = .ok (.iload 4, 2) := by decide +kernel
theorem dX0_hasRoom_16 : decode cX0_hasRoom 16 = .ok (.if_icmp .eq 29, 3) := by decide +kernel
theorem dX0_hasRoom_19 : decode cX0_hasRoom 19 = .ok (.aload_n 0, 1) := by decide +kernel
theorem dX0_hasRoom_20 : decode cX0_hasRoom 20 = .ok (.getfield 15, 3) := by decide +kernel
theorem dX0_hasRoom_23 : decode cX0_hasRoom 23 = .ok (.iload 5, 2) := by decide +kernel
theorem dX0_hasRoom_25 : decode cX0_hasRoom 25 = .ok (.iaload, 1) := by decide +kernel
theorem dX0_hasRoom_26 : decode cX0_hasRoom 26 = .ok (.iload_n 1, 1) := by decide +kernel
theorem dX0_hasRoom_27 : decode cX0_hasRoom 27 = .ok (.if_icmp .ne 18, 3) := by decide +kernel
theorem dX0_hasRoom_30 : decode cX0_hasRoom 30 = .ok (.aload_n 0, 1) := by decide +kernel
theorem dX0_hasRoom_31 : decode cX0_hasRoom 31 = .ok (.iload 5, 2) := by decide +kernel
theorem dX0_hasRoom_33 : decode cX0_hasRoom 33 = .ok (.iload_n 2, 1) := by decide +kernel
theorem dX0_hasRoom_34 : decode cX0_hasRoom 34 = .ok (.iload_n 2, 1) := by decide +kernel
theorem dX0_hasRoom_35 : decode cX0_hasRoom 35 = .ok (.iload_n 3, 1) := by decide +kernel
theorem dX0_hasRoom_36 : decode cX0_hasRoom 36 = .ok (.iadd, 1) := by decide +kernel
theorem dX0_hasRoom_37 : decode cX0_hasRoom 37 = .ok (.invokevirtual 93, 3) := by decide +kernel
theorem dX0_hasRoom_40 : decode cX0_hasRoom 40 = .ok (.ifCond .eq 5, 3) := by decide +kernel
theorem dX0_hasRoom_43 : decode cX0_hasRoom 43 = .ok (.iconst 0, 1) := by decide +kernel
theorem dX0_hasRoom_44 : decode cX0_hasRoom 44 = .ok (.ireturn, 1) := by decide +kernel
theorem dX0_hasRoom_45 : decode cX0_hasRoom 45 = .ok (.iinc 5 1, 3) := by decide +kernel
theorem dX0_hasRoom_48 : decode cX0_hasRoom 48 = .ok (.goto (-45), 3) := by decide +kernel
theorem dX0_hasRoom_51 : decode cX0_hasRoom 51 = .ok (.iconst 1, 1) := by decide +kernel
theorem dX0_hasRoom_52 : decode cX0_hasRoom 52 = .ok (.ireturn, 1) := by decide +kernel
theorem dX0_sharesDays_0 : decode cX0_sharesDays 0 = .ok (.aload_n 0, 1) := by decide +kernel
theorem dX0_sharesDays_1 : decode cX0_sharesDays 1 = .ok (.getfield 18, 3) := by decide +kernel
theorem dX0_sharesDays_4 : decode cX0_sharesDays 4 = .ok (.iload_n 1, 1) := by decide +kernel
theorem dX0_sharesDays_5 : decode cX0_sharesDays 5 = .ok (.iaload, 1) := by decide +kernel
theorem dX0_sharesDays_6 : decode cX0_sharesDays 6 = .ok (.iload_n 3, 1) := by decide +kernel
theorem dX0_sharesDays_7 : decode cX0_sharesDays 7 = .ok (.if_icmp .ge 16, 3) := by decide +kernel
theorem dX0_sharesDays_10 : decode cX0_sharesDays 10 = .ok (.iload_n 2, 1) := by decide +kernel
theorem dX0_sharesDays_11 : decode cX0_sharesDays 11 = .ok (.aload_n 0, 1) := by decide +kernel
theorem dX0_sharesDays_12 : decode cX0_sharesDays 12 = .ok (.iload_n 1, 1) := by decide +kernel
theorem dX0_sharesDays_13 : decode cX0_sharesDays 13 = .ok (.invokevirtual 97, 3) := by decide +kernel
theorem dX0_sharesDays_16 : decode cX0_sharesDays 16 = .ok (.if_icmp .ge 7, 3) := by decide +kernel
theorem dX0_sharesDays_19 : decode cX0_sharesDays 19 = .ok (.iconst 1, 1) := by decide +kernel
theorem dX0_sharesDays_20 : decode cX0_sharesDays 20 = .ok (.goto 4, 3) := by decide +kernel
theorem dX0_sharesDays_23 : decode cX0_sharesDays 23 = .ok (.iconst 0, 1) := by decide +kernel
theorem dX0_sharesDays_24 : decode cX0_sharesDays 24 = .ok (.ireturn, 1) := by decide +kernel
theorem dX0_exchangeLanes_0 : decode cX0_exchangeLanes 0 = .ok (.iconst 0, 1) := by decide +kernel
theorem dX0_exchangeLanes_1 : decode cX0_exchangeLanes 1 = .ok (.istore_n 3, 1) := by decide +kernel
theorem dX0_exchangeLanes_2 : decode cX0_exchangeLanes 2 = .ok (.iload_n 3, 1) := by decide +kernel
theorem dX0_exchangeLanes_3 : decode cX0_exchangeLanes 3 = .ok (.aload_n 0, 1) := by decide +kernel
theorem dX0_exchangeLanes_4 : decode cX0_exchangeLanes 4 = .ok (.getfield 45, 3) := by decide +kernel
theorem dX0_exchangeLanes_7 : decode cX0_exchangeLanes 7 = .ok (.if_icmp .ge 46, 3) := by decide +kernel
theorem dX0_exchangeLanes_10 : decode cX0_exchangeLanes 10 = .ok (.aload_n 0, 1) := by decide +kernel
theorem dX0_exchangeLanes_11 : decode cX0_exchangeLanes 11 = .ok (.getfield 15, 3) := by decide +kernel
theorem dX0_exchangeLanes_14 : decode cX0_exchangeLanes 14 = .ok (.iload_n 3, 1) := by decide +kernel
theorem dX0_exchangeLanes_15 : decode cX0_exchangeLanes 15 = .ok (.iaload, 1) := by decide +kernel
theorem dX0_exchangeLanes_16 : decode cX0_exchangeLanes 16 = .ok (.iload_n 1, 1) := by decide +kernel
theorem dX0_exchangeLanes_17 : decode cX0_exchangeLanes 17 = .ok (.if_icmp .ne 13, 3) := by decide +kernel
theorem dX0_exchangeLanes_20 : decode cX0_exchangeLanes 20 = .ok (.aload_n 0, 1) := by decide +kernel
theorem dX0_exchangeLanes_21 : decode cX0_exchangeLanes 21 = .ok (.getfield 15, 3) := by decide +kernel
theorem dX0_exchangeLanes_24 : decode cX0_exchangeLanes 24 = .ok (.iload_n 3, 1) := by decide +kernel
theorem dX0_exchangeLanes_25 : decode cX0_exchangeLanes 25 = .ok (.iload_n 2, 1) := by decide +kernel
theorem dX0_exchangeLanes_26 : decode cX0_exchangeLanes 26 = .ok (.iastore, 1) := by decide +kernel
theorem dX0_exchangeLanes_27 : decode cX0_exchangeLanes 27 = .ok (.goto 20, 3) := by decide +kernel
theorem dX0_exchangeLanes_30 : decode cX0_exchangeLanes 30 = .ok (.aload_n 0, 1) := by decide +kernel
theorem dX0_exchangeLanes_31 : decode cX0_exchangeLanes 31 = .ok (.getfield 15, 3) := by decide +kernel
theorem dX0_exchangeLanes_34 : decode cX0_exchangeLanes 34 = .ok (.iload_n 3, 1) := by decide +kernel
theorem dX0_exchangeLanes_35 : decode cX0_exchangeLanes 35 = .ok (.iaload, 1) := by decide +kernel
theorem dX0_exchangeLanes_36 : decode cX0_exchangeLanes 36 = .ok (.iload_n 2, 1) := by decide +kernel
theorem dX0_exchangeLanes_37 : decode cX0_exchangeLanes 37 = .ok (.if_icmp .ne 10, 3) := by decide +kernel
theorem dX0_exchangeLanes_40 : decode cX0_exchangeLanes 40 = .ok (.aload_n 0, 1) := by decide +kernel
theorem dX0_exchangeLanes_41 : decode cX0_exchangeLanes 41 = .ok (.getfield 15, 3) := by decide +kernel
theorem dX0_exchangeLanes_44 : decode cX0_exchangeLanes 44 = .ok (.iload_n 3, 1) := by decide +kernel
theorem dX0_exchangeLanes_45 : decode cX0_exchangeLanes 45 = .ok (.iload_n 1, 1) := by decide +kernel
theorem dX0_exchangeLanes_46 : decode cX0_exchangeLanes 46 = .ok (.iastore, 1) := by decide +kernel
theorem dX0_exchangeLanes_47 : decode cX0_exchangeLanes 47 = .ok (.iinc 3 1, 3) := by decide +kernel
theorem dX0_exchangeLanes_50 : decode cX0_exchangeLanes 50 = .ok (.goto (-48), 3) := by decide +kernel
theorem dX0_exchangeLanes_53 : decode cX0_exchangeLanes 53 = .ok (.return_, 1) := by decide +kernel
theorem dX0_packLanes_0 : decode cX0_packLanes 0 = .ok (.iconst 0, 1) := by decide +kernel
theorem dX0_packLanes_1 : decode cX0_packLanes 1 = .ok (.istore_n 2, 1) := by decide +kernel
theorem dX0_packLanes_2 : decode cX0_packLanes 2 = .ok (.iconst 0, 1) := by decide +kernel
theorem dX0_packLanes_3 : decode cX0_packLanes 3 = .ok (.istore_n 3, 1) := by decide +kernel
theorem dX0_packLanes_4 : decode cX0_packLanes 4 = .ok (.iload_n 3, 1) := by decide +kernel
theorem dX0_packLanes_5 : decode cX0_packLanes 5 = .ok (.aload_n 0, 1) := by decide +kernel
theorem dX0_packLanes_6 : decode cX0_packLanes 6 = .ok (.getfield 45, 3) := by decide +kernel
theorem dX0_packLanes_9 : decode cX0_packLanes 9 = .ok (.if_icmp .ge 55, 3) := by decide +kernel
theorem dX0_packLanes_12 : decode cX0_packLanes 12 = .ok (.aload_n 1, 1) := by decide +kernel
theorem dX0_packLanes_13 : decode cX0_packLanes 13 = .ok (.iload_n 3, 1) := by decide +kernel
theorem dX0_packLanes_14 : decode cX0_packLanes 14 = .ok (.iaload, 1) := by decide +kernel
theorem dX0_packLanes_15 : decode cX0_packLanes 15 = .ok (.istore 4, 2) := by decide +kernel
theorem dX0_packLanes_17 : decode cX0_packLanes 17 = .ok (.aload_n 0, 1) := by decide +kernel
theorem dX0_packLanes_18 : decode cX0_packLanes 18 = .ok (.aload_n 1, 1) := by decide +kernel
theorem dX0_packLanes_19 : decode cX0_packLanes 19 = .ok (.iload_n 3, 1) := by decide +kernel
theorem dX0_packLanes_20 : decode cX0_packLanes 20 = .ok (.invokevirtual 100, 3) := by decide +kernel
theorem dX0_packLanes_23 : decode cX0_packLanes 23 = .ok (.istore 5, 2) := by decide +kernel
theorem dX0_packLanes_25 : decode cX0_packLanes 25 = .ok (.iload 5, 2) := by decide +kernel
theorem dX0_packLanes_27 : decode cX0_packLanes 27 = .ok (.bipush 12, 2) := by decide +kernel
theorem dX0_packLanes_29 : decode cX0_packLanes 29 = .ok (.if_icmp .lt 6, 3) := by decide +kernel
theorem dX0_packLanes_32 : decode cX0_packLanes 32 = .ok (.bipush (-4), 2) := by decide +kernel
theorem dX0_packLanes_34 : decode cX0_packLanes 34 = .ok (.ireturn, 1) := by decide +kernel
theorem dX0_packLanes_35 : decode cX0_packLanes 35 = .ok (.aload_n 0, 1) := by decide +kernel
theorem dX0_packLanes_36 : decode cX0_packLanes 36 = .ok (.getfield 15, 3) := by decide +kernel
theorem dX0_packLanes_39 : decode cX0_packLanes 39 = .ok (.iload 4, 2) := by decide +kernel
theorem dX0_packLanes_41 : decode cX0_packLanes 41 = .ok (.iaload, 1) := by decide +kernel
theorem dX0_packLanes_42 : decode cX0_packLanes 42 = .ok (.iload 5, 2) := by decide +kernel
theorem dX0_packLanes_44 : decode cX0_packLanes 44 = .ok (.if_icmp .eq 14, 3) := by decide +kernel
theorem dX0_packLanes_47 : decode cX0_packLanes 47 = .ok (.aload_n 0, 1) := by decide +kernel
theorem dX0_packLanes_48 : decode cX0_packLanes 48 = .ok (.getfield 15, 3) := by decide +kernel
theorem dX0_packLanes_51 : decode cX0_packLanes 51 = .ok (.iload 4, 2) := by decide +kernel
theorem dX0_packLanes_53 : decode cX0_packLanes 53 = .ok (.iload 5, 2) := by decide +kernel
theorem dX0_packLanes_55 : decode cX0_packLanes 55 = .ok (.iastore, 1) := by decide +kernel
theorem dX0_packLanes_56 : decode cX0_packLanes 56 = .ok (.iconst 1, 1) := by decide +kernel
theorem dX0_packLanes_57 : decode cX0_packLanes 57 = .ok (.istore_n 2, 1) := by decide +kernel
theorem dX0_packLanes_58 : decode cX0_packLanes 58 = .ok (.iinc 3 1, 3) := by decide +kernel
theorem dX0_packLanes_61 : decode cX0_packLanes 61 = .ok (.goto (-57), 3) := by decide +kernel
theorem dX0_packLanes_64 : decode cX0_packLanes 64 = .ok (.iload_n 2, 1) := by decide +kernel
theorem dX0_packLanes_65 : decode cX0_packLanes 65 = .ok (.ifCond .eq 10, 3) := by decide +kernel
theorem dX0_packLanes_68 : decode cX0_packLanes 68 = .ok (.aload_n 0, 1) := by decide +kernel
theorem dX0_packLanes_69 : decode cX0_packLanes 69 = .ok (.invokevirtual 104, 3) := by decide +kernel
theorem dX0_packLanes_72 : decode cX0_packLanes 72 = .ok (.goto 5, 3) := by decide +kernel
theorem dX0_packLanes_75 : decode cX0_packLanes 75 = .ok (.bipush (-5), 2) := by decide +kernel
theorem dX0_packLanes_77 : decode cX0_packLanes 77 = .ok (.ireturn, 1) := by decide +kernel
theorem dX0_lowestLane_0 : decode cX0_lowestLane 0 = .ok (.iconst 0, 1) := by decide +kernel
theorem dX0_lowestLane_1 : decode cX0_lowestLane 1 = .ok (.istore_n 3, 1) := by decide +kernel
theorem dX0_lowestLane_2 : decode cX0_lowestLane 2 = .ok (.iload_n 3, 1) := by decide +kernel
theorem dX0_lowestLane_3 : decode cX0_lowestLane 3 = .ok (.bipush 12, 2) := by decide +kernel
theorem dX0_lowestLane_5 : decode cX0_lowestLane 5 = .ok (.if_icmp .ge 19, 3) := by decide +kernel
theorem dX0_lowestLane_8 : decode cX0_lowestLane 8 = .ok (.aload_n 0, 1) := by decide +kernel
theorem dX0_lowestLane_9 : decode cX0_lowestLane 9 = .ok (.aload_n 1, 1) := by decide +kernel
theorem dX0_lowestLane_10 : decode cX0_lowestLane 10 = .ok (.iload_n 2, 1) := by decide +kernel
theorem dX0_lowestLane_11 : decode cX0_lowestLane 11 = .ok (.iload_n 3, 1) := by decide +kernel
theorem dX0_lowestLane_12 : decode cX0_lowestLane 12 = .ok (.invokevirtual 108, 3) := by decide +kernel
theorem dX0_lowestLane_15 : decode cX0_lowestLane 15 = .ok (.ifCond .eq 9, 3) := by decide +kernel
theorem dX0_lowestLane_18 : decode cX0_lowestLane 18 = .ok (.iinc 3 1, 3) := by decide +kernel
theorem dX0_lowestLane_21 : decode cX0_lowestLane 21 = .ok (.goto (-19), 3) := by decide +kernel
theorem dX0_lowestLane_24 : decode cX0_lowestLane 24 = .ok (.iload_n 3, 1) := by decide +kernel
theorem dX0_lowestLane_25 : decode cX0_lowestLane 25 = .ok (.ireturn, 1) := by decide +kernel
theorem dX0_isTaken_0 : decode cX0_isTaken 0 = .ok (.aload_n 1, 1) := by decide +kernel
theorem dX0_isTaken_1 : decode cX0_isTaken 1 = .ok (.iload_n 2, 1) := by decide +kernel
theorem dX0_isTaken_2 : decode cX0_isTaken 2 = .ok (.iaload, 1) := by decide +kernel
theorem dX0_isTaken_3 : decode cX0_isTaken 3 = .ok (.istore 4, 2) := by decide +kernel
theorem dX0_isTaken_5 : decode cX0_isTaken 5 = .ok (.iconst 0, 1) := by decide +kernel
theorem dX0_isTaken_6 : decode cX0_isTaken 6 = .ok (.istore 5, 2) := by decide +kernel
theorem dX0_isTaken_8 : decode cX0_isTaken 8 = .ok (.iload 5, 2) := by decide +kernel
theorem dX0_isTaken_10 : decode cX0_isTaken 10 = .ok (.iload_n 2, 1) := by decide +kernel
theorem dX0_isTaken_11 : decode cX0_isTaken 11 = .ok (.if_icmp .ge 50, 3) := by decide +kernel
theorem dX0_isTaken_14 : decode cX0_isTaken 14 = .ok (.aload_n 1, 1) := by decide +kernel
theorem dX0_isTaken_15 : decode cX0_isTaken 15 = .ok (.iload 5, 2) := by decide +kernel
theorem dX0_isTaken_17 : decode cX0_isTaken 17 = .ok (.iaload, 1) := by decide +kernel
theorem dX0_isTaken_18 : decode cX0_isTaken 18 = .ok (.istore 6, 2) := by decide +kernel
theorem dX0_isTaken_20 : decode cX0_isTaken 20 = .ok (.aload_n 0, 1) := by decide +kernel
theorem dX0_isTaken_21 : decode cX0_isTaken 21 = .ok (.getfield 15, 3) := by decide +kernel
theorem dX0_isTaken_24 : decode cX0_isTaken 24 = .ok (.iload 6, 2) := by decide +kernel
theorem dX0_isTaken_26 : decode cX0_isTaken 26 = .ok (.iaload, 1) := by decide +kernel
theorem dX0_isTaken_27 : decode cX0_isTaken 27 = .ok (.iload_n 3, 1) := by decide +kernel
theorem dX0_isTaken_28 : decode cX0_isTaken 28 = .ok (.if_icmp .ne 27, 3) := by decide +kernel
theorem dX0_isTaken_31 : decode cX0_isTaken 31 = .ok (.aload_n 0, 1) := by decide +kernel
theorem dX0_isTaken_32 : decode cX0_isTaken 32 = .ok (.iload 6, 2) := by decide +kernel
theorem dX0_isTaken_34 : decode cX0_isTaken 34 = .ok (.aload_n 0, 1) := by decide +kernel
theorem dX0_isTaken_35 : decode cX0_isTaken 35 = .ok (.getfield 18, 3) := by decide +kernel
theorem dX0_isTaken_38 : decode cX0_isTaken 38 = .ok (.iload 4, 2) := by decide +kernel
theorem dX0_isTaken_40 : decode cX0_isTaken 40 = .ok (.iaload, 1) := by decide +kernel
theorem dX0_isTaken_41 : decode cX0_isTaken 41 = .ok (.aload_n 0, 1) := by decide +kernel
theorem dX0_isTaken_42 : decode cX0_isTaken 42 = .ok (.iload 4, 2) := by decide +kernel
theorem dX0_isTaken_44 : decode cX0_isTaken 44 = .ok (.invokevirtual 97, 3) := by decide +kernel
theorem dX0_isTaken_47 : decode cX0_isTaken 47 = .ok (.invokevirtual 93, 3) := by decide +kernel
theorem dX0_isTaken_50 : decode cX0_isTaken 50 = .ok (.ifCond .eq 5, 3) := by decide +kernel
theorem dX0_isTaken_53 : decode cX0_isTaken 53 = .ok (.iconst 1, 1) := by decide +kernel
theorem dX0_isTaken_54 : decode cX0_isTaken 54 = .ok (.ireturn, 1) := by decide +kernel
theorem dX0_isTaken_55 : decode cX0_isTaken 55 = .ok (.iinc 5 1, 3) := by decide +kernel
theorem dX0_isTaken_58 : decode cX0_isTaken 58 = .ok (.goto (-50), 3) := by decide +kernel
theorem dX0_isTaken_61 : decode cX0_isTaken 61 = .ok (.iconst 0, 1) := by decide +kernel
theorem dX0_isTaken_62 : decode cX0_isTaken 62 = .ok (.ireturn, 1) := by decide +kernel
theorem dX0_slipTo_0 : decode cX0_slipTo 0 = .ok (.iconst 0, 1) := by decide +kernel
theorem dX0_slipTo_1 : decode cX0_slipTo 1 = .ok (.istore_n 2, 1) := by decide +kernel
theorem dX0_slipTo_2 : decode cX0_slipTo 2 = .ok (.iconst 0, 1) := by decide +kernel
theorem dX0_slipTo_3 : decode cX0_slipTo 3 = .ok (.istore_n 3, 1) := by decide +kernel
theorem dX0_slipTo_4 : decode cX0_slipTo 4 = .ok (.iload_n 3, 1) := by decide +kernel
theorem dX0_slipTo_5 : decode cX0_slipTo 5 = .ok (.aload_n 0, 1) := by decide +kernel
theorem dX0_slipTo_6 : decode cX0_slipTo 6 = .ok (.getfield 45, 3) := by decide +kernel
theorem dX0_slipTo_9 : decode cX0_slipTo 9 = .ok (.if_icmp .ge 52, 3) := by decide +kernel
theorem dX0_slipTo_12 : decode cX0_slipTo 12 = .ok (.aload_n 1, 1) := by decide +kernel
theorem dX0_slipTo_13 : decode cX0_slipTo 13 = .ok (.iload_n 3, 1) := by decide +kernel
theorem dX0_slipTo_14 : decode cX0_slipTo 14 = .ok (.iaload, 1) := by decide +kernel
theorem dX0_slipTo_15 : decode cX0_slipTo 15 = .ok (.aload_n 0, 1) := by decide +kernel
theorem dX0_slipTo_16 : decode cX0_slipTo 16 = .ok (.getfield 18, 3) := by decide +kernel
theorem dX0_slipTo_19 : decode cX0_slipTo 19 = .ok (.iload_n 3, 1) := by decide +kernel
theorem dX0_slipTo_20 : decode cX0_slipTo 20 = .ok (.iaload, 1) := by decide +kernel
theorem dX0_slipTo_21 : decode cX0_slipTo 21 = .ok (.if_icmp .eq 34, 3) := by decide +kernel
theorem dX0_slipTo_24 : decode cX0_slipTo 24 = .ok (.aload_n 0, 1) := by decide +kernel
theorem dX0_slipTo_25 : decode cX0_slipTo 25 = .ok (.dup, 1) := by decide +kernel
theorem dX0_slipTo_26 : decode cX0_slipTo 26 = .ok (.getfield 64, 3) := by decide +kernel
theorem dX0_slipTo_29 : decode cX0_slipTo 29 = .ok (.aload_n 1, 1) := by decide +kernel
theorem dX0_slipTo_30 : decode cX0_slipTo 30 = .ok (.iload_n 3, 1) := by decide +kernel
theorem dX0_slipTo_31 : decode cX0_slipTo 31 = .ok (.iaload, 1) := by decide +kernel
theorem dX0_slipTo_32 : decode cX0_slipTo 32 = .ok (.aload_n 0, 1) := by decide +kernel
theorem dX0_slipTo_33 : decode cX0_slipTo 33 = .ok (.getfield 18, 3) := by decide +kernel
theorem dX0_slipTo_36 : decode cX0_slipTo 36 = .ok (.iload_n 3, 1) := by decide +kernel
theorem dX0_slipTo_37 : decode cX0_slipTo 37 = .ok (.iaload, 1) := by decide +kernel
theorem dX0_slipTo_38 : decode cX0_slipTo 38 = .ok (.isub, 1) := by decide +kernel
theorem dX0_slipTo_39 : decode cX0_slipTo 39 = .ok (.iadd, 1) := by decide +kernel
theorem dX0_slipTo_40 : decode cX0_slipTo 40 = .ok (.putfield 64, 3) := by decide +kernel
theorem dX0_slipTo_43 : decode cX0_slipTo 43 = .ok (.aload_n 0, 1) := by decide +kernel
theorem dX0_slipTo_44 : decode cX0_slipTo 44 = .ok (.getfield 18, 3) := by decide +kernel
theorem dX0_slipTo_47 : decode cX0_slipTo 47 = .ok (.iload_n 3, 1) := by decide +kernel
theorem dX0_slipTo_48 : decode cX0_slipTo 48 = .ok (.aload_n 1, 1) := by decide +kernel
theorem dX0_slipTo_49 : decode cX0_slipTo 49 = .ok (.iload_n 3, 1) := by decide +kernel
theorem dX0_slipTo_50 : decode cX0_slipTo 50 = .ok (.iaload, 1) := by decide +kernel
theorem dX0_slipTo_51 : decode cX0_slipTo 51 = .ok (.iastore, 1) := by decide +kernel
theorem dX0_slipTo_52 : decode cX0_slipTo 52 = .ok (.iinc 2 1, 3) := by decide +kernel
theorem dX0_slipTo_55 : decode cX0_slipTo 55 = .ok (.iinc 3 1, 3) := by decide +kernel
theorem dX0_slipTo_58 : decode cX0_slipTo 58 = .ok (.goto (-54), 3) := by decide +kernel
theorem dX0_slipTo_61 : decode cX0_slipTo 61 = .ok (.iload_n 2, 1) := by decide +kernel
theorem dX0_slipTo_62 : decode cX0_slipTo 62 = .ok (.ireturn, 1) := by decide +kernel
theorem dX0_setWidths_0 : decode cX0_setWidths 0 = .ok (.iconst 0, 1) := by decide +kernel
theorem dX0_setWidths_1 : decode cX0_setWidths 1 = .ok (.istore 4, 2) := by decide +kernel
theorem dX0_setWidths_3 : decode cX0_setWidths 3 = .ok (.iload_n 1, 1) := by decide +kernel
theorem dX0_setWidths_4 : decode cX0_setWidths 4 = .ok (.istore 5, 2) := by decide +kernel
theorem dX0_setWidths_6 : decode cX0_setWidths 6 = .ok (.iload 5, 2) := by decide +kernel
theorem dX0_setWidths_8 : decode cX0_setWidths 8 = .ok (.iload_n 2, 1) := by decide +kernel
theorem dX0_setWidths_9 : decode cX0_setWidths 9 = .ok (.if_icmp .gt 31, 3) := by decide +kernel
theorem dX0_setWidths_12 : decode cX0_setWidths 12 = .ok (.aload_n 0, 1) := by decide +kernel
theorem dX0_setWidths_13 : decode cX0_setWidths 13 = .ok (.getfield 33, 3) := by decide +kernel
theorem dX0_setWidths_16 : decode cX0_setWidths 16 = .ok (.iload 5, 2) := by decide +kernel
theorem dX0_setWidths_18 : decode cX0_setWidths 18 = .ok (.iaload, 1) := by decide +kernel
theorem dX0_setWidths_19 : decode cX0_setWidths 19 = .ok (.iload_n 3, 1) := by decide +kernel
theorem dX0_setWidths_20 : decode cX0_setWidths 20 = .ok (.if_icmp .eq 14, 3) := by decide +kernel
theorem dX0_setWidths_23 : decode cX0_setWidths 23 = .ok (.aload_n 0, 1) := by decide +kernel
theorem dX0_setWidths_24 : decode cX0_setWidths 24 = .ok (.getfield 33, 3) := by decide +kernel
theorem dX0_setWidths_27 : decode cX0_setWidths 27 = .ok (.iload 5, 2) := by decide +kernel
theorem dX0_setWidths_29 : decode cX0_setWidths 29 = .ok (.iload_n 3, 1) := by decide +kernel
theorem dX0_setWidths_30 : decode cX0_setWidths 30 = .ok (.iastore, 1) := by decide +kernel
theorem dX0_setWidths_31 : decode cX0_setWidths 31 = .ok (.iinc 4 1, 3) := by decide +kernel
theorem dX0_setWidths_34 : decode cX0_setWidths 34 = .ok (.iinc 5 1, 3) := by decide +kernel
theorem dX0_setWidths_37 : decode cX0_setWidths 37 = .ok (.goto (-31), 3) := by decide +kernel
theorem dX0_setWidths_40 : decode cX0_setWidths 40 = .ok (.iload 4, 2) := by decide +kernel
theorem dX0_setWidths_42 : decode cX0_setWidths 42 = .ok (.ireturn, 1) := by decide +kernel
theorem dX0_endOf_0 : decode cX0_endOf 0 = .ok (.aload_n 0, 1) := by decide +kernel
theorem dX0_endOf_1 : decode cX0_endOf 1 = .ok (.getfield 18, 3) := by decide +kernel
theorem dX0_endOf_4 : decode cX0_endOf 4 = .ok (.iload_n 1, 1) := by decide +kernel
theorem dX0_endOf_5 : decode cX0_endOf 5 = .ok (.iaload, 1) := by decide +kernel
theorem dX0_endOf_6 : decode cX0_endOf 6 = .ok (.aload_n 0, 1) := by decide +kernel
theorem dX0_endOf_7 : decode cX0_endOf 7 = .ok (.getfield 21, 3) := by decide +kernel
theorem dX0_endOf_10 : decode cX0_endOf 10 = .ok (.iload_n 1, 1) := by decide +kernel
theorem dX0_endOf_11 : decode cX0_endOf 11 = .ok (.iaload, 1) := by decide +kernel
theorem dX0_endOf_12 : decode cX0_endOf 12 = .ok (.iadd, 1) := by decide +kernel
theorem dX0_endOf_13 : decode cX0_endOf 13 = .ok (.ireturn, 1) := by decide +kernel
theorem dX0_greatestEnd_0 : decode cX0_greatestEnd 0 = .ok (.iconst 0, 1) := by decide +kernel
theorem dX0_greatestEnd_1 : decode cX0_greatestEnd 1 = .ok (.istore_n 1, 1) := by decide +kernel
theorem dX0_greatestEnd_2 : decode cX0_greatestEnd 2 = .ok (.iconst 0, 1) := by decide +kernel
theorem dX0_greatestEnd_3 : decode cX0_greatestEnd 3 = .ok (.istore_n 2, 1) := by decide +kernel
theorem dX0_greatestEnd_4 : decode cX0_greatestEnd 4 = .ok (.iload_n 2, 1) := by decide +kernel
theorem dX0_greatestEnd_5 : decode cX0_greatestEnd 5 = .ok (.aload_n 0, 1) := by decide +kernel
theorem dX0_greatestEnd_6 : decode cX0_greatestEnd 6 = .ok (.getfield 45, 3) := by decide +kernel
theorem dX0_greatestEnd_9 : decode cX0_greatestEnd 9 = .ok (.if_icmp .ge 19, 3) := by decide +kernel
theorem dX0_greatestEnd_12 : decode cX0_greatestEnd 12 = .ok (.iload_n 1, 1) := by decide +kernel
theorem dX0_greatestEnd_13 : decode cX0_greatestEnd 13 = .ok (.aload_n 0, 1) := by decide +kernel
theorem dX0_greatestEnd_14 : decode cX0_greatestEnd 14 = .ok (.iload_n 2, 1) := by decide +kernel
theorem dX0_greatestEnd_15 : decode cX0_greatestEnd 15 = .ok (.invokevirtual 97, 3) := by decide +kernel
theorem dX0_greatestEnd_18 : decode cX0_greatestEnd 18 = .ok (.invokestatic 112, 3) := by decide +kernel
theorem dX0_greatestEnd_21 : decode cX0_greatestEnd 21 = .ok (.istore_n 1, 1) := by decide +kernel
theorem dX0_greatestEnd_22 : decode cX0_greatestEnd 22 = .ok (.iinc 2 1, 3) := by decide +kernel
theorem dX0_greatestEnd_25 : decode cX0_greatestEnd 25 = .ok (.goto (-21), 3) := by decide +kernel
theorem dX0_greatestEnd_28 : decode cX0_greatestEnd 28 = .ok (.iload_n 1, 1) := by decide +kernel
theorem dX0_greatestEnd_29 : decode cX0_greatestEnd 29 = .ok (.ireturn, 1) := by decide +kernel
theorem dX0_lateBy_0 : decode cX0_lateBy 0 = .ok (.iconst 0, 1) := by decide +kernel
theorem dX0_lateBy_1 : decode cX0_lateBy 1 = .ok (.aload_n 0, 1) := by decide +kernel
theorem dX0_lateBy_2 : decode cX0_lateBy 2 = .ok (.aload_n 0, 1) := by decide +kernel
theorem dX0_lateBy_3 : decode cX0_lateBy 3 = .ok (.getfield 27, 3) := by decide +kernel
theorem dX0_lateBy_6 : decode cX0_lateBy 6 = .ok (.iload_n 1, 1) := by decide +kernel
theorem dX0_lateBy_7 : decode cX0_lateBy 7 = .ok (.iaload, 1) := by decide +kernel
theorem dX0_lateBy_8 : decode cX0_lateBy 8 = .ok (.invokevirtual 97, 3) := by decide +kernel
theorem dX0_lateBy_11 : decode cX0_lateBy 11 = .ok (.aload_n 0, 1) := by decide +kernel
theorem dX0_lateBy_12 : decode cX0_lateBy 12 = .ok (.getfield 18, 3) := by decide +kernel
theorem dX0_lateBy_15 : decode cX0_lateBy 15 = .ok (.aload_n 0, 1) := by decide +kernel
theorem dX0_lateBy_16 : decode cX0_lateBy 16 = .ok (.getfield 30, 3) := by decide +kernel
theorem dX0_lateBy_19 : decode cX0_lateBy 19 = .ok (.iload_n 1, 1) := by decide +kernel
theorem dX0_lateBy_20 : decode cX0_lateBy 20 = .ok (.iaload, 1) := by decide +kernel
theorem dX0_lateBy_21 : decode cX0_lateBy 21 = .ok (.iaload, 1) := by decide +kernel
theorem dX0_lateBy_22 : decode cX0_lateBy 22 = .ok (.isub, 1) := by decide +kernel
theorem dX0_lateBy_23 : decode cX0_lateBy 23 = .ok (.invokestatic 112, 3) := by decide +kernel
theorem dX0_lateBy_26 : decode cX0_lateBy 26 = .ok (.ireturn, 1) := by decide +kernel
theorem dX0_lateArrows_0 : decode cX0_lateArrows 0 = .ok (.iconst 0, 1) := by decide +kernel
theorem dX0_lateArrows_1 : decode cX0_lateArrows 1 = .ok (.istore_n 1, 1) := by decide +kernel
theorem dX0_lateArrows_2 : decode cX0_lateArrows 2 = .ok (.iconst 0, 1) := by decide +kernel
theorem dX0_lateArrows_3 : decode cX0_lateArrows 3 = .ok (.istore_n 2, 1) := by decide +kernel
theorem dX0_lateArrows_4 : decode cX0_lateArrows 4 = .ok (.iload_n 2, 1) := by decide +kernel
theorem dX0_lateArrows_5 : decode cX0_lateArrows 5 = .ok (.aload_n 0, 1) := by decide +kernel
theorem dX0_lateArrows_6 : decode cX0_lateArrows 6 = .ok (.getfield 58, 3) := by decide +kernel
theorem dX0_lateArrows_9 : decode cX0_lateArrows 9 = .ok (.if_icmp .ge 25, 3) := by decide +kernel
theorem dX0_lateArrows_12 : decode cX0_lateArrows 12 = .ok (.iload_n 1, 1) := by decide +kernel
theorem dX0_lateArrows_13 : decode cX0_lateArrows 13 = .ok (.aload_n 0, 1) := by decide +kernel
theorem dX0_lateArrows_14 : decode cX0_lateArrows 14 = .ok (.iload_n 2, 1) := by decide +kernel
theorem dX0_lateArrows_15 : decode cX0_lateArrows 15 = .ok (.invokevirtual 118, 3) := by decide +kernel
theorem dX0_lateArrows_18 : decode cX0_lateArrows 18 = .ok (.ifCond .le 7, 3) := by decide +kernel
theorem dX0_lateArrows_21 : decode cX0_lateArrows 21 = .ok (.iconst 1, 1) := by decide +kernel
theorem dX0_lateArrows_22 : decode cX0_lateArrows 22 = .ok (.goto 4, 3) := by decide +kernel
theorem dX0_lateArrows_25 : decode cX0_lateArrows 25 = .ok (.iconst 0, 1) := by decide +kernel
theorem dX0_lateArrows_26 : decode cX0_lateArrows 26 = .ok (.iadd, 1) := by decide +kernel
theorem dX0_lateArrows_27 : decode cX0_lateArrows 27 = .ok (.istore_n 1, 1) := by decide +kernel
theorem dX0_lateArrows_28 : decode cX0_lateArrows 28 = .ok (.iinc 2 1, 3) := by decide +kernel
theorem dX0_lateArrows_31 : decode cX0_lateArrows 31 = .ok (.goto (-27), 3) := by decide +kernel
theorem dX0_lateArrows_34 : decode cX0_lateArrows 34 = .ok (.iload_n 1, 1) := by decide +kernel
theorem dX0_lateArrows_35 : decode cX0_lateArrows 35 = .ok (.ireturn, 1) := by decide +kernel
theorem dX0_arrowsFrom_0 : decode cX0_arrowsFrom 0 = .ok (.iconst 0, 1) := by decide +kernel
theorem dX0_arrowsFrom_1 : decode cX0_arrowsFrom 1 = .ok (.istore_n 2, 1) := by decide +kernel
theorem dX0_arrowsFrom_2 : decode cX0_arrowsFrom 2 = .ok (.iconst 0, 1) := by decide +kernel
theorem dX0_arrowsFrom_3 : decode cX0_arrowsFrom 3 = .ok (.istore_n 3, 1) := by decide +kernel
theorem dX0_arrowsFrom_4 : decode cX0_arrowsFrom 4 = .ok (.iload_n 3, 1) := by decide +kernel
theorem dX0_arrowsFrom_5 : decode cX0_arrowsFrom 5 = .ok (.aload_n 0, 1) := by decide +kernel
theorem dX0_arrowsFrom_6 : decode cX0_arrowsFrom 6 = .ok (.getfield 58, 3) := by decide +kernel
theorem dX0_arrowsFrom_9 : decode cX0_arrowsFrom 9 = .ok (.if_icmp .ge 27, 3) := by decide +kernel
theorem dX0_arrowsFrom_12 : decode cX0_arrowsFrom 12 = .ok (.iload_n 2, 1) := by decide +kernel
theorem dX0_arrowsFrom_13 : decode cX0_arrowsFrom 13 = .ok (.aload_n 0, 1) := by decide +kernel
theorem dX0_arrowsFrom_14 : decode cX0_arrowsFrom 14 = .ok (.getfield 27, 3) := by decide +kernel
theorem dX0_arrowsFrom_17 : decode cX0_arrowsFrom 17 = .ok (.iload_n 3, 1) := by decide +kernel
theorem dX0_arrowsFrom_18 : decode cX0_arrowsFrom 18 = .ok (.iaload, 1) := by decide +kernel
theorem dX0_arrowsFrom_19 : decode cX0_arrowsFrom 19 = .ok (.iload_n 1, 1) := by decide +kernel
theorem dX0_arrowsFrom_20 : decode cX0_arrowsFrom 20 = .ok (.if_icmp .ne 7, 3) := by decide +kernel
theorem dX0_arrowsFrom_23 : decode cX0_arrowsFrom 23 = .ok (.iconst 1, 1) := by decide +kernel
theorem dX0_arrowsFrom_24 : decode cX0_arrowsFrom 24 = .ok (.goto 4, 3) := by decide +kernel
theorem dX0_arrowsFrom_27 : decode cX0_arrowsFrom 27 = .ok (.iconst 0, 1) := by decide +kernel
theorem dX0_arrowsFrom_28 : decode cX0_arrowsFrom 28 = .ok (.iadd, 1) := by decide +kernel
theorem dX0_arrowsFrom_29 : decode cX0_arrowsFrom 29 = .ok (.istore_n 2, 1) := by decide +kernel
theorem dX0_arrowsFrom_30 : decode cX0_arrowsFrom 30 = .ok (.iinc 3 1, 3) := by decide +kernel
theorem dX0_arrowsFrom_33 : decode cX0_arrowsFrom 33 = .ok (.goto (-29), 3) := by decide +kernel
theorem dX0_arrowsFrom_36 : decode cX0_arrowsFrom 36 = .ok (.iload_n 2, 1) := by decide +kernel
theorem dX0_arrowsFrom_37 : decode cX0_arrowsFrom 37 = .ok (.ireturn, 1) := by decide +kernel
theorem dX0_arrowsTo_0 : decode cX0_arrowsTo 0 = .ok (.iconst 0, 1) := by decide +kernel
theorem dX0_arrowsTo_1 : decode cX0_arrowsTo 1 = .ok (.istore_n 2, 1) := by decide +kernel
theorem dX0_arrowsTo_2 : decode cX0_arrowsTo 2 = .ok (.iconst 0, 1) := by decide +kernel
theorem dX0_arrowsTo_3 : decode cX0_arrowsTo 3 = .ok (.istore_n 3, 1) := by decide +kernel
theorem dX0_arrowsTo_4 : decode cX0_arrowsTo 4 = .ok (.iload_n 3, 1) := by decide +kernel
theorem dX0_arrowsTo_5 : decode cX0_arrowsTo 5 = .ok (.aload_n 0, 1) := by decide +kernel
theorem dX0_arrowsTo_6 : decode cX0_arrowsTo 6 = .ok (.getfield 58, 3) := by decide +kernel
theorem dX0_arrowsTo_9 : decode cX0_arrowsTo 9 = .ok (.if_icmp .ge 27, 3) := by decide +kernel
theorem dX0_arrowsTo_12 : decode cX0_arrowsTo 12 = .ok (.iload_n 2, 1) := by decide +kernel
theorem dX0_arrowsTo_13 : decode cX0_arrowsTo 13 = .ok (.aload_n 0, 1) := by decide +kernel
theorem dX0_arrowsTo_14 : decode cX0_arrowsTo 14 = .ok (.getfield 30, 3) := by decide +kernel
theorem dX0_arrowsTo_17 : decode cX0_arrowsTo 17 = .ok (.iload_n 3, 1) := by decide +kernel
theorem dX0_arrowsTo_18 : decode cX0_arrowsTo 18 = .ok (.iaload, 1) := by decide +kernel
theorem dX0_arrowsTo_19 : decode cX0_arrowsTo 19 = .ok (.iload_n 1, 1) := by decide +kernel
theorem dX0_arrowsTo_20 : decode cX0_arrowsTo 20 = .ok (.if_icmp .ne 7, 3) := by decide +kernel
theorem dX0_arrowsTo_23 : decode cX0_arrowsTo 23 = .ok (.iconst 1, 1) := by decide +kernel
theorem dX0_arrowsTo_24 : decode cX0_arrowsTo 24 = .ok (.goto 4, 3) := by decide +kernel
theorem dX0_arrowsTo_27 : decode cX0_arrowsTo 27 = .ok (.iconst 0, 1) := by decide +kernel
theorem dX0_arrowsTo_28 : decode cX0_arrowsTo 28 = .ok (.iadd, 1) := by decide +kernel
theorem dX0_arrowsTo_29 : decode cX0_arrowsTo 29 = .ok (.istore_n 2, 1) := by decide +kernel
theorem dX0_arrowsTo_30 : decode cX0_arrowsTo 30 = .ok (.iinc 3 1, 3) := by decide +kernel
theorem dX0_arrowsTo_33 : decode cX0_arrowsTo 33 = .ok (.goto (-29), 3) := by decide +kernel
theorem dX0_arrowsTo_36 : decode cX0_arrowsTo 36 = .ok (.iload_n 2, 1) := by decide +kernel
theorem dX0_arrowsTo_37 : decode cX0_arrowsTo 37 = .ok (.ireturn, 1) := by decide +kernel
theorem dX0_hasBars_0 : decode cX0_hasBars 0 = .ok (.iconst 0, 1) := by decide +kernel
theorem dX0_hasBars_1 : decode cX0_hasBars 1 = .ok (.istore_n 2, 1) := by decide +kernel
theorem dX0_hasBars_2 : decode cX0_hasBars 2 = .ok (.iload_n 2, 1) := by decide +kernel
theorem dX0_hasBars_3 : decode cX0_hasBars 3 = .ok (.aload_n 0, 1) := by decide +kernel
theorem dX0_hasBars_4 : decode cX0_hasBars 4 = .ok (.getfield 45, 3) := by decide +kernel
theorem dX0_hasBars_7 : decode cX0_hasBars 7 = .ok (.if_icmp .ge 21, 3) := by decide +kernel
theorem dX0_hasBars_10 : decode cX0_hasBars 10 = .ok (.aload_n 0, 1) := by decide +kernel
theorem dX0_hasBars_11 : decode cX0_hasBars 11 = .ok (.getfield 15, 3) := by decide +kernel
theorem dX0_hasBars_14 : decode cX0_hasBars 14 = .ok (.iload_n 2, 1) := by decide +kernel
theorem dX0_hasBars_15 : decode cX0_hasBars 15 = .ok (.iaload, 1) := by decide +kernel
theorem dX0_hasBars_16 : decode cX0_hasBars 16 = .ok (.iload_n 1, 1) := by decide +kernel
theorem dX0_hasBars_17 : decode cX0_hasBars 17 = .ok (.if_icmp .ne 5, 3) := by decide +kernel
theorem dX0_hasBars_20 : decode cX0_hasBars 20 = .ok (.iconst 1, 1) := by decide +kernel
theorem dX0_hasBars_21 : decode cX0_hasBars 21 = .ok (.ireturn, 1) := by decide +kernel
theorem dX0_hasBars_22 : decode cX0_hasBars 22 = .ok (.iinc 2 1, 3) := by decide +kernel
theorem dX0_hasBars_25 : decode cX0_hasBars 25 = .ok (.goto (-23), 3) := by decide +kernel
theorem dX0_hasBars_28 : decode cX0_hasBars 28 = .ok (.iconst 0, 1) := by decide +kernel
theorem dX0_hasBars_29 : decode cX0_hasBars 29 = .ok (.ireturn, 1) := by decide +kernel
theorem dX0_lanesWithBars_0 : decode cX0_lanesWithBars 0 = .ok (.iconst 0, 1) := by decide +kernel
theorem dX0_lanesWithBars_1 : decode cX0_lanesWithBars 1 = .ok (.istore_n 1, 1) := by decide +kernel
theorem dX0_lanesWithBars_2 : decode cX0_lanesWithBars 2 = .ok (.iconst 0, 1) := by decide +kernel
theorem dX0_lanesWithBars_3 : decode cX0_lanesWithBars 3 = .ok (.istore_n 2, 1) := by decide +kernel
theorem dX0_lanesWithBars_4 : decode cX0_lanesWithBars 4 = .ok (.iload_n 2, 1) := by decide +kernel
theorem dX0_lanesWithBars_5 : decode cX0_lanesWithBars 5 = .ok (.bipush 12, 2) := by decide +kernel
theorem dX0_lanesWithBars_7 : decode cX0_lanesWithBars 7 = .ok (.if_icmp .ge 25, 3) := by decide +kernel
theorem dX0_lanesWithBars_10 : decode cX0_lanesWithBars 10 = .ok (.iload_n 1, 1) := by decide +kernel
theorem dX0_lanesWithBars_11 : decode cX0_lanesWithBars 11 = .ok (.aload_n 0, 1) := by decide +kernel
theorem dX0_lanesWithBars_12 : decode cX0_lanesWithBars 12 = .ok (.iload_n 2, 1) := by decide +kernel
theorem dX0_lanesWithBars_13 : decode cX0_lanesWithBars 13 = .ok (.invokevirtual 121, 3) := by decide +kernel
theorem dX0_lanesWithBars_16 : decode cX0_lanesWithBars 16 = .ok (.ifCond .eq 7, 3) := by decide +kernel
theorem dX0_lanesWithBars_19 : decode cX0_lanesWithBars 19 = .ok (.iconst 1, 1) := by decide +kernel
theorem dX0_lanesWithBars_20 : decode cX0_lanesWithBars 20 = .ok (.goto 4, 3) := by decide +kernel
theorem dX0_lanesWithBars_23 : decode cX0_lanesWithBars 23 = .ok (.iconst 0, 1) := by decide +kernel
theorem dX0_lanesWithBars_24 : decode cX0_lanesWithBars 24 = .ok (.iadd, 1) := by decide +kernel
theorem dX0_lanesWithBars_25 : decode cX0_lanesWithBars 25 = .ok (.istore_n 1, 1) := by decide +kernel
theorem dX0_lanesWithBars_26 : decode cX0_lanesWithBars 26 = .ok (.iinc 2 1, 3) := by decide +kernel
theorem dX0_lanesWithBars_29 : decode cX0_lanesWithBars 29 = .ok (.goto (-25), 3) := by decide +kernel
theorem dX0_lanesWithBars_32 : decode cX0_lanesWithBars 32 = .ok (.iload_n 1, 1) := by decide +kernel
theorem dX0_lanesWithBars_33 : decode cX0_lanesWithBars 33 = .ok (.ireturn, 1) := by decide +kernel
theorem dX0_barAt_0 : decode cX0_barAt 0 = .ok (.iconst 0, 1) := by decide +kernel
theorem dX0_barAt_1 : decode cX0_barAt 1 = .ok (.istore_n 3, 1) := by decide +kernel
theorem dX0_barAt_2 : decode cX0_barAt 2 = .ok (.iload_n 3, 1) := by decide +kernel
theorem dX0_barAt_3 : decode cX0_barAt 3 = .ok (.aload_n 0, 1) := by decide +kernel
theorem dX0_barAt_4 : decode cX0_barAt 4 = .ok (.getfield 45, 3) := by decide +kernel
theorem dX0_barAt_7 : decode cX0_barAt 7 = .ok (.if_icmp .ge 38, 3) := by decide +kernel
theorem dX0_barAt_10 : decode cX0_barAt 10 = .ok (.aload_n 0, 1) := by decide +kernel
theorem dX0_barAt_11 : decode cX0_barAt 11 = .ok (.getfield 15, 3) := by decide +kernel
theorem dX0_barAt_14 : decode cX0_barAt 14 = .ok (.iload_n 3, 1) := by decide +kernel
theorem dX0_barAt_15 : decode cX0_barAt 15 = .ok (.iaload, 1) := by decide +kernel
theorem dX0_barAt_16 : decode cX0_barAt 16 = .ok (.iload_n 1, 1) := by decide +kernel
theorem dX0_barAt_17 : decode cX0_barAt 17 = .ok (.if_icmp .ne 22, 3) := by decide +kernel
theorem dX0_barAt_20 : decode cX0_barAt 20 = .ok (.aload_n 0, 1) := by decide +kernel
theorem dX0_barAt_21 : decode cX0_barAt 21 = .ok (.iload_n 3, 1) := by decide +kernel
theorem dX0_barAt_22 : decode cX0_barAt 22 = .ok (.iload_n 2, 1) := by decide +kernel
theorem dX0_barAt_23 : decode cX0_barAt 23 = .ok (.iload_n 2, 1) := by decide +kernel
theorem dX0_barAt_24 : decode cX0_barAt 24 = .ok (.iconst 1, 1) := by decide +kernel
theorem dX0_barAt_25 : decode cX0_barAt 25 = .ok (.iadd, 1) := by decide +kernel
theorem dX0_barAt_26 : decode cX0_barAt 26 = .ok (.invokevirtual 93, 3) := by decide +kernel
theorem dX0_barAt_29 : decode cX0_barAt 29 = .ok (.ifCond .eq 10, 3) := by decide +kernel
theorem dX0_barAt_32 : decode cX0_barAt 32 = .ok (.aload_n 0, 1) := by decide +kernel
theorem dX0_barAt_33 : decode cX0_barAt 33 = .ok (.getfield 9, 3) := by decide +kernel
theorem dX0_barAt_36 : decode cX0_barAt 36 = .ok (.iload_n 3, 1) := by decide +kernel
theorem dX0_barAt_37 : decode cX0_barAt 37 = .ok (.iaload, 1) := by decide +kernel
theorem dX0_barAt_38 : decode cX0_barAt 38 = .ok (.ireturn, 1) := by decide +kernel
theorem dX0_barAt_39 : decode cX0_barAt 39 = .ok (.iinc 3 1, 3) := by decide +kernel
theorem dX0_barAt_42 : decode cX0_barAt 42 = .ok (.goto (-40), 3) := by decide +kernel
theorem dX0_barAt_45 : decode cX0_barAt 45 = .ok (.bipush (-5), 2) := by decide +kernel
theorem dX0_barAt_47 : decode cX0_barAt 47 = .ok (.ireturn, 1) := by decide +kernel
theorem dX0_nextInLane_0 : decode cX0_nextInLane 0 = .ok (.iconst (-1), 1) := by decide +kernel
theorem dX0_nextInLane_1 : decode cX0_nextInLane 1 = .ok (.istore_n 2, 1) := by decide +kernel
theorem dX0_nextInLane_2 : decode cX0_nextInLane 2 = .ok (.iconst 0, 1) := by decide +kernel
theorem dX0_nextInLane_3 : decode cX0_nextInLane 3 = .ok (.istore_n 3, 1) := by decide +kernel
theorem dX0_nextInLane_4 : decode cX0_nextInLane 4 = .ok (.iload_n 3, 1) := by decide +kernel
theorem dX0_nextInLane_5 : decode cX0_nextInLane 5 = .ok (.aload_n 0, 1) := by decide +kernel
theorem dX0_nextInLane_6 : decode cX0_nextInLane 6 = .ok (.getfield 45, 3) := by decide +kernel
theorem dX0_nextInLane_9 : decode cX0_nextInLane 9 = .ok (.if_icmp .ge 72, 3) := by decide +kernel
theorem dX0_nextInLane_12 : decode cX0_nextInLane 12 = .ok (.aload_n 0, 1) := by decide +kernel
theorem dX0_nextInLane_13 : decode cX0_nextInLane 13 = .ok (.getfield 15, 3) := by decide +kernel
theorem dX0_nextInLane_16 : decode cX0_nextInLane 16 = .ok (.iload_n 3, 1) := by decide +kernel
theorem dX0_nextInLane_17 : decode cX0_nextInLane 17 = .ok (.iaload, 1) := by decide +kernel
theorem dX0_nextInLane_18 : decode cX0_nextInLane 18 = .ok (.aload_n 0, 1) := by decide +kernel
theorem dX0_nextInLane_19 : decode cX0_nextInLane 19 = .ok (.getfield 15, 3) := by decide +kernel
theorem dX0_nextInLane_22 : decode cX0_nextInLane 22 = .ok (.iload_n 1, 1) := by decide +kernel
theorem dX0_nextInLane_23 : decode cX0_nextInLane 23 = .ok (.iaload, 1) := by decide +kernel
theorem dX0_nextInLane_24 : decode cX0_nextInLane 24 = .ok (.if_icmp .ne 22, 3) := by decide +kernel
theorem dX0_nextInLane_27 : decode cX0_nextInLane 27 = .ok (.aload_n 0, 1) := by decide +kernel
theorem dX0_nextInLane_28 : decode cX0_nextInLane 28 = .ok (.getfield 18, 3) := by decide +kernel
theorem dX0_nextInLane_31 : decode cX0_nextInLane 31 = .ok (.iload_n 3, 1) := by decide +kernel
theorem dX0_nextInLane_32 : decode cX0_nextInLane 32 = .ok (.iaload, 1) := by decide +kernel
theorem dX0_nextInLane_33 : decode cX0_nextInLane 33 = .ok (.aload_n 0, 1) := by decide +kernel
theorem dX0_nextInLane_34 : decode cX0_nextInLane 34 = .ok (.getfield 18, 3) := by decide +kernel
theorem dX0_nextInLane_37 : decode cX0_nextInLane 37 = .ok (.iload_n 1, 1) := by decide +kernel
theorem dX0_nextInLane_38 : decode cX0_nextInLane 38 = .ok (.iaload, 1) := by decide +kernel
theorem dX0_nextInLane_39 : decode cX0_nextInLane 39 = .ok (.if_icmp .le 7, 3) := by decide +kernel
theorem dX0_nextInLane_42 : decode cX0_nextInLane 42 = .ok (.iconst 1, 1) := by decide +kernel
theorem dX0_nextInLane_43 : decode cX0_nextInLane 43 = .ok (.goto 4, 3) := by decide +kernel
theorem dX0_nextInLane_46 : decode cX0_nextInLane 46 = .ok (.iconst 0, 1) := by decide +kernel
theorem dX0_nextInLane_47 : decode cX0_nextInLane 47 = .ok (.istore 4, 2) := by decide +kernel
theorem dX0_nextInLane_49 : decode cX0_nextInLane 49 = .ok (.iload 4, 2) := by decide +kernel
theorem dX0_nextInLane_51 : decode cX0_nextInLane 51 = .ok (.ifCond .eq 24, 3) := by decide +kernel
theorem dX0_nextInLane_54 : decode cX0_nextInLane 54 = .ok (.iload_n 2, 1) := by decide +kernel
theorem dX0_nextInLane_55 : decode cX0_nextInLane 55 = .ok (.ifCond .lt 18, 3) := by decide +kernel
theorem dX0_nextInLane_58 : decode cX0_nextInLane 58 = .ok (.aload_n 0, 1) := by decide +kernel
theorem dX0_nextInLane_59 : decode cX0_nextInLane 59 = .ok (.getfield 18, 3) := by decide +kernel
theorem dX0_nextInLane_62 : decode cX0_nextInLane 62 = .ok (.iload_n 3, 1) := by decide +kernel
theorem dX0_nextInLane_63 : decode cX0_nextInLane 63 = .ok (.iaload, 1) := by decide +kernel
theorem dX0_nextInLane_64 : decode cX0_nextInLane 64 = .ok (.aload_n 0, 1) := by decide +kernel
theorem dX0_nextInLane_65 : decode cX0_nextInLane 65 = .ok (.getfield 18, 3) := by decide +kernel
theorem dX0_nextInLane_68 : decode cX0_nextInLane 68 = .ok (.iload_n 2, 1) := by decide +kernel
theorem dX0_nextInLane_69 : decode cX0_nextInLane 69 = .ok (.iaload, 1) := by decide +kernel
theorem dX0_nextInLane_70 : decode cX0_nextInLane 70 = .ok (.if_icmp .ge 5, 3) := by decide +kernel
theorem dX0_nextInLane_73 : decode cX0_nextInLane 73 = .ok (.iload_n 3, 1) := by decide +kernel
theorem dX0_nextInLane_74 : decode cX0_nextInLane 74 = .ok (.istore_n 2, 1) := by decide +kernel
theorem dX0_nextInLane_75 : decode cX0_nextInLane 75 = .ok (.iinc 3 1, 3) := by decide +kernel
theorem dX0_nextInLane_78 : decode cX0_nextInLane 78 = .ok (.goto (-74), 3) := by decide +kernel
theorem dX0_nextInLane_81 : decode cX0_nextInLane 81 = .ok (.iload_n 2, 1) := by decide +kernel
theorem dX0_nextInLane_82 : decode cX0_nextInLane 82 = .ok (.ifCond .ge 8, 3) := by decide +kernel
theorem dX0_nextInLane_85 : decode cX0_nextInLane 85 = .ok (.bipush (-5), 2) := by decide +kernel
theorem dX0_nextInLane_87 : decode cX0_nextInLane 87 = .ok (.goto 9, 3) := by decide +kernel
theorem dX0_nextInLane_90 : decode cX0_nextInLane 90 = .ok (.aload_n 0, 1) := by decide +kernel
theorem dX0_nextInLane_91 : decode cX0_nextInLane 91 = .ok (.getfield 9, 3) := by decide +kernel
theorem dX0_nextInLane_94 : decode cX0_nextInLane 94 = .ok (.iload_n 2, 1) := by decide +kernel
theorem dX0_nextInLane_95 : decode cX0_nextInLane 95 = .ok (.iaload, 1) := by decide +kernel
theorem dX0_nextInLane_96 : decode cX0_nextInLane 96 = .ok (.ireturn, 1) := by decide +kernel
theorem dX0_barsShown_0 : decode cX0_barsShown 0 = .ok (.iconst 0, 1) := by decide +kernel
theorem dX0_barsShown_1 : decode cX0_barsShown 1 = .ok (.istore_n 3, 1) := by decide +kernel
theorem dX0_barsShown_2 : decode cX0_barsShown 2 = .ok (.iconst 0, 1) := by decide +kernel
theorem dX0_barsShown_3 : decode cX0_barsShown 3 = .ok (.istore 4, 2) := by decide +kernel
theorem dX0_barsShown_5 : decode cX0_barsShown 5 = .ok (.iload 4, 2) := by decide +kernel
theorem dX0_barsShown_7 : decode cX0_barsShown 7 = .ok (.aload_n 0, 1) := by decide +kernel
theorem dX0_barsShown_8 : decode cX0_barsShown 8 = .ok (.getfield 45, 3) := by decide +kernel
theorem dX0_barsShown_11 : decode cX0_barsShown 11 = .ok (.if_icmp .ge 28, 3) := by decide +kernel
theorem dX0_barsShown_14 : decode cX0_barsShown 14 = .ok (.iload_n 3, 1) := by decide +kernel
theorem dX0_barsShown_15 : decode cX0_barsShown 15 = .ok (.aload_n 0, 1) := by decide +kernel
theorem dX0_barsShown_16 : decode cX0_barsShown 16 = .ok (.iload 4, 2) := by decide +kernel
theorem dX0_barsShown_18 : decode cX0_barsShown 18 = .ok (.iload_n 1, 1) := by decide +kernel
theorem dX0_barsShown_19 : decode cX0_barsShown 19 = .ok (.iload_n 2, 1) := by decide +kernel
theorem dX0_barsShown_20 : decode cX0_barsShown 20 = .ok (.invokevirtual 93, 3) := by decide +kernel
theorem dX0_barsShown_23 : decode cX0_barsShown 23 = .ok (.ifCond .eq 7, 3) := by decide +kernel
theorem dX0_barsShown_26 : decode cX0_barsShown 26 = .ok (.iconst 1, 1) := by decide +kernel
theorem dX0_barsShown_27 : decode cX0_barsShown 27 = .ok (.goto 4, 3) := by decide +kernel
theorem dX0_barsShown_30 : decode cX0_barsShown 30 = .ok (.iconst 0, 1) := by decide +kernel
theorem dX0_barsShown_31 : decode cX0_barsShown 31 = .ok (.iadd, 1) := by decide +kernel
theorem dX0_barsShown_32 : decode cX0_barsShown 32 = .ok (.istore_n 3, 1) := by decide +kernel
theorem dX0_barsShown_33 : decode cX0_barsShown 33 = .ok (.iinc 4 1, 3) := by decide +kernel
theorem dX0_barsShown_36 : decode cX0_barsShown 36 = .ok (.goto (-31), 3) := by decide +kernel
theorem dX0_barsShown_39 : decode cX0_barsShown 39 = .ok (.iload_n 3, 1) := by decide +kernel
theorem dX0_barsShown_40 : decode cX0_barsShown 40 = .ok (.ireturn, 1) := by decide +kernel
theorem dX0_barsBegun_0 : decode cX0_barsBegun 0 = .ok (.iconst 0, 1) := by decide +kernel
theorem dX0_barsBegun_1 : decode cX0_barsBegun 1 = .ok (.istore_n 3, 1) := by decide +kernel
theorem dX0_barsBegun_2 : decode cX0_barsBegun 2 = .ok (.iconst 0, 1) := by decide +kernel
theorem dX0_barsBegun_3 : decode cX0_barsBegun 3 = .ok (.istore 4, 2) := by decide +kernel
theorem dX0_barsBegun_5 : decode cX0_barsBegun 5 = .ok (.iload 4, 2) := by decide +kernel
theorem dX0_barsBegun_7 : decode cX0_barsBegun 7 = .ok (.aload_n 0, 1) := by decide +kernel
theorem dX0_barsBegun_8 : decode cX0_barsBegun 8 = .ok (.getfield 45, 3) := by decide +kernel
theorem dX0_barsBegun_11 : decode cX0_barsBegun 11 = .ok (.if_icmp .ge 39, 3) := by decide +kernel
theorem dX0_barsBegun_14 : decode cX0_barsBegun 14 = .ok (.iload_n 3, 1) := by decide +kernel
theorem dX0_barsBegun_15 : decode cX0_barsBegun 15 = .ok (.aload_n 0, 1) := by decide +kernel
theorem dX0_barsBegun_16 : decode cX0_barsBegun 16 = .ok (.getfield 18, 3) := by decide +kernel
theorem dX0_barsBegun_19 : decode cX0_barsBegun 19 = .ok (.iload 4, 2) := by decide +kernel
theorem dX0_barsBegun_21 : decode cX0_barsBegun 21 = .ok (.iaload, 1) := by decide +kernel
theorem dX0_barsBegun_22 : decode cX0_barsBegun 22 = .ok (.iload_n 1, 1) := by decide +kernel
theorem dX0_barsBegun_23 : decode cX0_barsBegun 23 = .ok (.if_icmp .lt 18, 3) := by decide +kernel
theorem dX0_barsBegun_26 : decode cX0_barsBegun 26 = .ok (.aload_n 0, 1) := by decide +kernel
theorem dX0_barsBegun_27 : decode cX0_barsBegun 27 = .ok (.getfield 18, 3) := by decide +kernel
theorem dX0_barsBegun_30 : decode cX0_barsBegun 30 = .ok (.iload 4, 2) := by decide +kernel
theorem dX0_barsBegun_32 : decode cX0_barsBegun 32 = .ok (.iaload, 1) := by decide +kernel
theorem dX0_barsBegun_33 : decode cX0_barsBegun 33 = .ok (.iload_n 2, 1) := by decide +kernel
theorem dX0_barsBegun_34 : decode cX0_barsBegun 34 = .ok (.if_icmp .ge 7, 3) := by decide +kernel
theorem dX0_barsBegun_37 : decode cX0_barsBegun 37 = .ok (.iconst 1, 1) := by decide +kernel
theorem dX0_barsBegun_38 : decode cX0_barsBegun 38 = .ok (.goto 4, 3) := by decide +kernel
theorem dX0_barsBegun_41 : decode cX0_barsBegun 41 = .ok (.iconst 0, 1) := by decide +kernel
theorem dX0_barsBegun_42 : decode cX0_barsBegun 42 = .ok (.iadd, 1) := by decide +kernel
theorem dX0_barsBegun_43 : decode cX0_barsBegun 43 = .ok (.istore_n 3, 1) := by decide +kernel
theorem dX0_barsBegun_44 : decode cX0_barsBegun 44 = .ok (.iinc 4 1, 3) := by decide +kernel
theorem dX0_barsBegun_47 : decode cX0_barsBegun 47 = .ok (.goto (-42), 3) := by decide +kernel
theorem dX0_barsBegun_50 : decode cX0_barsBegun 50 = .ok (.iload_n 3, 1) := by decide +kernel
theorem dX0_barsBegun_51 : decode cX0_barsBegun 51 = .ok (.ireturn, 1) := by decide +kernel
theorem dX0_place_0 : decode cX0_place 0 = .ok (.aload_n 0, 1) := by decide +kernel
theorem dX0_place_1 : decode cX0_place 1 = .ok (.iconst 0, 1) := by decide +kernel
theorem dX0_place_2 : decode cX0_place 2 = .ok (.iload_n 1, 1) := by decide +kernel
theorem dX0_place_3 : decode cX0_place 3 = .ok (.invokevirtual 124, 3) := by decide +kernel
theorem dX0_place_6 : decode cX0_place 6 = .ok (.ireturn, 1) := by decide +kernel
theorem dX0_widthBetween_0 : decode cX0_widthBetween 0 = .ok (.iconst 0, 1) := by decide +kernel
theorem dX0_widthBetween_1 : decode cX0_widthBetween 1 = .ok (.istore_n 3, 1) := by decide +kernel
theorem dX0_widthBetween_2 : decode cX0_widthBetween 2 = .ok (.iload_n 1, 1) := by decide +kernel
theorem dX0_widthBetween_3 : decode cX0_widthBetween 3 = .ok (.istore 4, 2) := by decide +kernel
theorem dX0_widthBetween_5 : decode cX0_widthBetween 5 = .ok (.iload 4, 2) := by decide +kernel
theorem dX0_widthBetween_7 : decode cX0_widthBetween 7 = .ok (.iload_n 2, 1) := by decide +kernel
theorem dX0_widthBetween_8 : decode cX0_widthBetween 8 = .ok (.if_icmp .ge 27, 3) := by decide +kernel
theorem dX0_widthBetween_11 : decode cX0_widthBetween 11 = .ok (.iload 4, 2) := by decide +kernel
theorem dX0_widthBetween_13 : decode cX0_widthBetween 13 = .ok (.sipush 200, 3) := by decide +kernel
theorem dX0_widthBetween_16 : decode cX0_widthBetween 16 = .ok (.if_icmp .ge 19, 3) := by decide +kernel
theorem dX0_widthBetween_19 : decode cX0_widthBetween 19 = .ok (.iload_n 3, 1) := by decide +kernel
theorem dX0_widthBetween_20 : decode cX0_widthBetween 20 = .ok (.aload_n 0, 1) := by decide +kernel
theorem dX0_widthBetween_21 : decode cX0_widthBetween 21 = .ok (.getfield 33, 3) := by decide +kernel
theorem dX0_widthBetween_24 : decode cX0_widthBetween 24 = .ok (.iload 4, 2) := by decide +kernel
theorem dX0_widthBetween_26 : decode cX0_widthBetween 26 = .ok (.iaload, 1) := by decide +kernel
theorem dX0_widthBetween_27 : decode cX0_widthBetween 27 = .ok (.iadd, 1) := by decide +kernel
theorem dX0_widthBetween_28 : decode cX0_widthBetween 28 = .ok (.istore_n 3, 1) := by decide +kernel
theorem dX0_widthBetween_29 : decode cX0_widthBetween 29 = .ok (.iinc 4 1, 3) := by decide +kernel
theorem dX0_widthBetween_32 : decode cX0_widthBetween 32 = .ok (.goto (-27), 3) := by decide +kernel
theorem dX0_widthBetween_35 : decode cX0_widthBetween 35 = .ok (.iload_n 3, 1) := by decide +kernel
theorem dX0_widthBetween_36 : decode cX0_widthBetween 36 = .ok (.ireturn, 1) := by decide +kernel
theorem dX0_widthOfBars_0 : decode cX0_widthOfBars 0 = .ok (.iconst 0, 1) := by decide +kernel
theorem dX0_widthOfBars_1 : decode cX0_widthOfBars 1 = .ok (.istore_n 1, 1) := by decide +kernel
theorem dX0_widthOfBars_2 : decode cX0_widthOfBars 2 = .ok (.iconst 0, 1) := by decide +kernel
theorem dX0_widthOfBars_3 : decode cX0_widthOfBars 3 = .ok (.istore_n 2, 1) := by decide +kernel
theorem dX0_widthOfBars_4 : decode cX0_widthOfBars 4 = .ok (.iload_n 2, 1) := by decide +kernel
theorem dX0_widthOfBars_5 : decode cX0_widthOfBars 5 = .ok (.aload_n 0, 1) := by decide +kernel
theorem dX0_widthOfBars_6 : decode cX0_widthOfBars 6 = .ok (.getfield 45, 3) := by decide +kernel
theorem dX0_widthOfBars_9 : decode cX0_widthOfBars 9 = .ok (.if_icmp .ge 27, 3) := by decide +kernel
theorem dX0_widthOfBars_12 : decode cX0_widthOfBars 12 = .ok (.iload_n 1, 1) := by decide +kernel
theorem dX0_widthOfBars_13 : decode cX0_widthOfBars 13 = .ok (.aload_n 0, 1) := by decide +kernel
theorem dX0_widthOfBars_14 : decode cX0_widthOfBars 14 = .ok (.aload_n 0, 1) := by decide +kernel
theorem dX0_widthOfBars_15 : decode cX0_widthOfBars 15 = .ok (.getfield 18, 3) := by decide +kernel
theorem dX0_widthOfBars_18 : decode cX0_widthOfBars 18 = .ok (.iload_n 2, 1) := by decide +kernel
theorem dX0_widthOfBars_19 : decode cX0_widthOfBars 19 = .ok (.iaload, 1) := by decide +kernel
theorem dX0_widthOfBars_20 : decode cX0_widthOfBars 20 = .ok (.aload_n 0, 1) := by decide +kernel
theorem dX0_widthOfBars_21 : decode cX0_widthOfBars 21 = .ok (.iload_n 2, 1) := by decide +kernel
theorem dX0_widthOfBars_22 : decode cX0_widthOfBars 22 = .ok (.invokevirtual 97, 3) := by decide +kernel
theorem dX0_widthOfBars_25 : decode cX0_widthOfBars 25 = .ok (.invokevirtual 124, 3) := by decide +kernel
theorem dX0_widthOfBars_28 : decode cX0_widthOfBars 28 = .ok (.iadd, 1) := by decide +kernel
theorem dX0_widthOfBars_29 : decode cX0_widthOfBars 29 = .ok (.istore_n 1, 1) := by decide +kernel
theorem dX0_widthOfBars_30 : decode cX0_widthOfBars 30 = .ok (.iinc 2 1, 3) := by decide +kernel
theorem dX0_widthOfBars_33 : decode cX0_widthOfBars 33 = .ok (.goto (-29), 3) := by decide +kernel
theorem dX0_widthOfBars_36 : decode cX0_widthOfBars 36 = .ok (.iload_n 1, 1) := by decide +kernel
theorem dX0_widthOfBars_37 : decode cX0_widthOfBars 37 = .ok (.ireturn, 1) := by decide +kernel
theorem dX1_init_0 : decode cX1_init 0 = .ok (.aload_n 0, 1) := by decide +kernel
theorem dX1_init_1 : decode cX1_init 1 = .ok (.invokespecial 3, 3) := by decide +kernel
theorem dX1_init_4 : decode cX1_init 4 = .ok (.aload_n 0, 1) := by decide +kernel
theorem dX1_init_5 : decode cX1_init 5 = .ok (.sipush 201, 3) := by decide +kernel
theorem dX1_init_8 : decode cX1_init 8 = .ok (.newarray .int, 2) := by decide +kernel
theorem dX1_init_10 : decode cX1_init 10 = .ok (.putfield 9, 3) := by decide +kernel
theorem dX1_init_13 : decode cX1_init 13 = .ok (.return_, 1) := by decide +kernel
theorem dX1_cut_0 : decode cX1_cut 0 = .ok (.sipush 200, 3) := by decide +kernel
theorem dX1_cut_3 : decode cX1_cut 3 = .ok (.aload_n 1, 1) := by decide +kernel
theorem dX1_cut_4 : decode cX1_cut 4 = .ok (.invokevirtual 15, 3) := by decide +kernel
theorem dX1_cut_7 : decode cX1_cut 7 = .ok (.invokestatic 21, 3) := by decide +kernel
theorem dX1_cut_10 : decode cX1_cut 10 = .ok (.istore_n 2, 1) := by decide +kernel
theorem dX1_cut_11 : decode cX1_cut 11 = .ok (.iconst 0, 1) := by decide +kernel
theorem dX1_cut_12 : decode cX1_cut 12 = .ok (.istore_n 3, 1) := by decide +kernel
theorem dX1_cut_13 : decode cX1_cut 13 = .ok (.aload_n 0, 1) := by decide +kernel
theorem dX1_cut_14 : decode cX1_cut 14 = .ok (.iconst 0, 1) := by decide +kernel
theorem dX1_cut_15 : decode cX1_cut 15 = .ok (.putfield 27, 3) := by decide +kernel
theorem dX1_cut_18 : decode cX1_cut 18 = .ok (.iconst 0, 1) := by decide +kernel
theorem dX1_cut_19 : decode cX1_cut 19 = .ok (.istore 4, 2) := by decide +kernel
theorem dX1_cut_21 : decode cX1_cut 21 = .ok (.iload 4, 2) := by decide +kernel
theorem dX1_cut_23 : decode cX1_cut 23 = .ok (.iload_n 2, 1) := by decide +kernel
theorem dX1_cut_24 : decode cX1_cut 24 = .ok (.if_icmp .ge 63, 3) := by decide +kernel
theorem dX1_cut_27 : decode cX1_cut 27 = .ok (.iload 4, 2) := by decide +kernel
theorem dX1_cut_29 : decode cX1_cut 29 = .ok (.ifCond .eq 14, 3) := by decide +kernel
theorem dX1_cut_32 : decode cX1_cut 32 = .ok (.aload_n 1, 1) := by decide +kernel
theorem dX1_cut_33 : decode cX1_cut 33 = .ok (.getfield 31, 3) := by decide +kernel
theorem dX1_cut_36 : decode cX1_cut 36 = .ok (.iload 4, 2) := by decide +kernel
theorem dX1_cut_38 : decode cX1_cut 38 = .ok (.iaload, 1) := by decide +kernel
theorem dX1_cut_39 : decode cX1_cut 39 = .ok (.iload_n 3, 1) := by decide +kernel
theorem dX1_cut_40 : decode cX1_cut 40 = .ok (.if_icmp .le 31, 3) := by decide +kernel
theorem dX1_cut_43 : decode cX1_cut 43 = .ok (.aload_n 0, 1) := by decide +kernel
theorem dX1_cut_44 : decode cX1_cut 44 = .ok (.getfield 9, 3) := by decide +kernel
theorem dX1_cut_47 : decode cX1_cut 47 = .ok (.aload_n 0, 1) := by decide +kernel
theorem dX1_cut_48 : decode cX1_cut 48 = .ok (.getfield 27, 3) := by decide +kernel
theorem dX1_cut_51 : decode cX1_cut 51 = .ok (.iload 4, 2) := by decide +kernel
theorem dX1_cut_53 : decode cX1_cut 53 = .ok (.iastore, 1) := by decide +kernel
theorem dX1_cut_54 : decode cX1_cut 54 = .ok (.aload_n 0, 1) := by decide +kernel
theorem dX1_cut_55 : decode cX1_cut 55 = .ok (.dup, 1) := by decide +kernel
theorem dX1_cut_56 : decode cX1_cut 56 = .ok (.getfield 27, 3) := by decide +kernel
theorem dX1_cut_59 : decode cX1_cut 59 = .ok (.iconst 1, 1) := by decide +kernel
theorem dX1_cut_60 : decode cX1_cut 60 = .ok (.iadd, 1) := by decide +kernel
theorem dX1_cut_61 : decode cX1_cut 61 = .ok (.putfield 27, 3) := by decide +kernel
theorem dX1_cut_64 : decode cX1_cut 64 = .ok (.aload_n 1, 1) := by decide +kernel
theorem dX1_cut_65 : decode cX1_cut 65 = .ok (.getfield 34, 3) := by decide +kernel
theorem dX1_cut_68 : decode cX1_cut 68 = .ok (.iconst 1, 1) := by decide +kernel
theorem dX1_cut_69 : decode cX1_cut 69 = .ok (.iaload, 1) := by decide +kernel
theorem dX1_cut_70 : decode cX1_cut 70 = .ok (.istore_n 3, 1) := by decide +kernel
theorem dX1_cut_71 : decode cX1_cut 71 = .ok (.iload_n 3, 1) := by decide +kernel
theorem dX1_cut_72 : decode cX1_cut 72 = .ok (.aload_n 1, 1) := by decide +kernel
theorem dX1_cut_73 : decode cX1_cut 73 = .ok (.getfield 31, 3) := by decide +kernel
theorem dX1_cut_76 : decode cX1_cut 76 = .ok (.iload 4, 2) := by decide +kernel
theorem dX1_cut_78 : decode cX1_cut 78 = .ok (.iaload, 1) := by decide +kernel
theorem dX1_cut_79 : decode cX1_cut 79 = .ok (.isub, 1) := by decide +kernel
theorem dX1_cut_80 : decode cX1_cut 80 = .ok (.istore_n 3, 1) := by decide +kernel
theorem dX1_cut_81 : decode cX1_cut 81 = .ok (.iinc 4 1, 3) := by decide +kernel
theorem dX1_cut_84 : decode cX1_cut 84 = .ok (.goto (-63), 3) := by decide +kernel
theorem dX1_cut_87 : decode cX1_cut 87 = .ok (.aload_n 0, 1) := by decide +kernel
theorem dX1_cut_88 : decode cX1_cut 88 = .ok (.getfield 9, 3) := by decide +kernel
theorem dX1_cut_91 : decode cX1_cut 91 = .ok (.aload_n 0, 1) := by decide +kernel
theorem dX1_cut_92 : decode cX1_cut 92 = .ok (.getfield 27, 3) := by decide +kernel
theorem dX1_cut_95 : decode cX1_cut 95 = .ok (.iload_n 2, 1) := by decide +kernel
theorem dX1_cut_96 : decode cX1_cut 96 = .ok (.iastore, 1) := by decide +kernel
theorem dX1_cut_97 : decode cX1_cut 97 = .ok (.return_, 1) := by decide +kernel
theorem dX1_stripOf_0 : decode cX1_stripOf 0 = .ok (.iconst 0, 1) := by decide +kernel
theorem dX1_stripOf_1 : decode cX1_stripOf 1 = .ok (.istore_n 2, 1) := by decide +kernel
theorem dX1_stripOf_2 : decode cX1_stripOf 2 = .ok (.iload_n 2, 1) := by decide +kernel
theorem dX1_stripOf_3 : decode cX1_stripOf 3 = .ok (.aload_n 0, 1) := by decide +kernel
theorem dX1_stripOf_4 : decode cX1_stripOf 4 = .ok (.getfield 27, 3) := by decide +kernel
theorem dX1_stripOf_7 : decode cX1_stripOf 7 = .ok (.iconst 1, 1) := by decide +kernel
theorem dX1_stripOf_8 : decode cX1_stripOf 8 = .ok (.isub, 1) := by decide +kernel
theorem dX1_stripOf_9 : decode cX1_stripOf 9 = .ok (.if_icmp .ge 21, 3) := by decide +kernel
theorem dX1_stripOf_12 : decode cX1_stripOf 12 = .ok (.aload_n 0, 1) := by decide +kernel
theorem dX1_stripOf_13 : decode cX1_stripOf 13 = .ok (.getfield 9, 3) := by decide +kernel
theorem dX1_stripOf_16 : decode cX1_stripOf 16 = .ok (.iload_n 2, 1) := by decide +kernel
theorem dX1_stripOf_17 : decode cX1_stripOf 17 = .ok (.iconst 1, 1) := by decide +kernel
theorem dX1_stripOf_18 : decode cX1_stripOf 18 = .ok (.iadd, 1) := by decide +kernel
theorem dX1_stripOf_19 : decode cX1_stripOf 19 = .ok (.iaload, 1) := by decide +kernel
theorem dX1_stripOf_20 : decode cX1_stripOf 20 = .ok (.iload_n 1, 1) := by decide +kernel
theorem dX1_stripOf_21 : decode cX1_stripOf 21 = .ok (.if_icmp .gt 9, 3) := by decide +kernel
theorem dX1_stripOf_24 : decode cX1_stripOf 24 = .ok (.iinc 2 1, 3) := by decide +kernel
theorem dX1_stripOf_27 : decode cX1_stripOf 27 = .ok (.goto (-25), 3) := by decide +kernel
theorem dX1_stripOf_30 : decode cX1_stripOf 30 = .ok (.iload_n 2, 1) := by decide +kernel
theorem dX1_stripOf_31 : decode cX1_stripOf 31 = .ok (.ireturn, 1) := by decide +kernel
theorem dX2_init_0 : decode cX2_init 0 = .ok (.aload_n 0, 1) := by decide +kernel
theorem dX2_init_1 : decode cX2_init 1 = .ok (.invokespecial 3, 3) := by decide +kernel
theorem dX2_init_4 : decode cX2_init 4 = .ok (.aload_n 0, 1) := by decide +kernel
theorem dX2_init_5 : decode cX2_init 5 = .ok (.bipush 40, 2) := by decide +kernel
theorem dX2_init_7 : decode cX2_init 7 = .ok (.newarray .int, 2) := by decide +kernel
theorem dX2_init_9 : decode cX2_init 9 = .ok (.putfield 9, 3) := by decide +kernel
theorem dX2_init_12 : decode cX2_init 12 = .ok (.aload_n 0, 1) := by decide +kernel
theorem dX2_init_13 : decode cX2_init 13 = .ok (.sipush 200, 3) := by decide +kernel
theorem dX2_init_16 : decode cX2_init 16 = .ok (.newarray .int, 2) := by decide +kernel
theorem dX2_init_18 : decode cX2_init 18 = .ok (.putfield 15, 3) := by decide +kernel
theorem dX2_init_21 : decode cX2_init 21 = .ok (.return_, 1) := by decide +kernel
theorem dX2_readBars_0 : decode cX2_readBars 0 = .ok (.aload_n 0, 1) := by decide +kernel
theorem dX2_readBars_1 : decode cX2_readBars 1 = .ok (.getfield 15, 3) := by decide +kernel
theorem dX2_readBars_4 : decode cX2_readBars 4 = .ok (.iconst 0, 1) := by decide +kernel
theorem dX2_readBars_5 : decode cX2_readBars 5 = .ok (.invokestatic 18, 3) := by decide +kernel
theorem dX2_readBars_8 : decode cX2_readBars 8 = .ok (.iconst 0, 1) := by decide +kernel
theorem dX2_readBars_9 : decode cX2_readBars 9 = .ok (.istore_n 2, 1) := by decide +kernel
theorem dX2_readBars_10 : decode cX2_readBars 10 = .ok (.iload_n 2, 1) := by decide +kernel
theorem dX2_readBars_11 : decode cX2_readBars 11 = .ok (.aload_n 1, 1) := by decide +kernel
theorem dX2_readBars_12 : decode cX2_readBars 12 = .ok (.getfield 24, 3) := by decide +kernel
theorem dX2_readBars_15 : decode cX2_readBars 15 = .ok (.if_icmp .ge 61, 3) := by decide +kernel
theorem dX2_readBars_18 : decode cX2_readBars 18 = .ok (.sipush 200, 3) := by decide +kernel
theorem dX2_readBars_21 : decode cX2_readBars 21 = .ok (.aload_n 1, 1) := by decide +kernel
theorem dX2_readBars_22 : decode cX2_readBars 22 = .ok (.iload_n 2, 1) := by decide +kernel
theorem dX2_readBars_23 : decode cX2_readBars 23 = .ok (.invokevirtual 30, 3) := by decide +kernel
theorem dX2_readBars_26 : decode cX2_readBars 26 = .ok (.invokestatic 34, 3) := by decide +kernel
theorem dX2_readBars_29 : decode cX2_readBars 29 = .ok (.istore_n 3, 1) := by decide +kernel
theorem dX2_readBars_30 : decode cX2_readBars 30 = .ok (.aload_n 1, 1) := by decide +kernel
theorem dX2_readBars_31 : decode cX2_readBars 31 = .ok (.getfield 40, 3) := by decide +kernel
theorem dX2_readBars_34 : decode cX2_readBars 34 = .ok (.iload_n 2, 1) := by decide +kernel
theorem dX2_readBars_35 : decode cX2_readBars 35 = .ok (.iaload, 1) := by decide +kernel
theorem dX2_readBars_36 : decode cX2_readBars 36 = .ok (.iconst 1, 1) := by decide +kernel
theorem dX2_readBars_37 : decode cX2_readBars 37 = .ok (.iadd, 1) := by decide +kernel
theorem dX2_readBars_38 : decode cX2_readBars 38 = .ok (.istore 4, 2) := by decide +kernel
theorem dX2_readBars_40 : decode cX2_readBars 40 = .ok (.iload 4, 2) := by decide +kernel
theorem dX2_readBars_42 : decode cX2_readBars 42 = .ok (.iload_n 3, 1) := by decide +kernel
theorem dX2_readBars_43 : decode cX2_readBars 43 = .ok (.if_icmp .ge 27, 3) := by decide +kernel
theorem dX2_readBars_46 : decode cX2_readBars 46 = .ok (.aload_n 0, 1) := by decide +kernel
theorem dX2_readBars_47 : decode cX2_readBars 47 = .ok (.getfield 15, 3) := by decide +kernel
theorem dX2_readBars_50 : decode cX2_readBars 50 = .ok (.iload 4, 2) := by decide +kernel
theorem dX2_readBars_52 : decode cX2_readBars 52 = .ok (.dup2, 1) := by decide +kernel
theorem dX2_readBars_53 : decode cX2_readBars 53 = .ok (.iaload, 1) := by decide +kernel
theorem dX2_readBars_54 : decode cX2_readBars 54 = .ok (.iconst 1, 1) := by decide +kernel
theorem dX2_readBars_55 : decode cX2_readBars 55 = .ok (.aload_n 1, 1) := by decide +kernel
theorem dX2_readBars_56 : decode cX2_readBars 56 = .ok (.getfield 43, 3) := by decide +kernel
theorem dX2_readBars_59 : decode cX2_readBars 59 = .ok (.iload_n 2, 1) := by decide +kernel
theorem dX2_readBars_60 : decode cX2_readBars 60 = .ok (.iaload, 1) := by decide +kernel
theorem dX2_readBars_61 : decode cX2_readBars 61 = .ok (.ishl, 1) := by decide +kernel
theorem dX2_readBars_62 : decode cX2_readBars 62 = .ok (.ior, 1) := by decide +kernel
theorem dX2_readBars_63 : decode cX2_readBars 63 = .ok (.iastore, 1) := by decide +kernel
theorem dX2_readBars_64 : decode cX2_readBars 64 = .ok (.iinc 4 1, 3) := by decide +kernel
theorem dX2_readBars_67 : decode cX2_readBars 67 = .ok (.goto (-27), 3) := by decide +kernel
theorem dX2_readBars_70 : decode cX2_readBars 70 = .ok (.iinc 2 1, 3) := by decide +kernel
theorem dX2_readBars_73 : decode cX2_readBars 73 = .ok (.goto (-63), 3) := by decide +kernel
theorem dX2_readBars_76 : decode cX2_readBars 76 = .ok (.return_, 1) := by decide +kernel
theorem dX2_draw_0 : decode cX2_draw 0 = .ok (.aload_n 0, 1) := by decide +kernel
theorem dX2_draw_1 : decode cX2_draw 1 = .ok (.aload_n 1, 1) := by decide +kernel
theorem dX2_draw_2 : decode cX2_draw 2 = .ok (.invokevirtual 46, 3) := by decide +kernel
theorem dX2_draw_5 : decode cX2_draw 5 = .ok (.aload_n 0, 1) := by decide +kernel
theorem dX2_draw_6 : decode cX2_draw 6 = .ok (.iconst 0, 1) := by decide +kernel
theorem dX2_draw_7 : decode cX2_draw 7 = .ok (.putfield 50, 3) := by decide +kernel
theorem dX2_draw_10 : decode cX2_draw 10 = .ok (.iconst 0, 1) := by decide +kernel
theorem dX2_draw_11 : decode cX2_draw 11 = .ok (.istore_n 2, 1) := by decide +kernel
theorem dX2_draw_12 : decode cX2_draw 12 = .ok (.iload_n 2, 1) := by decide +kernel
theorem dX2_draw_13 : decode cX2_draw 13 = .ok (.aload_n 1, 1) := by decide +kernel
theorem dX2_draw_14 : decode cX2_draw 14 = .ok (.getfield 53, 3) := by decide +kernel
theorem dX2_draw_17 : decode cX2_draw 17 = .ok (.if_icmp .ge 46, 3) := by decide +kernel
theorem dX2_draw_20 : decode cX2_draw 20 = .ok (.aload_n 0, 1) := by decide +kernel
theorem dX2_draw_21 : decode cX2_draw 21 = .ok (.getfield 9, 3) := by decide +kernel
theorem dX2_draw_24 : decode cX2_draw 24 = .ok (.iload_n 2, 1) := by decide +kernel
theorem dX2_draw_25 : decode cX2_draw 25 = .ok (.aload_n 0, 1) := by decide +kernel
theorem dX2_draw_26 : decode cX2_draw 26 = .ok (.aload_n 1, 1) := by decide +kernel
theorem dX2_draw_27 : decode cX2_draw 27 = .ok (.iload_n 2, 1) := by decide +kernel
theorem dX2_draw_28 : decode cX2_draw 28 = .ok (.invokevirtual 56, 3) := by decide +kernel
theorem dX2_draw_31 : decode cX2_draw 31 = .ok (.iastore, 1) := by decide +kernel
theorem dX2_draw_32 : decode cX2_draw 32 = .ok (.aload_n 0, 1) := by decide +kernel
theorem dX2_draw_33 : decode cX2_draw 33 = .ok (.dup, 1) := by decide +kernel
theorem dX2_draw_34 : decode cX2_draw 34 = .ok (.getfield 50, 3) := by decide +kernel
theorem dX2_draw_37 : decode cX2_draw 37 = .ok (.aload_n 0, 1) := by decide +kernel
theorem dX2_draw_38 : decode cX2_draw 38 = .ok (.getfield 9, 3) := by decide +kernel
theorem dX2_draw_41 : decode cX2_draw 41 = .ok (.iload_n 2, 1) := by decide +kernel
theorem dX2_draw_42 : decode cX2_draw 42 = .ok (.iaload, 1) := by decide +kernel
theorem dX2_draw_43 : decode cX2_draw 43 = .ok (.bipush (-5), 2) := by decide +kernel
theorem dX2_draw_45 : decode cX2_draw 45 = .ok (.if_icmp .ne 7, 3) := by decide +kernel
theorem dX2_draw_48 : decode cX2_draw 48 = .ok (.iconst 1, 1) := by decide +kernel
theorem dX2_draw_49 : decode cX2_draw 49 = .ok (.goto 4, 3) := by decide +kernel
theorem dX2_draw_52 : decode cX2_draw 52 = .ok (.iconst 0, 1) := by decide +kernel
theorem dX2_draw_53 : decode cX2_draw 53 = .ok (.iadd, 1) := by decide +kernel
theorem dX2_draw_54 : decode cX2_draw 54 = .ok (.putfield 50, 3) := by decide +kernel
theorem dX2_draw_57 : decode cX2_draw 57 = .ok (.iinc 2 1, 3) := by decide +kernel
theorem dX2_draw_60 : decode cX2_draw 60 = .ok (.goto (-48), 3) := by decide +kernel
theorem dX2_draw_63 : decode cX2_draw 63 = .ok (.return_, 1) := by decide +kernel
theorem dX2_choose_0 : decode cX2_choose 0 = .ok (.aload_n 1, 1) := by decide +kernel
theorem dX2_choose_1 : decode cX2_choose 1 = .ok (.getfield 60, 3) := by decide +kernel
theorem dX2_choose_4 : decode cX2_choose 4 = .ok (.iconst 0, 1) := by decide +kernel
theorem dX2_choose_5 : decode cX2_choose 5 = .ok (.iaload, 1) := by decide +kernel
theorem dX2_choose_6 : decode cX2_choose 6 = .ok (.istore_n 3, 1) := by decide +kernel
theorem dX2_choose_7 : decode cX2_choose 7 = .ok (.aload_n 1, 1) := by decide +kernel
theorem dX2_choose_8 : decode cX2_choose 8 = .ok (.aload_n 1, 1) := by decide +kernel
theorem dX2_choose_9 : decode cX2_choose 9 = .ok (.getfield 63, 3) := by decide +kernel
theorem dX2_choose_12 : decode cX2_choose 12 = .ok (.iload_n 2, 1) := by decide +kernel
theorem dX2_choose_13 : decode cX2_choose 13 = .ok (.iaload, 1) := by decide +kernel
theorem dX2_choose_14 : decode cX2_choose 14 = .ok (.invokevirtual 30, 3) := by decide +kernel
theorem dX2_choose_17 : decode cX2_choose 17 = .ok (.aload_n 1, 1) := by decide +kernel
theorem dX2_choose_18 : decode cX2_choose 18 = .ok (.getfield 40, 3) := by decide +kernel
theorem dX2_choose_21 : decode cX2_choose 21 = .ok (.aload_n 1, 1) := by decide +kernel
theorem dX2_choose_22 : decode cX2_choose 22 = .ok (.getfield 66, 3) := by decide +kernel
theorem dX2_choose_25 : decode cX2_choose 25 = .ok (.iload_n 2, 1) := by decide +kernel
theorem dX2_choose_26 : decode cX2_choose 26 = .ok (.iaload, 1) := by decide +kernel
theorem dX2_choose_27 : decode cX2_choose 27 = .ok (.iaload, 1) := by decide +kernel
theorem dX2_choose_28 : decode cX2_choose 28 = .ok (.iadd, 1) := by decide +kernel
theorem dX2_choose_29 : decode cX2_choose 29 = .ok (.istore 4, 2) := by decide +kernel
theorem dX2_choose_31 : decode cX2_choose 31 = .ok (.aload_n 0, 1) := by decide +kernel
theorem dX2_choose_32 : decode cX2_choose 32 = .ok (.aload_n 1, 1) := by decide +kernel
theorem dX2_choose_33 : decode cX2_choose 33 = .ok (.iload_n 2, 1) := by decide +kernel
theorem dX2_choose_34 : decode cX2_choose 34 = .ok (.invokevirtual 69, 3) := by decide +kernel
theorem dX2_choose_37 : decode cX2_choose 37 = .ok (.istore 5, 2) := by decide +kernel
theorem dX2_choose_39 : decode cX2_choose 39 = .ok (.aload_n 0, 1) := by decide +kernel
theorem dX2_choose_40 : decode cX2_choose 40 = .ok (.aload_n 1, 1) := by decide +kernel
theorem dX2_choose_41 : decode cX2_choose 41 = .ok (.iload_n 2, 1) := by decide +kernel
theorem dX2_choose_42 : decode cX2_choose 42 = .ok (.invokevirtual 72, 3) := by decide +kernel
theorem dX2_choose_45 : decode cX2_choose 45 = .ok (.istore 6, 2) := by decide +kernel
theorem dX2_choose_47 : decode cX2_choose 47 = .ok (.bipush (-5), 2) := by decide +kernel
theorem dX2_choose_49 : decode cX2_choose 49 = .ok (.istore 7, 2) := by decide +kernel
theorem dX2_choose_51 : decode cX2_choose 51 = .ok (.aload_n 0, 1) := by decide +kernel
theorem dX2_choose_52 : decode cX2_choose 52 = .ok (.aload_n 1, 1) := by decide +kernel
theorem dX2_choose_53 : decode cX2_choose 53 = .ok (.iload_n 2, 1) := by decide +kernel
theorem dX2_choose_54 : decode cX2_choose 54 = .ok (.invokevirtual 75, 3) := by decide +kernel
theorem dX2_choose_57 : decode cX2_choose 57 = .ok (.istore 8, 2) := by decide +kernel
theorem dX2_choose_59 : decode cX2_choose 59 = .ok (.iload 8, 2) := by decide +kernel
theorem dX2_choose_61 : decode cX2_choose 61 = .ok (.iload 6, 2) := by decide +kernel
theorem dX2_choose_63 : decode cX2_choose 63 = .ok (.if_icmp .gt 71, 3) := by decide +kernel
theorem dX2_choose_66 : decode cX2_choose 66 = .ok (.aload_n 0, 1) := by decide +kernel
theorem dX2_choose_67 : decode cX2_choose 67 = .ok (.getfield 15, 3) := by decide +kernel
theorem dX2_choose_70 : decode cX2_choose 70 = .ok (.iload 8, 2) := by decide +kernel
theorem dX2_choose_72 : decode cX2_choose 72 = .ok (.iaload, 1) := by decide +kernel
theorem dX2_choose_73 : decode cX2_choose 73 = .ok (.iload 5, 2) := by decide +kernel
theorem dX2_choose_75 : decode cX2_choose 75 = .ok (.iand, 1) := by decide +kernel
theorem dX2_choose_76 : decode cX2_choose 76 = .ok (.ifCond .eq 6, 3) := by decide +kernel
theorem dX2_choose_79 : decode cX2_choose 79 = .ok (.goto 49, 3) := by decide +kernel
theorem dX2_choose_82 : decode cX2_choose 82 = .ok (.iload_n 3, 1) := by decide +kernel
theorem dX2_choose_83 : decode cX2_choose 83 = .ok (.ifCond .ne 6, 3) := by decide +kernel
theorem dX2_choose_86 : decode cX2_choose 86 = .ok (.iload 8, 2) := by decide +kernel
theorem dX2_choose_88 : decode cX2_choose 88 = .ok (.ireturn, 1) := by decide +kernel
theorem dX2_choose_89 : decode cX2_choose 89 = .ok (.iload 7, 2) := by decide +kernel
theorem dX2_choose_91 : decode cX2_choose 91 = .ok (.bipush (-5), 2) := by decide +kernel
theorem dX2_choose_93 : decode cX2_choose 93 = .ok (.if_icmp .eq 31, 3) := by decide +kernel
theorem dX2_choose_96 : decode cX2_choose 96 = .ok (.iload_n 3, 1) := by decide +kernel
theorem dX2_choose_97 : decode cX2_choose 97 = .ok (.iconst 1, 1) := by decide +kernel
theorem dX2_choose_98 : decode cX2_choose 98 = .ok (.if_icmp .eq 26, 3) := by decide +kernel
theorem dX2_choose_101 : decode cX2_choose 101 = .ok (.iconst 2, 1) := by decide +kernel
theorem dX2_choose_102 : decode cX2_choose 102 = .ok (.iload 8, 2) := by decide +kernel
end
section
theorem dX2_choose_104 : decode cX2_choose 104 = .ok (.imul, 1) := by decide +kernel
theorem dX2_choose_105 : decode cX2_choose 105 = .ok (.iload 4, 2) := by decide +kernel
theorem dX2_choose_107 : decode cX2_choose 107 = .ok (.isub, 1) := by decide +kernel
theorem dX2_choose_108 : decode cX2_choose 108 = .ok (.invokestatic 78, 3) := by decide +kernel
theorem dX2_choose_111 : decode cX2_choose 111 = .ok (.iconst 2, 1) := by decide +kernel
theorem dX2_choose_112 : decode cX2_choose 112 = .ok (.iload 7, 2) := by decide +kernel
theorem dX2_choose_114 : decode cX2_choose 114 = .ok (.imul, 1) := by decide +kernel
theorem dX2_choose_115 : decode cX2_choose 115 = .ok (.iload 4, 2) := by decide +kernel
theorem dX2_choose_117 : decode cX2_choose 117 = .ok (.isub, 1) := by decide +kernel
theorem dX2_choose_118 : decode cX2_choose 118 = .ok (.invokestatic 78, 3) := by decide +kernel
theorem dX2_choose_121 : decode cX2_choose 121 = .ok (.if_icmp .ge 7, 3) := by decide +kernel
theorem dX2_choose_124 : decode cX2_choose 124 = .ok (.iload 8, 2) := by decide +kernel
theorem dX2_choose_126 : decode cX2_choose 126 = .ok (.istore 7, 2) := by decide +kernel
theorem dX2_choose_128 : decode cX2_choose 128 = .ok (.iinc 8 1, 3) := by decide +kernel
theorem dX2_choose_131 : decode cX2_choose 131 = .ok (.goto (-72), 3) := by decide +kernel
theorem dX2_choose_134 : decode cX2_choose 134 = .ok (.iload 7, 2) := by decide +kernel
theorem dX2_choose_136 : decode cX2_choose 136 = .ok (.ireturn, 1) := by decide +kernel
theorem dX2_freeBends_0 : decode cX2_freeBends 0 = .ok (.iconst 0, 1) := by decide +kernel
theorem dX2_freeBends_1 : decode cX2_freeBends 1 = .ok (.istore_n 3, 1) := by decide +kernel
theorem dX2_freeBends_2 : decode cX2_freeBends 2 = .ok (.aload_n 0, 1) := by decide +kernel
theorem dX2_freeBends_3 : decode cX2_freeBends 3 = .ok (.aload_n 1, 1) := by decide +kernel
theorem dX2_freeBends_4 : decode cX2_freeBends 4 = .ok (.iload_n 2, 1) := by decide +kernel
theorem dX2_freeBends_5 : decode cX2_freeBends 5 = .ok (.invokevirtual 69, 3) := by decide +kernel
theorem dX2_freeBends_8 : decode cX2_freeBends 8 = .ok (.istore 4, 2) := by decide +kernel
theorem dX2_freeBends_10 : decode cX2_freeBends 10 = .ok (.aload_n 0, 1) := by decide +kernel
theorem dX2_freeBends_11 : decode cX2_freeBends 11 = .ok (.aload_n 1, 1) := by decide +kernel
theorem dX2_freeBends_12 : decode cX2_freeBends 12 = .ok (.iload_n 2, 1) := by decide +kernel
theorem dX2_freeBends_13 : decode cX2_freeBends 13 = .ok (.invokevirtual 72, 3) := by decide +kernel
theorem dX2_freeBends_16 : decode cX2_freeBends 16 = .ok (.istore 5, 2) := by decide +kernel
theorem dX2_freeBends_18 : decode cX2_freeBends 18 = .ok (.aload_n 0, 1) := by decide +kernel
theorem dX2_freeBends_19 : decode cX2_freeBends 19 = .ok (.aload_n 1, 1) := by decide +kernel
theorem dX2_freeBends_20 : decode cX2_freeBends 20 = .ok (.iload_n 2, 1) := by decide +kernel
theorem dX2_freeBends_21 : decode cX2_freeBends 21 = .ok (.invokevirtual 75, 3) := by decide +kernel
theorem dX2_freeBends_24 : decode cX2_freeBends 24 = .ok (.istore 6, 2) := by decide +kernel
theorem dX2_freeBends_26 : decode cX2_freeBends 26 = .ok (.iload 6, 2) := by decide +kernel
theorem dX2_freeBends_28 : decode cX2_freeBends 28 = .ok (.iload 5, 2) := by decide +kernel
theorem dX2_freeBends_30 : decode cX2_freeBends 30 = .ok (.if_icmp .gt 30, 3) := by decide +kernel
theorem dX2_freeBends_33 : decode cX2_freeBends 33 = .ok (.iload_n 3, 1) := by decide +kernel
theorem dX2_freeBends_34 : decode cX2_freeBends 34 = .ok (.aload_n 0, 1) := by decide +kernel
theorem dX2_freeBends_35 : decode cX2_freeBends 35 = .ok (.getfield 15, 3) := by decide +kernel
theorem dX2_freeBends_38 : decode cX2_freeBends 38 = .ok (.iload 6, 2) := by decide +kernel
theorem dX2_freeBends_40 : decode cX2_freeBends 40 = .ok (.iaload, 1) := by decide +kernel
theorem dX2_freeBends_41 : decode cX2_freeBends 41 = .ok (.iload 4, 2) := by decide +kernel
theorem dX2_freeBends_43 : decode cX2_freeBends 43 = .ok (.iand, 1) := by decide +kernel
theorem dX2_freeBends_44 : decode cX2_freeBends 44 = .ok (.ifCond .ne 7, 3) := by decide +kernel
theorem dX2_freeBends_47 : decode cX2_freeBends 47 = .ok (.iconst 1, 1) := by decide +kernel
theorem dX2_freeBends_48 : decode cX2_freeBends 48 = .ok (.goto 4, 3) := by decide +kernel
theorem dX2_freeBends_51 : decode cX2_freeBends 51 = .ok (.iconst 0, 1) := by decide +kernel
theorem dX2_freeBends_52 : decode cX2_freeBends 52 = .ok (.iadd, 1) := by decide +kernel
theorem dX2_freeBends_53 : decode cX2_freeBends 53 = .ok (.istore_n 3, 1) := by decide +kernel
theorem dX2_freeBends_54 : decode cX2_freeBends 54 = .ok (.iinc 6 1, 3) := by decide +kernel
theorem dX2_freeBends_57 : decode cX2_freeBends 57 = .ok (.goto (-31), 3) := by decide +kernel
theorem dX2_freeBends_60 : decode cX2_freeBends 60 = .ok (.iload_n 3, 1) := by decide +kernel
theorem dX2_freeBends_61 : decode cX2_freeBends 61 = .ok (.ireturn, 1) := by decide +kernel
theorem dX2_whyShut_0 : decode cX2_whyShut 0 = .ok (.iload_n 3, 1) := by decide +kernel
theorem dX2_whyShut_1 : decode cX2_whyShut 1 = .ok (.aload_n 1, 1) := by decide +kernel
theorem dX2_whyShut_2 : decode cX2_whyShut 2 = .ok (.aload_n 1, 1) := by decide +kernel
theorem dX2_whyShut_3 : decode cX2_whyShut 3 = .ok (.getfield 63, 3) := by decide +kernel
theorem dX2_whyShut_6 : decode cX2_whyShut 6 = .ok (.iload_n 2, 1) := by decide +kernel
theorem dX2_whyShut_7 : decode cX2_whyShut 7 = .ok (.iaload, 1) := by decide +kernel
theorem dX2_whyShut_8 : decode cX2_whyShut 8 = .ok (.invokevirtual 30, 3) := by decide +kernel
theorem dX2_whyShut_11 : decode cX2_whyShut 11 = .ok (.if_icmp .lt 18, 3) := by decide +kernel
theorem dX2_whyShut_14 : decode cX2_whyShut 14 = .ok (.iload_n 3, 1) := by decide +kernel
theorem dX2_whyShut_15 : decode cX2_whyShut 15 = .ok (.aload_n 1, 1) := by decide +kernel
theorem dX2_whyShut_16 : decode cX2_whyShut 16 = .ok (.getfield 40, 3) := by decide +kernel
theorem dX2_whyShut_19 : decode cX2_whyShut 19 = .ok (.aload_n 1, 1) := by decide +kernel
theorem dX2_whyShut_20 : decode cX2_whyShut 20 = .ok (.getfield 66, 3) := by decide +kernel
theorem dX2_whyShut_23 : decode cX2_whyShut 23 = .ok (.iload_n 2, 1) := by decide +kernel
theorem dX2_whyShut_24 : decode cX2_whyShut 24 = .ok (.iaload, 1) := by decide +kernel
theorem dX2_whyShut_25 : decode cX2_whyShut 25 = .ok (.iaload, 1) := by decide +kernel
theorem dX2_whyShut_26 : decode cX2_whyShut 26 = .ok (.if_icmp .le 5, 3) := by decide +kernel
theorem dX2_whyShut_29 : decode cX2_whyShut 29 = .ok (.iconst 1, 1) := by decide +kernel
theorem dX2_whyShut_30 : decode cX2_whyShut 30 = .ok (.ireturn, 1) := by decide +kernel
theorem dX2_whyShut_31 : decode cX2_whyShut 31 = .ok (.iload_n 3, 1) := by decide +kernel
theorem dX2_whyShut_32 : decode cX2_whyShut 32 = .ok (.aload_n 0, 1) := by decide +kernel
theorem dX2_whyShut_33 : decode cX2_whyShut 33 = .ok (.aload_n 1, 1) := by decide +kernel
theorem dX2_whyShut_34 : decode cX2_whyShut 34 = .ok (.iload_n 2, 1) := by decide +kernel
theorem dX2_whyShut_35 : decode cX2_whyShut 35 = .ok (.invokevirtual 72, 3) := by decide +kernel
theorem dX2_whyShut_38 : decode cX2_whyShut 38 = .ok (.if_icmp .le 5, 3) := by decide +kernel
theorem dX2_whyShut_41 : decode cX2_whyShut 41 = .ok (.iconst 2, 1) := by decide +kernel
theorem dX2_whyShut_42 : decode cX2_whyShut 42 = .ok (.ireturn, 1) := by decide +kernel
theorem dX2_whyShut_43 : decode cX2_whyShut 43 = .ok (.iload_n 3, 1) := by decide +kernel
theorem dX2_whyShut_44 : decode cX2_whyShut 44 = .ok (.aload_n 0, 1) := by decide +kernel
theorem dX2_whyShut_45 : decode cX2_whyShut 45 = .ok (.aload_n 1, 1) := by decide +kernel
theorem dX2_whyShut_46 : decode cX2_whyShut 46 = .ok (.iload_n 2, 1) := by decide +kernel
theorem dX2_whyShut_47 : decode cX2_whyShut 47 = .ok (.invokevirtual 75, 3) := by decide +kernel
theorem dX2_whyShut_50 : decode cX2_whyShut 50 = .ok (.if_icmp .ge 5, 3) := by decide +kernel
theorem dX2_whyShut_53 : decode cX2_whyShut 53 = .ok (.iconst 3, 1) := by decide +kernel
theorem dX2_whyShut_54 : decode cX2_whyShut 54 = .ok (.ireturn, 1) := by decide +kernel
theorem dX2_whyShut_55 : decode cX2_whyShut 55 = .ok (.aload_n 0, 1) := by decide +kernel
theorem dX2_whyShut_56 : decode cX2_whyShut 56 = .ok (.aload_n 1, 1) := by decide +kernel
theorem dX2_whyShut_57 : decode cX2_whyShut 57 = .ok (.invokevirtual 46, 3) := by decide +kernel
theorem dX2_whyShut_60 : decode cX2_whyShut 60 = .ok (.aload_n 0, 1) := by decide +kernel
theorem dX2_whyShut_61 : decode cX2_whyShut 61 = .ok (.getfield 15, 3) := by decide +kernel
theorem dX2_whyShut_64 : decode cX2_whyShut 64 = .ok (.iload_n 3, 1) := by decide +kernel
theorem dX2_whyShut_65 : decode cX2_whyShut 65 = .ok (.iaload, 1) := by decide +kernel
theorem dX2_whyShut_66 : decode cX2_whyShut 66 = .ok (.aload_n 0, 1) := by decide +kernel
theorem dX2_whyShut_67 : decode cX2_whyShut 67 = .ok (.aload_n 1, 1) := by decide +kernel
theorem dX2_whyShut_68 : decode cX2_whyShut 68 = .ok (.iload_n 2, 1) := by decide +kernel
theorem dX2_whyShut_69 : decode cX2_whyShut 69 = .ok (.invokevirtual 69, 3) := by decide +kernel
theorem dX2_whyShut_72 : decode cX2_whyShut 72 = .ok (.iand, 1) := by decide +kernel
theorem dX2_whyShut_73 : decode cX2_whyShut 73 = .ok (.ifCond .ne 7, 3) := by decide +kernel
theorem dX2_whyShut_76 : decode cX2_whyShut 76 = .ok (.iconst 0, 1) := by decide +kernel
theorem dX2_whyShut_77 : decode cX2_whyShut 77 = .ok (.goto 4, 3) := by decide +kernel
theorem dX2_whyShut_80 : decode cX2_whyShut 80 = .ok (.iconst 4, 1) := by decide +kernel
theorem dX2_whyShut_81 : decode cX2_whyShut 81 = .ok (.ireturn, 1) := by decide +kernel
theorem dX2_highest_0 : decode cX2_highest 0 = .ok (.aload_n 1, 1) := by decide +kernel
theorem dX2_highest_1 : decode cX2_highest 1 = .ok (.getfield 63, 3) := by decide +kernel
theorem dX2_highest_4 : decode cX2_highest 4 = .ok (.iload_n 2, 1) := by decide +kernel
theorem dX2_highest_5 : decode cX2_highest 5 = .ok (.iaload, 1) := by decide +kernel
theorem dX2_highest_6 : decode cX2_highest 6 = .ok (.istore_n 3, 1) := by decide +kernel
theorem dX2_highest_7 : decode cX2_highest 7 = .ok (.aload_n 1, 1) := by decide +kernel
theorem dX2_highest_8 : decode cX2_highest 8 = .ok (.getfield 40, 3) := by decide +kernel
theorem dX2_highest_11 : decode cX2_highest 11 = .ok (.aload_n 1, 1) := by decide +kernel
theorem dX2_highest_12 : decode cX2_highest 12 = .ok (.getfield 66, 3) := by decide +kernel
theorem dX2_highest_15 : decode cX2_highest 15 = .ok (.iload_n 2, 1) := by decide +kernel
theorem dX2_highest_16 : decode cX2_highest 16 = .ok (.iaload, 1) := by decide +kernel
theorem dX2_highest_17 : decode cX2_highest 17 = .ok (.iaload, 1) := by decide +kernel
theorem dX2_highest_18 : decode cX2_highest 18 = .ok (.istore 4, 2) := by decide +kernel
theorem dX2_highest_20 : decode cX2_highest 20 = .ok (.iconst 0, 1) := by decide +kernel
theorem dX2_highest_21 : decode cX2_highest 21 = .ok (.istore 5, 2) := by decide +kernel
theorem dX2_highest_23 : decode cX2_highest 23 = .ok (.iload 5, 2) := by decide +kernel
theorem dX2_highest_25 : decode cX2_highest 25 = .ok (.aload_n 1, 1) := by decide +kernel
theorem dX2_highest_26 : decode cX2_highest 26 = .ok (.getfield 24, 3) := by decide +kernel
theorem dX2_highest_29 : decode cX2_highest 29 = .ok (.if_icmp .ge 55, 3) := by decide +kernel
theorem dX2_highest_32 : decode cX2_highest 32 = .ok (.aload_n 1, 1) := by decide +kernel
theorem dX2_highest_33 : decode cX2_highest 33 = .ok (.getfield 43, 3) := by decide +kernel
theorem dX2_highest_36 : decode cX2_highest 36 = .ok (.iload 5, 2) := by decide +kernel
theorem dX2_highest_38 : decode cX2_highest 38 = .ok (.iaload, 1) := by decide +kernel
theorem dX2_highest_39 : decode cX2_highest 39 = .ok (.aload_n 1, 1) := by decide +kernel
theorem dX2_highest_40 : decode cX2_highest 40 = .ok (.getfield 43, 3) := by decide +kernel
theorem dX2_highest_43 : decode cX2_highest 43 = .ok (.iload_n 3, 1) := by decide +kernel
theorem dX2_highest_44 : decode cX2_highest 44 = .ok (.iaload, 1) := by decide +kernel
theorem dX2_highest_45 : decode cX2_highest 45 = .ok (.if_icmp .ne 33, 3) := by decide +kernel
theorem dX2_highest_48 : decode cX2_highest 48 = .ok (.aload_n 1, 1) := by decide +kernel
theorem dX2_highest_49 : decode cX2_highest 49 = .ok (.getfield 40, 3) := by decide +kernel
theorem dX2_highest_52 : decode cX2_highest 52 = .ok (.iload 5, 2) := by decide +kernel
theorem dX2_highest_54 : decode cX2_highest 54 = .ok (.iaload, 1) := by decide +kernel
theorem dX2_highest_55 : decode cX2_highest 55 = .ok (.aload_n 1, 1) := by decide +kernel
theorem dX2_highest_56 : decode cX2_highest 56 = .ok (.getfield 40, 3) := by decide +kernel
theorem dX2_highest_59 : decode cX2_highest 59 = .ok (.iload_n 3, 1) := by decide +kernel
theorem dX2_highest_60 : decode cX2_highest 60 = .ok (.iaload, 1) := by decide +kernel
theorem dX2_highest_61 : decode cX2_highest 61 = .ok (.if_icmp .le 17, 3) := by decide +kernel
theorem dX2_highest_64 : decode cX2_highest 64 = .ok (.iload 4, 2) := by decide +kernel
theorem dX2_highest_66 : decode cX2_highest 66 = .ok (.aload_n 1, 1) := by decide +kernel
theorem dX2_highest_67 : decode cX2_highest 67 = .ok (.getfield 40, 3) := by decide +kernel
theorem dX2_highest_70 : decode cX2_highest 70 = .ok (.iload 5, 2) := by decide +kernel
theorem dX2_highest_72 : decode cX2_highest 72 = .ok (.iaload, 1) := by decide +kernel
theorem dX2_highest_73 : decode cX2_highest 73 = .ok (.invokestatic 34, 3) := by decide +kernel
theorem dX2_highest_76 : decode cX2_highest 76 = .ok (.istore 4, 2) := by decide +kernel
theorem dX2_highest_78 : decode cX2_highest 78 = .ok (.iinc 5 1, 3) := by decide +kernel
theorem dX2_highest_81 : decode cX2_highest 81 = .ok (.goto (-58), 3) := by decide +kernel
theorem dX2_highest_84 : decode cX2_highest 84 = .ok (.iload 4, 2) := by decide +kernel
theorem dX2_highest_86 : decode cX2_highest 86 = .ok (.ireturn, 1) := by decide +kernel
theorem dX2_lowest_0 : decode cX2_lowest 0 = .ok (.aload_n 1, 1) := by decide +kernel
theorem dX2_lowest_1 : decode cX2_lowest 1 = .ok (.getfield 66, 3) := by decide +kernel
theorem dX2_lowest_4 : decode cX2_lowest 4 = .ok (.iload_n 2, 1) := by decide +kernel
theorem dX2_lowest_5 : decode cX2_lowest 5 = .ok (.iaload, 1) := by decide +kernel
theorem dX2_lowest_6 : decode cX2_lowest 6 = .ok (.istore_n 3, 1) := by decide +kernel
theorem dX2_lowest_7 : decode cX2_lowest 7 = .ok (.aload_n 1, 1) := by decide +kernel
theorem dX2_lowest_8 : decode cX2_lowest 8 = .ok (.aload_n 1, 1) := by decide +kernel
theorem dX2_lowest_9 : decode cX2_lowest 9 = .ok (.getfield 63, 3) := by decide +kernel
theorem dX2_lowest_12 : decode cX2_lowest 12 = .ok (.iload_n 2, 1) := by decide +kernel
theorem dX2_lowest_13 : decode cX2_lowest 13 = .ok (.iaload, 1) := by decide +kernel
theorem dX2_lowest_14 : decode cX2_lowest 14 = .ok (.invokevirtual 30, 3) := by decide +kernel
theorem dX2_lowest_17 : decode cX2_lowest 17 = .ok (.istore 4, 2) := by decide +kernel
theorem dX2_lowest_19 : decode cX2_lowest 19 = .ok (.iconst 0, 1) := by decide +kernel
theorem dX2_lowest_20 : decode cX2_lowest 20 = .ok (.istore 5, 2) := by decide +kernel
theorem dX2_lowest_22 : decode cX2_lowest 22 = .ok (.iload 5, 2) := by decide +kernel
theorem dX2_lowest_24 : decode cX2_lowest 24 = .ok (.aload_n 1, 1) := by decide +kernel
theorem dX2_lowest_25 : decode cX2_lowest 25 = .ok (.getfield 24, 3) := by decide +kernel
theorem dX2_lowest_28 : decode cX2_lowest 28 = .ok (.if_icmp .ge 54, 3) := by decide +kernel
theorem dX2_lowest_31 : decode cX2_lowest 31 = .ok (.aload_n 1, 1) := by decide +kernel
theorem dX2_lowest_32 : decode cX2_lowest 32 = .ok (.getfield 43, 3) := by decide +kernel
theorem dX2_lowest_35 : decode cX2_lowest 35 = .ok (.iload 5, 2) := by decide +kernel
theorem dX2_lowest_37 : decode cX2_lowest 37 = .ok (.iaload, 1) := by decide +kernel
theorem dX2_lowest_38 : decode cX2_lowest 38 = .ok (.aload_n 1, 1) := by decide +kernel
theorem dX2_lowest_39 : decode cX2_lowest 39 = .ok (.getfield 43, 3) := by decide +kernel
theorem dX2_lowest_42 : decode cX2_lowest 42 = .ok (.iload_n 3, 1) := by decide +kernel
theorem dX2_lowest_43 : decode cX2_lowest 43 = .ok (.iaload, 1) := by decide +kernel
theorem dX2_lowest_44 : decode cX2_lowest 44 = .ok (.if_icmp .ne 32, 3) := by decide +kernel
theorem dX2_lowest_47 : decode cX2_lowest 47 = .ok (.aload_n 1, 1) := by decide +kernel
theorem dX2_lowest_48 : decode cX2_lowest 48 = .ok (.getfield 40, 3) := by decide +kernel
theorem dX2_lowest_51 : decode cX2_lowest 51 = .ok (.iload 5, 2) := by decide +kernel
theorem dX2_lowest_53 : decode cX2_lowest 53 = .ok (.iaload, 1) := by decide +kernel
theorem dX2_lowest_54 : decode cX2_lowest 54 = .ok (.aload_n 1, 1) := by decide +kernel
theorem dX2_lowest_55 : decode cX2_lowest 55 = .ok (.getfield 40, 3) := by decide +kernel
theorem dX2_lowest_58 : decode cX2_lowest 58 = .ok (.iload_n 3, 1) := by decide +kernel
theorem dX2_lowest_59 : decode cX2_lowest 59 = .ok (.iaload, 1) := by decide +kernel
theorem dX2_lowest_60 : decode cX2_lowest 60 = .ok (.if_icmp .ge 16, 3) := by decide +kernel
theorem dX2_lowest_63 : decode cX2_lowest 63 = .ok (.iload 4, 2) := by decide +kernel
theorem dX2_lowest_65 : decode cX2_lowest 65 = .ok (.aload_n 1, 1) := by decide +kernel
theorem dX2_lowest_66 : decode cX2_lowest 66 = .ok (.iload 5, 2) := by decide +kernel
theorem dX2_lowest_68 : decode cX2_lowest 68 = .ok (.invokevirtual 30, 3) := by decide +kernel
theorem dX2_lowest_71 : decode cX2_lowest 71 = .ok (.invokestatic 81, 3) := by decide +kernel
theorem dX2_lowest_74 : decode cX2_lowest 74 = .ok (.istore 4, 2) := by decide +kernel
theorem dX2_lowest_76 : decode cX2_lowest 76 = .ok (.iinc 5 1, 3) := by decide +kernel
theorem dX2_lowest_79 : decode cX2_lowest 79 = .ok (.goto (-57), 3) := by decide +kernel
theorem dX2_lowest_82 : decode cX2_lowest 82 = .ok (.iload 4, 2) := by decide +kernel
theorem dX2_lowest_84 : decode cX2_lowest 84 = .ok (.ireturn, 1) := by decide +kernel
theorem dX2_lanesBetween_0 : decode cX2_lanesBetween 0 = .ok (.aload_n 1, 1) := by decide +kernel
theorem dX2_lanesBetween_1 : decode cX2_lanesBetween 1 = .ok (.getfield 43, 3) := by decide +kernel
theorem dX2_lanesBetween_4 : decode cX2_lanesBetween 4 = .ok (.aload_n 1, 1) := by decide +kernel
theorem dX2_lanesBetween_5 : decode cX2_lanesBetween 5 = .ok (.getfield 63, 3) := by decide +kernel
theorem dX2_lanesBetween_8 : decode cX2_lanesBetween 8 = .ok (.iload_n 2, 1) := by decide +kernel
theorem dX2_lanesBetween_9 : decode cX2_lanesBetween 9 = .ok (.iaload, 1) := by decide +kernel
theorem dX2_lanesBetween_10 : decode cX2_lanesBetween 10 = .ok (.iaload, 1) := by decide +kernel
theorem dX2_lanesBetween_11 : decode cX2_lanesBetween 11 = .ok (.istore_n 3, 1) := by decide +kernel
theorem dX2_lanesBetween_12 : decode cX2_lanesBetween 12 = .ok (.aload_n 1, 1) := by decide +kernel
theorem dX2_lanesBetween_13 : decode cX2_lanesBetween 13 = .ok (.getfield 43, 3) := by decide +kernel
theorem dX2_lanesBetween_16 : decode cX2_lanesBetween 16 = .ok (.aload_n 1, 1) := by decide +kernel
theorem dX2_lanesBetween_17 : decode cX2_lanesBetween 17 = .ok (.getfield 66, 3) := by decide +kernel
theorem dX2_lanesBetween_20 : decode cX2_lanesBetween 20 = .ok (.iload_n 2, 1) := by decide +kernel
theorem dX2_lanesBetween_21 : decode cX2_lanesBetween 21 = .ok (.iaload, 1) := by decide +kernel
theorem dX2_lanesBetween_22 : decode cX2_lanesBetween 22 = .ok (.iaload, 1) := by decide +kernel
theorem dX2_lanesBetween_23 : decode cX2_lanesBetween 23 = .ok (.istore 4, 2) := by decide +kernel
theorem dX2_lanesBetween_25 : decode cX2_lanesBetween 25 = .ok (.iconst 2, 1) := by decide +kernel
theorem dX2_lanesBetween_26 : decode cX2_lanesBetween 26 = .ok (.iload_n 3, 1) := by decide +kernel
theorem dX2_lanesBetween_27 : decode cX2_lanesBetween 27 = .ok (.iload 4, 2) := by decide +kernel
theorem dX2_lanesBetween_29 : decode cX2_lanesBetween 29 = .ok (.invokestatic 34, 3) := by decide +kernel
theorem dX2_lanesBetween_32 : decode cX2_lanesBetween 32 = .ok (.ishl, 1) := by decide +kernel
theorem dX2_lanesBetween_33 : decode cX2_lanesBetween 33 = .ok (.iconst 1, 1) := by decide +kernel
theorem dX2_lanesBetween_34 : decode cX2_lanesBetween 34 = .ok (.isub, 1) := by decide +kernel
theorem dX2_lanesBetween_35 : decode cX2_lanesBetween 35 = .ok (.istore 5, 2) := by decide +kernel
theorem dX2_lanesBetween_37 : decode cX2_lanesBetween 37 = .ok (.iconst 1, 1) := by decide +kernel
theorem dX2_lanesBetween_38 : decode cX2_lanesBetween 38 = .ok (.iload_n 3, 1) := by decide +kernel
theorem dX2_lanesBetween_39 : decode cX2_lanesBetween 39 = .ok (.iload 4, 2) := by decide +kernel
theorem dX2_lanesBetween_41 : decode cX2_lanesBetween 41 = .ok (.invokestatic 81, 3) := by decide +kernel
theorem dX2_lanesBetween_44 : decode cX2_lanesBetween 44 = .ok (.ishl, 1) := by decide +kernel
theorem dX2_lanesBetween_45 : decode cX2_lanesBetween 45 = .ok (.iconst 1, 1) := by decide +kernel
theorem dX2_lanesBetween_46 : decode cX2_lanesBetween 46 = .ok (.isub, 1) := by decide +kernel
theorem dX2_lanesBetween_47 : decode cX2_lanesBetween 47 = .ok (.istore 6, 2) := by decide +kernel
theorem dX2_lanesBetween_49 : decode cX2_lanesBetween 49 = .ok (.iload 6, 2) := by decide +kernel
theorem dX2_lanesBetween_51 : decode cX2_lanesBetween 51 = .ok (.iload 5, 2) := by decide +kernel
theorem dX2_lanesBetween_53 : decode cX2_lanesBetween 53 = .ok (.iconst (-1), 1) := by decide +kernel
theorem dX2_lanesBetween_54 : decode cX2_lanesBetween 54 = .ok (.ixor, 1) := by decide +kernel
theorem dX2_lanesBetween_55 : decode cX2_lanesBetween 55 = .ok (.iand, 1) := by decide +kernel
theorem dX2_lanesBetween_56 : decode cX2_lanesBetween 56 = .ok (.ireturn, 1) := by decide +kernel
theorem dX2_pointsInAll_0 : decode cX2_pointsInAll 0 = .ok (.iconst 0, 1) := by decide +kernel
theorem dX2_pointsInAll_1 : decode cX2_pointsInAll 1 = .ok (.istore_n 2, 1) := by decide +kernel
theorem dX2_pointsInAll_2 : decode cX2_pointsInAll 2 = .ok (.iconst 0, 1) := by decide +kernel
theorem dX2_pointsInAll_3 : decode cX2_pointsInAll 3 = .ok (.istore_n 3, 1) := by decide +kernel
theorem dX2_pointsInAll_4 : decode cX2_pointsInAll 4 = .ok (.iload_n 3, 1) := by decide +kernel
theorem dX2_pointsInAll_5 : decode cX2_pointsInAll 5 = .ok (.aload_n 1, 1) := by decide +kernel
theorem dX2_pointsInAll_6 : decode cX2_pointsInAll 6 = .ok (.getfield 53, 3) := by decide +kernel
theorem dX2_pointsInAll_9 : decode cX2_pointsInAll 9 = .ok (.if_icmp .ge 46, 3) := by decide +kernel
theorem dX2_pointsInAll_12 : decode cX2_pointsInAll 12 = .ok (.iconst 0, 1) := by decide +kernel
theorem dX2_pointsInAll_13 : decode cX2_pointsInAll 13 = .ok (.istore 4, 2) := by decide +kernel
theorem dX2_pointsInAll_15 : decode cX2_pointsInAll 15 = .ok (.iload 4, 2) := by decide +kernel
theorem dX2_pointsInAll_17 : decode cX2_pointsInAll 17 = .ok (.aload_n 1, 1) := by decide +kernel
theorem dX2_pointsInAll_18 : decode cX2_pointsInAll 18 = .ok (.getfield 53, 3) := by decide +kernel
theorem dX2_pointsInAll_21 : decode cX2_pointsInAll 21 = .ok (.if_icmp .ge 28, 3) := by decide +kernel
theorem dX2_pointsInAll_24 : decode cX2_pointsInAll 24 = .ok (.iload_n 2, 1) := by decide +kernel
theorem dX2_pointsInAll_25 : decode cX2_pointsInAll 25 = .ok (.aload_n 0, 1) := by decide +kernel
theorem dX2_pointsInAll_26 : decode cX2_pointsInAll 26 = .ok (.aload_n 1, 1) := by decide +kernel
theorem dX2_pointsInAll_27 : decode cX2_pointsInAll 27 = .ok (.iload_n 3, 1) := by decide +kernel
theorem dX2_pointsInAll_28 : decode cX2_pointsInAll 28 = .ok (.iload 4, 2) := by decide +kernel
theorem dX2_pointsInAll_30 : decode cX2_pointsInAll 30 = .ok (.invokevirtual 84, 3) := by decide +kernel
theorem dX2_pointsInAll_33 : decode cX2_pointsInAll 33 = .ok (.ifCond .eq 7, 3) := by decide +kernel
theorem dX2_pointsInAll_36 : decode cX2_pointsInAll 36 = .ok (.iconst 1, 1) := by decide +kernel
theorem dX2_pointsInAll_37 : decode cX2_pointsInAll 37 = .ok (.goto 4, 3) := by decide +kernel
theorem dX2_pointsInAll_40 : decode cX2_pointsInAll 40 = .ok (.iconst 0, 1) := by decide +kernel
theorem dX2_pointsInAll_41 : decode cX2_pointsInAll 41 = .ok (.iadd, 1) := by decide +kernel
theorem dX2_pointsInAll_42 : decode cX2_pointsInAll 42 = .ok (.istore_n 2, 1) := by decide +kernel
theorem dX2_pointsInAll_43 : decode cX2_pointsInAll 43 = .ok (.iinc 4 1, 3) := by decide +kernel
theorem dX2_pointsInAll_46 : decode cX2_pointsInAll 46 = .ok (.goto (-31), 3) := by decide +kernel
theorem dX2_pointsInAll_49 : decode cX2_pointsInAll 49 = .ok (.iinc 3 1, 3) := by decide +kernel
theorem dX2_pointsInAll_52 : decode cX2_pointsInAll 52 = .ok (.goto (-48), 3) := by decide +kernel
theorem dX2_pointsInAll_55 : decode cX2_pointsInAll 55 = .ok (.iload_n 2, 1) := by decide +kernel
theorem dX2_pointsInAll_56 : decode cX2_pointsInAll 56 = .ok (.ireturn, 1) := by decide +kernel
theorem dX2_pointsOf_0 : decode cX2_pointsOf 0 = .ok (.iconst 0, 1) := by decide +kernel
theorem dX2_pointsOf_1 : decode cX2_pointsOf 1 = .ok (.istore_n 3, 1) := by decide +kernel
theorem dX2_pointsOf_2 : decode cX2_pointsOf 2 = .ok (.iconst 0, 1) := by decide +kernel
theorem dX2_pointsOf_3 : decode cX2_pointsOf 3 = .ok (.istore 4, 2) := by decide +kernel
theorem dX2_pointsOf_5 : decode cX2_pointsOf 5 = .ok (.iload 4, 2) := by decide +kernel
theorem dX2_pointsOf_7 : decode cX2_pointsOf 7 = .ok (.aload_n 1, 1) := by decide +kernel
theorem dX2_pointsOf_8 : decode cX2_pointsOf 8 = .ok (.getfield 53, 3) := by decide +kernel
theorem dX2_pointsOf_11 : decode cX2_pointsOf 11 = .ok (.if_icmp .ge 47, 3) := by decide +kernel
theorem dX2_pointsOf_14 : decode cX2_pointsOf 14 = .ok (.iload_n 3, 1) := by decide +kernel
theorem dX2_pointsOf_15 : decode cX2_pointsOf 15 = .ok (.aload_n 0, 1) := by decide +kernel
theorem dX2_pointsOf_16 : decode cX2_pointsOf 16 = .ok (.aload_n 1, 1) := by decide +kernel
theorem dX2_pointsOf_17 : decode cX2_pointsOf 17 = .ok (.iload_n 2, 1) := by decide +kernel
theorem dX2_pointsOf_18 : decode cX2_pointsOf 18 = .ok (.iload 4, 2) := by decide +kernel
theorem dX2_pointsOf_20 : decode cX2_pointsOf 20 = .ok (.invokevirtual 84, 3) := by decide +kernel
theorem dX2_pointsOf_23 : decode cX2_pointsOf 23 = .ok (.ifCond .eq 7, 3) := by decide +kernel
theorem dX2_pointsOf_26 : decode cX2_pointsOf 26 = .ok (.iconst 1, 1) := by decide +kernel
theorem dX2_pointsOf_27 : decode cX2_pointsOf 27 = .ok (.goto 4, 3) := by decide +kernel
theorem dX2_pointsOf_30 : decode cX2_pointsOf 30 = .ok (.iconst 0, 1) := by decide +kernel
theorem dX2_pointsOf_31 : decode cX2_pointsOf 31 = .ok (.iadd, 1) := by decide +kernel
theorem dX2_pointsOf_32 : decode cX2_pointsOf 32 = .ok (.istore_n 3, 1) := by decide +kernel
theorem dX2_pointsOf_33 : decode cX2_pointsOf 33 = .ok (.iload_n 3, 1) := by decide +kernel
theorem dX2_pointsOf_34 : decode cX2_pointsOf 34 = .ok (.aload_n 0, 1) := by decide +kernel
theorem dX2_pointsOf_35 : decode cX2_pointsOf 35 = .ok (.aload_n 1, 1) := by decide +kernel
theorem dX2_pointsOf_36 : decode cX2_pointsOf 36 = .ok (.iload 4, 2) := by decide +kernel
theorem dX2_pointsOf_38 : decode cX2_pointsOf 38 = .ok (.iload_n 2, 1) := by decide +kernel
theorem dX2_pointsOf_39 : decode cX2_pointsOf 39 = .ok (.invokevirtual 84, 3) := by decide +kernel
theorem dX2_pointsOf_42 : decode cX2_pointsOf 42 = .ok (.ifCond .eq 7, 3) := by decide +kernel
theorem dX2_pointsOf_45 : decode cX2_pointsOf 45 = .ok (.iconst 1, 1) := by decide +kernel
theorem dX2_pointsOf_46 : decode cX2_pointsOf 46 = .ok (.goto 4, 3) := by decide +kernel
theorem dX2_pointsOf_49 : decode cX2_pointsOf 49 = .ok (.iconst 0, 1) := by decide +kernel
theorem dX2_pointsOf_50 : decode cX2_pointsOf 50 = .ok (.iadd, 1) := by decide +kernel
theorem dX2_pointsOf_51 : decode cX2_pointsOf 51 = .ok (.istore_n 3, 1) := by decide +kernel
theorem dX2_pointsOf_52 : decode cX2_pointsOf 52 = .ok (.iinc 4 1, 3) := by decide +kernel
theorem dX2_pointsOf_55 : decode cX2_pointsOf 55 = .ok (.goto (-50), 3) := by decide +kernel
theorem dX2_pointsOf_58 : decode cX2_pointsOf 58 = .ok (.iload_n 3, 1) := by decide +kernel
theorem dX2_pointsOf_59 : decode cX2_pointsOf 59 = .ok (.ireturn, 1) := by decide +kernel
theorem dX2_crosses_0 : decode cX2_crosses 0 = .ok (.aload_n 0, 1) := by decide +kernel
theorem dX2_crosses_1 : decode cX2_crosses 1 = .ok (.getfield 9, 3) := by decide +kernel
theorem dX2_crosses_4 : decode cX2_crosses 4 = .ok (.iload_n 2, 1) := by decide +kernel
theorem dX2_crosses_5 : decode cX2_crosses 5 = .ok (.iaload, 1) := by decide +kernel
theorem dX2_crosses_6 : decode cX2_crosses 6 = .ok (.bipush (-5), 2) := by decide +kernel
theorem dX2_crosses_8 : decode cX2_crosses 8 = .ok (.if_icmp .eq 14, 3) := by decide +kernel
theorem dX2_crosses_11 : decode cX2_crosses 11 = .ok (.aload_n 0, 1) := by decide +kernel
theorem dX2_crosses_12 : decode cX2_crosses 12 = .ok (.getfield 9, 3) := by decide +kernel
theorem dX2_crosses_15 : decode cX2_crosses 15 = .ok (.iload_n 3, 1) := by decide +kernel
theorem dX2_crosses_16 : decode cX2_crosses 16 = .ok (.iaload, 1) := by decide +kernel
theorem dX2_crosses_17 : decode cX2_crosses 17 = .ok (.bipush (-5), 2) := by decide +kernel
theorem dX2_crosses_19 : decode cX2_crosses 19 = .ok (.if_icmp .ne 5, 3) := by decide +kernel
theorem dX2_crosses_22 : decode cX2_crosses 22 = .ok (.iconst 0, 1) := by decide +kernel
theorem dX2_crosses_23 : decode cX2_crosses 23 = .ok (.ireturn, 1) := by decide +kernel
theorem dX2_crosses_24 : decode cX2_crosses 24 = .ok (.aload_n 0, 1) := by decide +kernel
theorem dX2_crosses_25 : decode cX2_crosses 25 = .ok (.aload_n 1, 1) := by decide +kernel
theorem dX2_crosses_26 : decode cX2_crosses 26 = .ok (.iload_n 2, 1) := by decide +kernel
theorem dX2_crosses_27 : decode cX2_crosses 27 = .ok (.iload_n 3, 1) := by decide +kernel
theorem dX2_crosses_28 : decode cX2_crosses 28 = .ok (.aload_n 1, 1) := by decide +kernel
theorem dX2_crosses_29 : decode cX2_crosses 29 = .ok (.getfield 43, 3) := by decide +kernel
theorem dX2_crosses_32 : decode cX2_crosses 32 = .ok (.aload_n 1, 1) := by decide +kernel
theorem dX2_crosses_33 : decode cX2_crosses 33 = .ok (.getfield 63, 3) := by decide +kernel
theorem dX2_crosses_36 : decode cX2_crosses 36 = .ok (.iload_n 3, 1) := by decide +kernel
theorem dX2_crosses_37 : decode cX2_crosses 37 = .ok (.iaload, 1) := by decide +kernel
theorem dX2_crosses_38 : decode cX2_crosses 38 = .ok (.iaload, 1) := by decide +kernel
theorem dX2_crosses_39 : decode cX2_crosses 39 = .ok (.invokevirtual 88, 3) := by decide +kernel
theorem dX2_crosses_42 : decode cX2_crosses 42 = .ok (.ifCond .ne 24, 3) := by decide +kernel
theorem dX2_crosses_45 : decode cX2_crosses 45 = .ok (.aload_n 0, 1) := by decide +kernel
theorem dX2_crosses_46 : decode cX2_crosses 46 = .ok (.aload_n 1, 1) := by decide +kernel
theorem dX2_crosses_47 : decode cX2_crosses 47 = .ok (.iload_n 2, 1) := by decide +kernel
theorem dX2_crosses_48 : decode cX2_crosses 48 = .ok (.iload_n 3, 1) := by decide +kernel
theorem dX2_crosses_49 : decode cX2_crosses 49 = .ok (.aload_n 1, 1) := by decide +kernel
theorem dX2_crosses_50 : decode cX2_crosses 50 = .ok (.getfield 43, 3) := by decide +kernel
theorem dX2_crosses_53 : decode cX2_crosses 53 = .ok (.aload_n 1, 1) := by decide +kernel
theorem dX2_crosses_54 : decode cX2_crosses 54 = .ok (.getfield 66, 3) := by decide +kernel
theorem dX2_crosses_57 : decode cX2_crosses 57 = .ok (.iload_n 3, 1) := by decide +kernel
theorem dX2_crosses_58 : decode cX2_crosses 58 = .ok (.iaload, 1) := by decide +kernel
theorem dX2_crosses_59 : decode cX2_crosses 59 = .ok (.iaload, 1) := by decide +kernel
theorem dX2_crosses_60 : decode cX2_crosses 60 = .ok (.invokevirtual 88, 3) := by decide +kernel
theorem dX2_crosses_63 : decode cX2_crosses 63 = .ok (.ifCond .eq 7, 3) := by decide +kernel
theorem dX2_crosses_66 : decode cX2_crosses 66 = .ok (.iconst 1, 1) := by decide +kernel
theorem dX2_crosses_67 : decode cX2_crosses 67 = .ok (.goto 4, 3) := by decide +kernel
theorem dX2_crosses_70 : decode cX2_crosses 70 = .ok (.iconst 0, 1) := by decide +kernel
theorem dX2_crosses_71 : decode cX2_crosses 71 = .ok (.ireturn, 1) := by decide +kernel
theorem dX2_passesThrough_0 : decode cX2_passesThrough 0 = .ok (.aload_n 0, 1) := by decide +kernel
theorem dX2_passesThrough_1 : decode cX2_passesThrough 1 = .ok (.aload_n 1, 1) := by decide +kernel
theorem dX2_passesThrough_2 : decode cX2_passesThrough 2 = .ok (.iload_n 2, 1) := by decide +kernel
theorem dX2_passesThrough_3 : decode cX2_passesThrough 3 = .ok (.invokevirtual 69, 3) := by decide +kernel
theorem dX2_passesThrough_6 : decode cX2_passesThrough 6 = .ok (.iload 4, 2) := by decide +kernel
theorem dX2_passesThrough_8 : decode cX2_passesThrough 8 = .ok (.ishr, 1) := by decide +kernel
theorem dX2_passesThrough_9 : decode cX2_passesThrough 9 = .ok (.iconst 1, 1) := by decide +kernel
theorem dX2_passesThrough_10 : decode cX2_passesThrough 10 = .ok (.iand, 1) := by decide +kernel
theorem dX2_passesThrough_11 : decode cX2_passesThrough 11 = .ok (.iconst 1, 1) := by decide +kernel
theorem dX2_passesThrough_12 : decode cX2_passesThrough 12 = .ok (.if_icmp .ne 43, 3) := by decide +kernel
theorem dX2_passesThrough_15 : decode cX2_passesThrough 15 = .ok (.aload_n 0, 1) := by decide +kernel
theorem dX2_passesThrough_16 : decode cX2_passesThrough 16 = .ok (.aload_n 1, 1) := by decide +kernel
theorem dX2_passesThrough_17 : decode cX2_passesThrough 17 = .ok (.iload_n 3, 1) := by decide +kernel
theorem dX2_passesThrough_18 : decode cX2_passesThrough 18 = .ok (.iload 4, 2) := by decide +kernel
theorem dX2_passesThrough_20 : decode cX2_passesThrough 20 = .ok (.aload_n 0, 1) := by decide +kernel
theorem dX2_passesThrough_21 : decode cX2_passesThrough 21 = .ok (.getfield 9, 3) := by decide +kernel
theorem dX2_passesThrough_24 : decode cX2_passesThrough 24 = .ok (.iload_n 2, 1) := by decide +kernel
theorem dX2_passesThrough_25 : decode cX2_passesThrough 25 = .ok (.iaload, 1) := by decide +kernel
theorem dX2_passesThrough_26 : decode cX2_passesThrough 26 = .ok (.iconst 1, 1) := by decide +kernel
theorem dX2_passesThrough_27 : decode cX2_passesThrough 27 = .ok (.isub, 1) := by decide +kernel
theorem dX2_passesThrough_28 : decode cX2_passesThrough 28 = .ok (.invokevirtual 92, 3) := by decide +kernel
theorem dX2_passesThrough_31 : decode cX2_passesThrough 31 = .ok (.ifCond .eq 24, 3) := by decide +kernel
theorem dX2_passesThrough_34 : decode cX2_passesThrough 34 = .ok (.aload_n 0, 1) := by decide +kernel
theorem dX2_passesThrough_35 : decode cX2_passesThrough 35 = .ok (.aload_n 1, 1) := by decide +kernel
theorem dX2_passesThrough_36 : decode cX2_passesThrough 36 = .ok (.iload_n 3, 1) := by decide +kernel
theorem dX2_passesThrough_37 : decode cX2_passesThrough 37 = .ok (.iload 4, 2) := by decide +kernel
theorem dX2_passesThrough_39 : decode cX2_passesThrough 39 = .ok (.aload_n 0, 1) := by decide +kernel
theorem dX2_passesThrough_40 : decode cX2_passesThrough 40 = .ok (.getfield 9, 3) := by decide +kernel
theorem dX2_passesThrough_43 : decode cX2_passesThrough 43 = .ok (.iload_n 2, 1) := by decide +kernel
theorem dX2_passesThrough_44 : decode cX2_passesThrough 44 = .ok (.iaload, 1) := by decide +kernel
theorem dX2_passesThrough_45 : decode cX2_passesThrough 45 = .ok (.invokevirtual 92, 3) := by decide +kernel
theorem dX2_passesThrough_48 : decode cX2_passesThrough 48 = .ok (.ifCond .eq 7, 3) := by decide +kernel
theorem dX2_passesThrough_51 : decode cX2_passesThrough 51 = .ok (.iconst 1, 1) := by decide +kernel
theorem dX2_passesThrough_52 : decode cX2_passesThrough 52 = .ok (.goto 4, 3) := by decide +kernel
theorem dX2_passesThrough_55 : decode cX2_passesThrough 55 = .ok (.iconst 0, 1) := by decide +kernel
theorem dX2_passesThrough_56 : decode cX2_passesThrough 56 = .ok (.ireturn, 1) := by decide +kernel
theorem dX2_goesAlong_0 : decode cX2_goesAlong 0 = .ok (.aload_n 1, 1) := by decide +kernel
theorem dX2_goesAlong_1 : decode cX2_goesAlong 1 = .ok (.getfield 63, 3) := by decide +kernel
theorem dX2_goesAlong_4 : decode cX2_goesAlong 4 = .ok (.iload_n 2, 1) := by decide +kernel
theorem dX2_goesAlong_5 : decode cX2_goesAlong 5 = .ok (.iaload, 1) := by decide +kernel
theorem dX2_goesAlong_6 : decode cX2_goesAlong 6 = .ok (.istore 5, 2) := by decide +kernel
theorem dX2_goesAlong_8 : decode cX2_goesAlong 8 = .ok (.aload_n 1, 1) := by decide +kernel
theorem dX2_goesAlong_9 : decode cX2_goesAlong 9 = .ok (.getfield 66, 3) := by decide +kernel
theorem dX2_goesAlong_12 : decode cX2_goesAlong 12 = .ok (.iload_n 2, 1) := by decide +kernel
theorem dX2_goesAlong_13 : decode cX2_goesAlong 13 = .ok (.iaload, 1) := by decide +kernel
theorem dX2_goesAlong_14 : decode cX2_goesAlong 14 = .ok (.istore 6, 2) := by decide +kernel
theorem dX2_goesAlong_16 : decode cX2_goesAlong 16 = .ok (.iload 4, 2) := by decide +kernel
theorem dX2_goesAlong_18 : decode cX2_goesAlong 18 = .ok (.aload_n 0, 1) := by decide +kernel
theorem dX2_goesAlong_19 : decode cX2_goesAlong 19 = .ok (.getfield 9, 3) := by decide +kernel
theorem dX2_goesAlong_22 : decode cX2_goesAlong 22 = .ok (.iload_n 2, 1) := by decide +kernel
theorem dX2_goesAlong_23 : decode cX2_goesAlong 23 = .ok (.iaload, 1) := by decide +kernel
theorem dX2_goesAlong_24 : decode cX2_goesAlong 24 = .ok (.if_icmp .ge 31, 3) := by decide +kernel
theorem dX2_goesAlong_27 : decode cX2_goesAlong 27 = .ok (.iload_n 3, 1) := by decide +kernel
theorem dX2_goesAlong_28 : decode cX2_goesAlong 28 = .ok (.aload_n 1, 1) := by decide +kernel
theorem dX2_goesAlong_29 : decode cX2_goesAlong 29 = .ok (.getfield 43, 3) := by decide +kernel
theorem dX2_goesAlong_32 : decode cX2_goesAlong 32 = .ok (.iload 5, 2) := by decide +kernel
theorem dX2_goesAlong_34 : decode cX2_goesAlong 34 = .ok (.iaload, 1) := by decide +kernel
theorem dX2_goesAlong_35 : decode cX2_goesAlong 35 = .ok (.if_icmp .ne 18, 3) := by decide +kernel
theorem dX2_goesAlong_38 : decode cX2_goesAlong 38 = .ok (.iload 4, 2) := by decide +kernel
theorem dX2_goesAlong_40 : decode cX2_goesAlong 40 = .ok (.aload_n 1, 1) := by decide +kernel
theorem dX2_goesAlong_41 : decode cX2_goesAlong 41 = .ok (.iload 5, 2) := by decide +kernel
theorem dX2_goesAlong_43 : decode cX2_goesAlong 43 = .ok (.invokevirtual 30, 3) := by decide +kernel
theorem dX2_goesAlong_46 : decode cX2_goesAlong 46 = .ok (.if_icmp .lt 7, 3) := by decide +kernel
theorem dX2_goesAlong_49 : decode cX2_goesAlong 49 = .ok (.iconst 1, 1) := by decide +kernel
theorem dX2_goesAlong_50 : decode cX2_goesAlong 50 = .ok (.goto 4, 3) := by decide +kernel
theorem dX2_goesAlong_53 : decode cX2_goesAlong 53 = .ok (.iconst 0, 1) := by decide +kernel
theorem dX2_goesAlong_54 : decode cX2_goesAlong 54 = .ok (.ireturn, 1) := by decide +kernel
theorem dX2_goesAlong_55 : decode cX2_goesAlong 55 = .ok (.iload_n 3, 1) := by decide +kernel
theorem dX2_goesAlong_56 : decode cX2_goesAlong 56 = .ok (.aload_n 1, 1) := by decide +kernel
theorem dX2_goesAlong_57 : decode cX2_goesAlong 57 = .ok (.getfield 43, 3) := by decide +kernel
theorem dX2_goesAlong_60 : decode cX2_goesAlong 60 = .ok (.iload 6, 2) := by decide +kernel
theorem dX2_goesAlong_62 : decode cX2_goesAlong 62 = .ok (.iaload, 1) := by decide +kernel
theorem dX2_goesAlong_63 : decode cX2_goesAlong 63 = .ok (.if_icmp .ne 19, 3) := by decide +kernel
theorem dX2_goesAlong_66 : decode cX2_goesAlong 66 = .ok (.iload 4, 2) := by decide +kernel
theorem dX2_goesAlong_68 : decode cX2_goesAlong 68 = .ok (.aload_n 1, 1) := by decide +kernel
theorem dX2_goesAlong_69 : decode cX2_goesAlong 69 = .ok (.getfield 40, 3) := by decide +kernel
theorem dX2_goesAlong_72 : decode cX2_goesAlong 72 = .ok (.iload 6, 2) := by decide +kernel
theorem dX2_goesAlong_74 : decode cX2_goesAlong 74 = .ok (.iaload, 1) := by decide +kernel
theorem dX2_goesAlong_75 : decode cX2_goesAlong 75 = .ok (.if_icmp .ge 7, 3) := by decide +kernel
theorem dX2_goesAlong_78 : decode cX2_goesAlong 78 = .ok (.iconst 1, 1) := by decide +kernel
theorem dX2_goesAlong_79 : decode cX2_goesAlong 79 = .ok (.goto 4, 3) := by decide +kernel
theorem dX2_goesAlong_82 : decode cX2_goesAlong 82 = .ok (.iconst 0, 1) := by decide +kernel
theorem dX2_goesAlong_83 : decode cX2_goesAlong 83 = .ok (.ireturn, 1) := by decide +kernel
theorem dX3_init_0 : decode cX3_init 0 = .ok (.aload_n 0, 1) := by decide +kernel
theorem dX3_init_1 : decode cX3_init 1 = .ok (.invokespecial 3, 3) := by decide +kernel
theorem dX3_init_4 : decode cX3_init 4 = .ok (.aload_n 0, 1) := by decide +kernel
theorem dX3_init_5 : decode cX3_init 5 = .ok (.iconst 4, 1) := by decide +kernel
theorem dX3_init_6 : decode cX3_init 6 = .ok (.anewarray 9, 3) := by decide +kernel
theorem dX3_init_9 : decode cX3_init 9 = .ok (.putfield 11, 3) := by decide +kernel
theorem dX3_init_12 : decode cX3_init 12 = .ok (.iconst 0, 1) := by decide +kernel
theorem dX3_init_13 : decode cX3_init 13 = .ok (.istore_n 1, 1) := by decide +kernel
theorem dX3_init_14 : decode cX3_init 14 = .ok (.iload_n 1, 1) := by decide +kernel
theorem dX3_init_15 : decode cX3_init 15 = .ok (.iconst 4, 1) := by decide +kernel
theorem dX3_init_16 : decode cX3_init 16 = .ok (.if_icmp .ge 22, 3) := by decide +kernel
theorem dX3_init_19 : decode cX3_init 19 = .ok (.aload_n 0, 1) := by decide +kernel
theorem dX3_init_20 : decode cX3_init 20 = .ok (.getfield 11, 3) := by decide +kernel
theorem dX3_init_23 : decode cX3_init 23 = .ok (.iload_n 1, 1) := by decide +kernel
theorem dX3_init_24 : decode cX3_init 24 = .ok (.new 9, 3) := by decide +kernel
theorem dX3_init_27 : decode cX3_init 27 = .ok (.dup, 1) := by decide +kernel
theorem dX3_init_28 : decode cX3_init 28 = .ok (.invokespecial 17, 3) := by decide +kernel
theorem dX3_init_31 : decode cX3_init 31 = .ok (.aastore, 1) := by decide +kernel
theorem dX3_init_32 : decode cX3_init 32 = .ok (.iinc 1 1, 3) := by decide +kernel
theorem dX3_init_35 : decode cX3_init 35 = .ok (.goto (-21), 3) := by decide +kernel
theorem dX3_init_38 : decode cX3_init 38 = .ok (.return_, 1) := by decide +kernel
theorem dX3_record_0 : decode cX3_record 0 = .ok (.aload_n 0, 1) := by decide +kernel
theorem dX3_record_1 : decode cX3_record 1 = .ok (.getfield 18, 3) := by decide +kernel
theorem dX3_record_4 : decode cX3_record 4 = .ok (.iconst 4, 1) := by decide +kernel
theorem dX3_record_5 : decode cX3_record 5 = .ok (.if_icmp .ne 25, 3) := by decide +kernel
theorem dX3_record_8 : decode cX3_record 8 = .ok (.aload_n 0, 1) := by decide +kernel
theorem dX3_record_9 : decode cX3_record 9 = .ok (.aload_n 0, 1) := by decide +kernel
theorem dX3_record_10 : decode cX3_record 10 = .ok (.getfield 22, 3) := by decide +kernel
theorem dX3_record_13 : decode cX3_record 13 = .ok (.iconst 1, 1) := by decide +kernel
theorem dX3_record_14 : decode cX3_record 14 = .ok (.iadd, 1) := by decide +kernel
theorem dX3_record_15 : decode cX3_record 15 = .ok (.iconst 4, 1) := by decide +kernel
theorem dX3_record_16 : decode cX3_record 16 = .ok (.irem, 1) := by decide +kernel
theorem dX3_record_17 : decode cX3_record 17 = .ok (.putfield 22, 3) := by decide +kernel
theorem dX3_record_20 : decode cX3_record 20 = .ok (.aload_n 0, 1) := by decide +kernel
theorem dX3_record_21 : decode cX3_record 21 = .ok (.dup, 1) := by decide +kernel
theorem dX3_record_22 : decode cX3_record 22 = .ok (.getfield 18, 3) := by decide +kernel
theorem dX3_record_25 : decode cX3_record 25 = .ok (.iconst 1, 1) := by decide +kernel
theorem dX3_record_26 : decode cX3_record 26 = .ok (.isub, 1) := by decide +kernel
theorem dX3_record_27 : decode cX3_record 27 = .ok (.putfield 18, 3) := by decide +kernel
theorem dX3_record_30 : decode cX3_record 30 = .ok (.aload_n 0, 1) := by decide +kernel
theorem dX3_record_31 : decode cX3_record 31 = .ok (.getfield 11, 3) := by decide +kernel
theorem dX3_record_34 : decode cX3_record 34 = .ok (.aload_n 0, 1) := by decide +kernel
theorem dX3_record_35 : decode cX3_record 35 = .ok (.getfield 22, 3) := by decide +kernel
theorem dX3_record_38 : decode cX3_record 38 = .ok (.aload_n 0, 1) := by decide +kernel
theorem dX3_record_39 : decode cX3_record 39 = .ok (.getfield 18, 3) := by decide +kernel
theorem dX3_record_42 : decode cX3_record 42 = .ok (.iadd, 1) := by decide +kernel
theorem dX3_record_43 : decode cX3_record 43 = .ok (.iconst 4, 1) := by decide +kernel
theorem dX3_record_44 : decode cX3_record 44 = .ok (.irem, 1) := by decide +kernel
theorem dX3_record_45 : decode cX3_record 45 = .ok (.aaload, 1) := by decide +kernel
theorem dX3_record_46 : decode cX3_record 46 = .ok (.aload_n 1, 1) := by decide +kernel
theorem dX3_record_47 : decode cX3_record 47 = .ok (.invokevirtual 25, 3) := by decide +kernel
theorem dX3_record_50 : decode cX3_record 50 = .ok (.aload_n 0, 1) := by decide +kernel
theorem dX3_record_51 : decode cX3_record 51 = .ok (.dup, 1) := by decide +kernel
theorem dX3_record_52 : decode cX3_record 52 = .ok (.getfield 18, 3) := by decide +kernel
theorem dX3_record_55 : decode cX3_record 55 = .ok (.iconst 1, 1) := by decide +kernel
theorem dX3_record_56 : decode cX3_record 56 = .ok (.iadd, 1) := by decide +kernel
theorem dX3_record_57 : decode cX3_record 57 = .ok (.putfield 18, 3) := by decide +kernel
theorem dX3_record_60 : decode cX3_record 60 = .ok (.return_, 1) := by decide +kernel
theorem dX3_takeLatest_0 : decode cX3_takeLatest 0 = .ok (.aload_n 0, 1) := by decide +kernel
theorem dX3_takeLatest_1 : decode cX3_takeLatest 1 = .ok (.getfield 18, 3) := by decide +kernel
theorem dX3_takeLatest_4 : decode cX3_takeLatest 4 = .ok (.ifCond .ne 6, 3) := by decide +kernel
theorem dX3_takeLatest_7 : decode cX3_takeLatest 7 = .ok (.bipush (-5), 2) := by decide +kernel
theorem dX3_takeLatest_9 : decode cX3_takeLatest 9 = .ok (.ireturn, 1) := by decide +kernel
theorem dX3_takeLatest_10 : decode cX3_takeLatest 10 = .ok (.aload_n 0, 1) := by decide +kernel
theorem dX3_takeLatest_11 : decode cX3_takeLatest 11 = .ok (.dup, 1) := by decide +kernel
theorem dX3_takeLatest_12 : decode cX3_takeLatest 12 = .ok (.getfield 18, 3) := by decide +kernel
theorem dX3_takeLatest_15 : decode cX3_takeLatest 15 = .ok (.iconst 1, 1) := by decide +kernel
theorem dX3_takeLatest_16 : decode cX3_takeLatest 16 = .ok (.isub, 1) := by decide +kernel
theorem dX3_takeLatest_17 : decode cX3_takeLatest 17 = .ok (.putfield 18, 3) := by decide +kernel
theorem dX3_takeLatest_20 : decode cX3_takeLatest 20 = .ok (.aload_n 1, 1) := by decide +kernel
theorem dX3_takeLatest_21 : decode cX3_takeLatest 21 = .ok (.aload_n 0, 1) := by decide +kernel
theorem dX3_takeLatest_22 : decode cX3_takeLatest 22 = .ok (.getfield 11, 3) := by decide +kernel
theorem dX3_takeLatest_25 : decode cX3_takeLatest 25 = .ok (.aload_n 0, 1) := by decide +kernel
theorem dX3_takeLatest_26 : decode cX3_takeLatest 26 = .ok (.getfield 22, 3) := by decide +kernel
theorem dX3_takeLatest_29 : decode cX3_takeLatest 29 = .ok (.aload_n 0, 1) := by decide +kernel
theorem dX3_takeLatest_30 : decode cX3_takeLatest 30 = .ok (.getfield 18, 3) := by decide +kernel
theorem dX3_takeLatest_33 : decode cX3_takeLatest 33 = .ok (.iadd, 1) := by decide +kernel
theorem dX3_takeLatest_34 : decode cX3_takeLatest 34 = .ok (.iconst 4, 1) := by decide +kernel
theorem dX3_takeLatest_35 : decode cX3_takeLatest 35 = .ok (.irem, 1) := by decide +kernel
theorem dX3_takeLatest_36 : decode cX3_takeLatest 36 = .ok (.aaload, 1) := by decide +kernel
theorem dX3_takeLatest_37 : decode cX3_takeLatest 37 = .ok (.invokevirtual 25, 3) := by decide +kernel
theorem dX3_takeLatest_40 : decode cX3_takeLatest 40 = .ok (.aload_n 0, 1) := by decide +kernel
theorem dX3_takeLatest_41 : decode cX3_takeLatest 41 = .ok (.getfield 18, 3) := by decide +kernel
theorem dX3_takeLatest_44 : decode cX3_takeLatest 44 = .ok (.ireturn, 1) := by decide +kernel
theorem dX4_init_0 : decode cX4_init 0 = .ok (.aload_n 0, 1) := by decide +kernel
theorem dX4_init_1 : decode cX4_init 1 = .ok (.invokespecial 3, 3) := by decide +kernel
theorem dX4_init_4 : decode cX4_init 4 = .ok (.aload_n 0, 1) := by decide +kernel
theorem dX4_init_5 : decode cX4_init 5 = .ok (.bipush 60, 2) := by decide +kernel
theorem dX4_init_7 : decode cX4_init 7 = .ok (.newarray .char, 2) := by decide +kernel
theorem dX4_init_9 : decode cX4_init 9 = .ok (.putfield 9, 3) := by decide +kernel
theorem dX4_init_12 : decode cX4_init 12 = .ok (.aload_n 0, 1) := by decide +kernel
theorem dX4_init_13 : decode cX4_init 13 = .ok (.bipush 16, 2) := by decide +kernel
theorem dX4_init_15 : decode cX4_init 15 = .ok (.newarray .int, 2) := by decide +kernel
theorem dX4_init_17 : decode cX4_init 17 = .ok (.putfield 15, 3) := by decide +kernel
theorem dX4_init_20 : decode cX4_init 20 = .ok (.aload_n 0, 1) := by decide +kernel
theorem dX4_init_21 : decode cX4_init 21 = .ok (.bipush 16, 2) := by decide +kernel
theorem dX4_init_23 : decode cX4_init 23 = .ok (.newarray .int, 2) := by decide +kernel
theorem dX4_init_25 : decode cX4_init 25 = .ok (.putfield 19, 3) := by decide +kernel
theorem dX4_init_28 : decode cX4_init 28 = .ok (.aload_n 0, 1) := by decide +kernel
theorem dX4_init_29 : decode cX4_init 29 = .ok (.bipush 16, 2) := by decide +kernel
theorem dX4_init_31 : decode cX4_init 31 = .ok (.newarray .int, 2) := by decide +kernel
theorem dX4_init_33 : decode cX4_init 33 = .ok (.putfield 22, 3) := by decide +kernel
theorem dX4_init_36 : decode cX4_init 36 = .ok (.return_, 1) := by decide +kernel
theorem dX4_append_0 : decode cX4_append 0 = .ok (.aload_n 0, 1) := by decide +kernel
theorem dX4_append_1 : decode cX4_append 1 = .ok (.getfield 25, 3) := by decide +kernel
theorem dX4_append_4 : decode cX4_append 4 = .ok (.bipush 60, 2) := by decide +kernel
theorem dX4_append_6 : decode cX4_append 6 = .ok (.if_icmp .lt 6, 3) := by decide +kernel
theorem dX4_append_9 : decode cX4_append 9 = .ok (.bipush (-3), 2) := by decide +kernel
theorem dX4_append_11 : decode cX4_append 11 = .ok (.ireturn, 1) := by decide +kernel
theorem dX4_append_12 : decode cX4_append 12 = .ok (.aload_n 0, 1) := by decide +kernel
theorem dX4_append_13 : decode cX4_append 13 = .ok (.getfield 9, 3) := by decide +kernel
theorem dX4_append_16 : decode cX4_append 16 = .ok (.aload_n 0, 1) := by decide +kernel
theorem dX4_append_17 : decode cX4_append 17 = .ok (.getfield 25, 3) := by decide +kernel
theorem dX4_append_20 : decode cX4_append 20 = .ok (.iload_n 1, 1) := by decide +kernel
theorem dX4_append_21 : decode cX4_append 21 = .ok (.castore, 1) := by decide +kernel
theorem dX4_append_22 : decode cX4_append 22 = .ok (.aload_n 0, 1) := by decide +kernel
theorem dX4_append_23 : decode cX4_append 23 = .ok (.dup, 1) := by decide +kernel
theorem dX4_append_24 : decode cX4_append 24 = .ok (.getfield 25, 3) := by decide +kernel
theorem dX4_append_27 : decode cX4_append 27 = .ok (.iconst 1, 1) := by decide +kernel
theorem dX4_append_28 : decode cX4_append 28 = .ok (.iadd, 1) := by decide +kernel
theorem dX4_append_29 : decode cX4_append 29 = .ok (.putfield 25, 3) := by decide +kernel
theorem dX4_append_32 : decode cX4_append 32 = .ok (.aload_n 0, 1) := by decide +kernel
theorem dX4_append_33 : decode cX4_append 33 = .ok (.getfield 25, 3) := by decide +kernel
theorem dX4_append_36 : decode cX4_append 36 = .ok (.ireturn, 1) := by decide +kernel
theorem dX4_isArrow_0 : decode cX4_isArrow 0 = .ok (.aload_n 0, 1) := by decide +kernel
theorem dX4_isArrow_1 : decode cX4_isArrow 1 = .ok (.getfield 22, 3) := by decide +kernel
theorem dX4_isArrow_4 : decode cX4_isArrow 4 = .ok (.iload_n 1, 1) := by decide +kernel
theorem dX4_isArrow_5 : decode cX4_isArrow 5 = .ok (.iaload, 1) := by decide +kernel
theorem dX4_isArrow_6 : decode cX4_isArrow 6 = .ok (.ifCond .ne 7, 3) := by decide +kernel
theorem dX4_isArrow_9 : decode cX4_isArrow 9 = .ok (.iconst 1, 1) := by decide +kernel
theorem dX4_isArrow_10 : decode cX4_isArrow 10 = .ok (.goto 4, 3) := by decide +kernel
theorem dX4_isArrow_13 : decode cX4_isArrow 13 = .ok (.iconst 0, 1) := by decide +kernel
theorem dX4_isArrow_14 : decode cX4_isArrow 14 = .ok (.ireturn, 1) := by decide +kernel
theorem dX4_readParts_0 : decode cX4_readParts 0 = .ok (.aload_n 0, 1) := by decide +kernel
theorem dX4_readParts_1 : decode cX4_readParts 1 = .ok (.iconst 0, 1) := by decide +kernel
theorem dX4_readParts_2 : decode cX4_readParts 2 = .ok (.putfield 29, 3) := by decide +kernel
theorem dX4_readParts_5 : decode cX4_readParts 5 = .ok (.aload_n 0, 1) := by decide +kernel
theorem dX4_readParts_6 : decode cX4_readParts 6 = .ok (.iconst 0, 1) := by decide +kernel
theorem dX4_readParts_7 : decode cX4_readParts 7 = .ok (.invokevirtual 32, 3) := by decide +kernel
theorem dX4_readParts_10 : decode cX4_readParts 10 = .ok (.iconst 0, 1) := by decide +kernel
theorem dX4_readParts_11 : decode cX4_readParts 11 = .ok (.istore_n 1, 1) := by decide +kernel
theorem dX4_readParts_12 : decode cX4_readParts 12 = .ok (.iload_n 1, 1) := by decide +kernel
theorem dX4_readParts_13 : decode cX4_readParts 13 = .ok (.aload_n 0, 1) := by decide +kernel
theorem dX4_readParts_14 : decode cX4_readParts 14 = .ok (.getfield 25, 3) := by decide +kernel
theorem dX4_readParts_17 : decode cX4_readParts 17 = .ok (.if_icmp .ge 24, 3) := by decide +kernel
theorem dX4_readParts_20 : decode cX4_readParts 20 = .ok (.aload_n 0, 1) := by decide +kernel
theorem dX4_readParts_21 : decode cX4_readParts 21 = .ok (.aload_n 0, 1) := by decide +kernel
theorem dX4_readParts_22 : decode cX4_readParts 22 = .ok (.getfield 9, 3) := by decide +kernel
theorem dX4_readParts_25 : decode cX4_readParts 25 = .ok (.iload_n 1, 1) := by decide +kernel
theorem dX4_readParts_26 : decode cX4_readParts 26 = .ok (.caload, 1) := by decide +kernel
theorem dX4_readParts_27 : decode cX4_readParts 27 = .ok (.invokevirtual 36, 3) := by decide +kernel
theorem dX4_readParts_30 : decode cX4_readParts 30 = .ok (.ifCond .ne 5, 3) := by decide +kernel
theorem dX4_readParts_33 : decode cX4_readParts 33 = .ok (.iload_n 1, 1) := by decide +kernel
theorem dX4_readParts_34 : decode cX4_readParts 34 = .ok (.ireturn, 1) := by decide +kernel
theorem dX4_readParts_35 : decode cX4_readParts 35 = .ok (.iinc 1 1, 3) := by decide +kernel
theorem dX4_readParts_38 : decode cX4_readParts 38 = .ok (.goto (-26), 3) := by decide +kernel
theorem dX4_readParts_41 : decode cX4_readParts 41 = .ok (.aload_n 0, 1) := by decide +kernel
theorem dX4_readParts_42 : decode cX4_readParts 42 = .ok (.getfield 40, 3) := by decide +kernel
theorem dX4_readParts_45 : decode cX4_readParts 45 = .ok (.ifCond .eq 18, 3) := by decide +kernel
theorem dX4_readParts_48 : decode cX4_readParts 48 = .ok (.aload_n 0, 1) := by decide +kernel
theorem dX4_readParts_49 : decode cX4_readParts 49 = .ok (.getfield 43, 3) := by decide +kernel
theorem dX4_readParts_52 : decode cX4_readParts 52 = .ok (.ifCond .eq 11, 3) := by decide +kernel
theorem dX4_readParts_55 : decode cX4_readParts 55 = .ok (.aload_n 0, 1) := by decide +kernel
theorem dX4_readParts_56 : decode cX4_readParts 56 = .ok (.getfield 43, 3) := by decide +kernel
theorem dX4_readParts_59 : decode cX4_readParts 59 = .ok (.iconst 1, 1) := by decide +kernel
theorem dX4_readParts_60 : decode cX4_readParts 60 = .ok (.if_icmp .ne 8, 3) := by decide +kernel
theorem dX4_readParts_63 : decode cX4_readParts 63 = .ok (.aload_n 0, 1) := by decide +kernel
theorem dX4_readParts_64 : decode cX4_readParts 64 = .ok (.getfield 25, 3) := by decide +kernel
theorem dX4_readParts_67 : decode cX4_readParts 67 = .ok (.ireturn, 1) := by decide +kernel
theorem dX4_readParts_68 : decode cX4_readParts 68 = .ok (.aload_n 0, 1) := by decide +kernel
theorem dX4_readParts_69 : decode cX4_readParts 69 = .ok (.invokevirtual 46, 3) := by decide +kernel
theorem dX4_readParts_72 : decode cX4_readParts 72 = .ok (.pop, 1) := by decide +kernel
theorem dX4_readParts_73 : decode cX4_readParts 73 = .ok (.bipush (-5), 2) := by decide +kernel
theorem dX4_readParts_75 : decode cX4_readParts 75 = .ok (.ireturn, 1) := by decide +kernel
theorem dX4_take_0 : decode cX4_take 0 = .ok (.iload_n 1, 1) := by decide +kernel
theorem dX4_take_1 : decode cX4_take 1 = .ok (.bipush 48, 2) := by decide +kernel
theorem dX4_take_3 : decode cX4_take 3 = .ok (.if_icmp .lt 18, 3) := by decide +kernel
theorem dX4_take_6 : decode cX4_take 6 = .ok (.iload_n 1, 1) := by decide +kernel
theorem dX4_take_7 : decode cX4_take 7 = .ok (.bipush 57, 2) := by decide +kernel
theorem dX4_take_9 : decode cX4_take 9 = .ok (.if_icmp .gt 12, 3) := by decide +kernel
theorem dX4_take_12 : decode cX4_take 12 = .ok (.aload_n 0, 1) := by decide +kernel
theorem dX4_take_13 : decode cX4_take 13 = .ok (.iload_n 1, 1) := by decide +kernel
theorem dX4_take_14 : decode cX4_take 14 = .ok (.bipush 48, 2) := by decide +kernel
theorem dX4_take_16 : decode cX4_take 16 = .ok (.isub, 1) := by decide +kernel
theorem dX4_take_17 : decode cX4_take 17 = .ok (.invokevirtual 50, 3) := by decide +kernel
theorem dX4_take_20 : decode cX4_take 20 = .ok (.ireturn, 1) := by decide +kernel
theorem dX4_take_21 : decode cX4_take 21 = .ok (.aload_n 0, 1) := by decide +kernel
theorem dX4_take_22 : decode cX4_take 22 = .ok (.getfield 40, 3) := by decide +kernel
theorem dX4_take_25 : decode cX4_take 25 = .ok (.ifCond .le 15, 3) := by decide +kernel
theorem dX4_take_28 : decode cX4_take 28 = .ok (.aload_n 0, 1) := by decide +kernel
theorem dX4_take_29 : decode cX4_take 29 = .ok (.iload_n 1, 1) := by decide +kernel
theorem dX4_take_30 : decode cX4_take 30 = .ok (.invokevirtual 54, 3) := by decide +kernel
theorem dX4_take_33 : decode cX4_take 33 = .ok (.ifCond .eq 7, 3) := by decide +kernel
theorem dX4_take_36 : decode cX4_take 36 = .ok (.iconst 1, 1) := by decide +kernel
theorem dX4_take_37 : decode cX4_take 37 = .ok (.goto 4, 3) := by decide +kernel
theorem dX4_take_40 : decode cX4_take 40 = .ok (.iconst 0, 1) := by decide +kernel
theorem dX4_take_41 : decode cX4_take 41 = .ok (.ireturn, 1) := by decide +kernel
theorem dX4_takeDigit_0 : decode cX4_takeDigit 0 = .ok (.aload_n 0, 1) := by decide +kernel
theorem dX4_takeDigit_1 : decode cX4_takeDigit 1 = .ok (.getfield 40, 3) := by decide +kernel
theorem dX4_takeDigit_4 : decode cX4_takeDigit 4 = .ok (.ifCond .le 14, 3) := by decide +kernel
theorem dX4_takeDigit_7 : decode cX4_takeDigit 7 = .ok (.aload_n 0, 1) := by decide +kernel
theorem dX4_takeDigit_8 : decode cX4_takeDigit 8 = .ok (.getfield 57, 3) := by decide +kernel
theorem dX4_takeDigit_11 : decode cX4_takeDigit 11 = .ok (.ifCond .ne 7, 3) := by decide +kernel
theorem dX4_takeDigit_14 : decode cX4_takeDigit 14 = .ok (.iconst 1, 1) := by decide +kernel
theorem dX4_takeDigit_15 : decode cX4_takeDigit 15 = .ok (.goto 4, 3) := by decide +kernel
theorem dX4_takeDigit_18 : decode cX4_takeDigit 18 = .ok (.iconst 0, 1) := by decide +kernel
theorem dX4_takeDigit_19 : decode cX4_takeDigit 19 = .ok (.istore_n 2, 1) := by decide +kernel
theorem dX4_takeDigit_20 : decode cX4_takeDigit 20 = .ok (.aload_n 0, 1) := by decide +kernel
theorem dX4_takeDigit_21 : decode cX4_takeDigit 21 = .ok (.getfield 43, 3) := by decide +kernel
theorem dX4_takeDigit_24 : decode cX4_takeDigit 24 = .ok (.iconst 2, 1) := by decide +kernel
theorem dX4_takeDigit_25 : decode cX4_takeDigit 25 = .ok (.if_icmp .ne 18, 3) := by decide +kernel
theorem dX4_takeDigit_28 : decode cX4_takeDigit 28 = .ok (.aload_n 0, 1) := by decide +kernel
theorem dX4_takeDigit_29 : decode cX4_takeDigit 29 = .ok (.getfield 40, 3) := by decide +kernel
theorem dX4_takeDigit_32 : decode cX4_takeDigit 32 = .ok (.ifCond .ne 11, 3) := by decide +kernel
theorem dX4_takeDigit_35 : decode cX4_takeDigit 35 = .ok (.iload_n 1, 1) := by decide +kernel
theorem dX4_takeDigit_36 : decode cX4_takeDigit 36 = .ok (.ifCond .ne 7, 3) := by decide +kernel
theorem dX4_takeDigit_39 : decode cX4_takeDigit 39 = .ok (.iconst 1, 1) := by decide +kernel
theorem dX4_takeDigit_40 : decode cX4_takeDigit 40 = .ok (.goto 4, 3) := by decide +kernel
theorem dX4_takeDigit_43 : decode cX4_takeDigit 43 = .ok (.iconst 0, 1) := by decide +kernel
theorem dX4_takeDigit_44 : decode cX4_takeDigit 44 = .ok (.istore_n 3, 1) := by decide +kernel
theorem dX4_takeDigit_45 : decode cX4_takeDigit 45 = .ok (.iload_n 2, 1) := by decide +kernel
theorem dX4_takeDigit_46 : decode cX4_takeDigit 46 = .ok (.ifCond .ne 23, 3) := by decide +kernel
theorem dX4_takeDigit_49 : decode cX4_takeDigit 49 = .ok (.iload_n 3, 1) := by decide +kernel
theorem dX4_takeDigit_50 : decode cX4_takeDigit 50 = .ok (.ifCond .ne 19, 3) := by decide +kernel
theorem dX4_takeDigit_53 : decode cX4_takeDigit 53 = .ok (.aload_n 0, 1) := by decide +kernel
theorem dX4_takeDigit_54 : decode cX4_takeDigit 54 = .ok (.getfield 57, 3) := by decide +kernel
theorem dX4_takeDigit_57 : decode cX4_takeDigit 57 = .ok (.bipush 10, 2) := by decide +kernel
theorem dX4_takeDigit_59 : decode cX4_takeDigit 59 = .ok (.imul, 1) := by decide +kernel
theorem dX4_takeDigit_60 : decode cX4_takeDigit 60 = .ok (.iload_n 1, 1) := by decide +kernel
theorem dX4_takeDigit_61 : decode cX4_takeDigit 61 = .ok (.iadd, 1) := by decide +kernel
theorem dX4_takeDigit_62 : decode cX4_takeDigit 62 = .ok (.aload_n 0, 1) := by decide +kernel
theorem dX4_takeDigit_63 : decode cX4_takeDigit 63 = .ok (.invokevirtual 60, 3) := by decide +kernel
theorem dX4_takeDigit_66 : decode cX4_takeDigit 66 = .ok (.if_icmp .le 5, 3) := by decide +kernel
theorem dX4_takeDigit_69 : decode cX4_takeDigit 69 = .ok (.iconst 0, 1) := by decide +kernel
theorem dX4_takeDigit_70 : decode cX4_takeDigit 70 = .ok (.ireturn, 1) := by decide +kernel
theorem dX4_takeDigit_71 : decode cX4_takeDigit 71 = .ok (.aload_n 0, 1) := by decide +kernel
theorem dX4_takeDigit_72 : decode cX4_takeDigit 72 = .ok (.aload_n 0, 1) := by decide +kernel
theorem dX4_takeDigit_73 : decode cX4_takeDigit 73 = .ok (.getfield 57, 3) := by decide +kernel
theorem dX4_takeDigit_76 : decode cX4_takeDigit 76 = .ok (.bipush 10, 2) := by decide +kernel
theorem dX4_takeDigit_78 : decode cX4_takeDigit 78 = .ok (.imul, 1) := by decide +kernel
theorem dX4_takeDigit_79 : decode cX4_takeDigit 79 = .ok (.iload_n 1, 1) := by decide +kernel
theorem dX4_takeDigit_80 : decode cX4_takeDigit 80 = .ok (.iadd, 1) := by decide +kernel
theorem dX4_takeDigit_81 : decode cX4_takeDigit 81 = .ok (.putfield 57, 3) := by decide +kernel
theorem dX4_takeDigit_84 : decode cX4_takeDigit 84 = .ok (.aload_n 0, 1) := by decide +kernel
theorem dX4_takeDigit_85 : decode cX4_takeDigit 85 = .ok (.dup, 1) := by decide +kernel
theorem dX4_takeDigit_86 : decode cX4_takeDigit 86 = .ok (.getfield 40, 3) := by decide +kernel
theorem dX4_takeDigit_89 : decode cX4_takeDigit 89 = .ok (.iconst 1, 1) := by decide +kernel
theorem dX4_takeDigit_90 : decode cX4_takeDigit 90 = .ok (.iadd, 1) := by decide +kernel
theorem dX4_takeDigit_91 : decode cX4_takeDigit 91 = .ok (.putfield 40, 3) := by decide +kernel
theorem dX4_takeDigit_94 : decode cX4_takeDigit 94 = .ok (.iconst 1, 1) := by decide +kernel
theorem dX4_takeDigit_95 : decode cX4_takeDigit 95 = .ok (.ireturn, 1) := by decide +kernel
theorem dX4_greatest_0 : decode cX4_greatest 0 = .ok (.aload_n 0, 1) := by decide +kernel
theorem dX4_greatest_1 : decode cX4_greatest 1 = .ok (.getfield 43, 3) := by decide +kernel
theorem dX4_greatest_4 : decode cX4_greatest 4 = .ok (.lookupswitch 35 #[(1, 28), (2, 32)], 28) := by decide +kernel
theorem dX4_greatest_32 : decode cX4_greatest 32 = .ok (.sipush 199, 3) := by decide +kernel
theorem dX4_greatest_35 : decode cX4_greatest 35 = .ok (.ireturn, 1) := by decide +kernel
theorem dX4_greatest_36 : decode cX4_greatest 36 = .ok (.bipush 30, 2) := by decide +kernel
theorem dX4_greatest_38 : decode cX4_greatest 38 = .ok (.ireturn, 1) := by decide +kernel
theorem dX4_greatest_39 : decode cX4_greatest 39 = .ok (.bipush 89, 2) := by decide +kernel
theorem dX4_greatest_41 : decode cX4_greatest 41 = .ok (.ireturn, 1) := by decide +kernel
theorem dX4_takeMark_0 : decode cX4_takeMark 0 = .ok (.iload_n 1, 1) := by decide +kernel
theorem dX4_takeMark_1 : decode cX4_takeMark 1 = .ok (.lookupswitch 145 #[(43, 94), (59, 116), (62, 73), (64, 43)], 43) := by decide +kernel
theorem dX4_takeMark_44 : decode cX4_takeMark 44 = .ok (.aload_n 0, 1) := by decide +kernel
theorem dX4_takeMark_45 : decode cX4_takeMark 45 = .ok (.getfield 43, 3) := by decide +kernel
theorem dX4_takeMark_48 : decode cX4_takeMark 48 = .ok (.ifCond .ne 24, 3) := by decide +kernel
theorem dX4_takeMark_51 : decode cX4_takeMark 51 = .ok (.aload_n 0, 1) := by decide +kernel
theorem dX4_takeMark_52 : decode cX4_takeMark 52 = .ok (.getfield 57, 3) := by decide +kernel
theorem dX4_takeMark_55 : decode cX4_takeMark 55 = .ok (.bipush 12, 2) := by decide +kernel
theorem dX4_takeMark_57 : decode cX4_takeMark 57 = .ok (.if_icmp .ge 15, 3) := by decide +kernel
theorem dX4_takeMark_60 : decode cX4_takeMark 60 = .ok (.aload_n 0, 1) := by decide +kernel
theorem dX4_takeMark_61 : decode cX4_takeMark 61 = .ok (.iconst 1, 1) := by decide +kernel
theorem dX4_takeMark_62 : decode cX4_takeMark 62 = .ok (.invokevirtual 64, 3) := by decide +kernel
theorem dX4_takeMark_65 : decode cX4_takeMark 65 = .ok (.ifCond .eq 7, 3) := by decide +kernel
theorem dX4_takeMark_68 : decode cX4_takeMark 68 = .ok (.iconst 1, 1) := by decide +kernel
theorem dX4_takeMark_69 : decode cX4_takeMark 69 = .ok (.goto 4, 3) := by decide +kernel
theorem dX4_takeMark_72 : decode cX4_takeMark 72 = .ok (.iconst 0, 1) := by decide +kernel
theorem dX4_takeMark_73 : decode cX4_takeMark 73 = .ok (.ireturn, 1) := by decide +kernel
theorem dX4_takeMark_74 : decode cX4_takeMark 74 = .ok (.aload_n 0, 1) := by decide +kernel
theorem dX4_takeMark_75 : decode cX4_takeMark 75 = .ok (.getfield 43, 3) := by decide +kernel
theorem dX4_takeMark_78 : decode cX4_takeMark 78 = .ok (.ifCond .ne 15, 3) := by decide +kernel
theorem dX4_takeMark_81 : decode cX4_takeMark 81 = .ok (.aload_n 0, 1) := by decide +kernel
theorem dX4_takeMark_82 : decode cX4_takeMark 82 = .ok (.iconst 3, 1) := by decide +kernel
theorem dX4_takeMark_83 : decode cX4_takeMark 83 = .ok (.invokevirtual 64, 3) := by decide +kernel
theorem dX4_takeMark_86 : decode cX4_takeMark 86 = .ok (.ifCond .eq 7, 3) := by decide +kernel
theorem dX4_takeMark_89 : decode cX4_takeMark 89 = .ok (.iconst 1, 1) := by decide +kernel
theorem dX4_takeMark_90 : decode cX4_takeMark 90 = .ok (.goto 4, 3) := by decide +kernel
theorem dX4_takeMark_93 : decode cX4_takeMark 93 = .ok (.iconst 0, 1) := by decide +kernel
theorem dX4_takeMark_94 : decode cX4_takeMark 94 = .ok (.ireturn, 1) := by decide +kernel
theorem dX4_takeMark_95 : decode cX4_takeMark 95 = .ok (.aload_n 0, 1) := by decide +kernel
theorem dX4_takeMark_96 : decode cX4_takeMark 96 = .ok (.getfield 43, 3) := by decide +kernel
theorem dX4_takeMark_99 : decode cX4_takeMark 99 = .ok (.iconst 1, 1) := by decide +kernel
theorem dX4_takeMark_100 : decode cX4_takeMark 100 = .ok (.if_icmp .ne 15, 3) := by decide +kernel
theorem dX4_takeMark_103 : decode cX4_takeMark 103 = .ok (.aload_n 0, 1) := by decide +kernel
theorem dX4_takeMark_104 : decode cX4_takeMark 104 = .ok (.iconst 2, 1) := by decide +kernel
theorem dX4_takeMark_105 : decode cX4_takeMark 105 = .ok (.invokevirtual 64, 3) := by decide +kernel
theorem dX4_takeMark_108 : decode cX4_takeMark 108 = .ok (.ifCond .eq 7, 3) := by decide +kernel
theorem dX4_takeMark_111 : decode cX4_takeMark 111 = .ok (.iconst 1, 1) := by decide +kernel
theorem dX4_takeMark_112 : decode cX4_takeMark 112 = .ok (.goto 4, 3) := by decide +kernel
theorem dX4_takeMark_115 : decode cX4_takeMark 115 = .ok (.iconst 0, 1) := by decide +kernel
theorem dX4_takeMark_116 : decode cX4_takeMark 116 = .ok (.ireturn, 1) := by decide +kernel
theorem dX4_takeMark_117 : decode cX4_takeMark 117 = .ok (.aload_n 0, 1) := by decide +kernel
theorem dX4_takeMark_118 : decode cX4_takeMark 118 = .ok (.getfield 43, 3) := by decide +kernel
theorem dX4_takeMark_121 : decode cX4_takeMark 121 = .ok (.iconst 2, 1) := by decide +kernel
theorem dX4_takeMark_122 : decode cX4_takeMark 122 = .ok (.if_icmp .eq 11, 3) := by decide +kernel
theorem dX4_takeMark_125 : decode cX4_takeMark 125 = .ok (.aload_n 0, 1) := by decide +kernel
theorem dX4_takeMark_126 : decode cX4_takeMark 126 = .ok (.getfield 43, 3) := by decide +kernel
theorem dX4_takeMark_129 : decode cX4_takeMark 129 = .ok (.iconst 3, 1) := by decide +kernel
theorem dX4_takeMark_130 : decode cX4_takeMark 130 = .ok (.if_icmp .ne 14, 3) := by decide +kernel
theorem dX4_takeMark_133 : decode cX4_takeMark 133 = .ok (.aload_n 0, 1) := by decide +kernel
theorem dX4_takeMark_134 : decode cX4_takeMark 134 = .ok (.invokevirtual 46, 3) := by decide +kernel
theorem dX4_takeMark_137 : decode cX4_takeMark 137 = .ok (.ifCond .eq 7, 3) := by decide +kernel
theorem dX4_takeMark_140 : decode cX4_takeMark 140 = .ok (.iconst 1, 1) := by decide +kernel
theorem dX4_takeMark_141 : decode cX4_takeMark 141 = .ok (.goto 4, 3) := by decide +kernel
theorem dX4_takeMark_144 : decode cX4_takeMark 144 = .ok (.iconst 0, 1) := by decide +kernel
theorem dX4_takeMark_145 : decode cX4_takeMark 145 = .ok (.ireturn, 1) := by decide +kernel
theorem dX4_takeMark_146 : decode cX4_takeMark 146 = .ok (.iconst 0, 1) := by decide +kernel
theorem dX4_takeMark_147 : decode cX4_takeMark 147 = .ok (.ireturn, 1) := by decide +kernel
theorem dX4_turnTo_0 : decode cX4_turnTo 0 = .ok (.aload_n 0, 1) := by decide +kernel
theorem dX4_turnTo_1 : decode cX4_turnTo 1 = .ok (.invokevirtual 67, 3) := by decide +kernel
theorem dX4_turnTo_4 : decode cX4_turnTo 4 = .ok (.aload_n 0, 1) := by decide +kernel
theorem dX4_turnTo_5 : decode cX4_turnTo 5 = .ok (.iload_n 1, 1) := by decide +kernel
theorem dX4_turnTo_6 : decode cX4_turnTo 6 = .ok (.invokevirtual 32, 3) := by decide +kernel
theorem dX4_turnTo_9 : decode cX4_turnTo 9 = .ok (.iconst 1, 1) := by decide +kernel
theorem dX4_turnTo_10 : decode cX4_turnTo 10 = .ok (.ireturn, 1) := by decide +kernel
theorem dX4_endPart_0 : decode cX4_endPart 0 = .ok (.aload_n 0, 1) := by decide +kernel
theorem dX4_endPart_1 : decode cX4_endPart 1 = .ok (.getfield 43, 3) := by decide +kernel
theorem dX4_endPart_4 : decode cX4_endPart 4 = .ok (.iconst 3, 1) := by decide +kernel
theorem dX4_endPart_5 : decode cX4_endPart 5 = .ok (.if_icmp .ne 25, 3) := by decide +kernel
theorem dX4_endPart_8 : decode cX4_endPart 8 = .ok (.aload_n 0, 1) := by decide +kernel
theorem dX4_endPart_9 : decode cX4_endPart 9 = .ok (.getfield 29, 3) := by decide +kernel
theorem dX4_endPart_12 : decode cX4_endPart 12 = .ok (.aload_n 0, 1) := by decide +kernel
theorem dX4_endPart_13 : decode cX4_endPart 13 = .ok (.getfield 22, 3) := by decide +kernel
theorem dX4_endPart_16 : decode cX4_endPart 16 = .ok (.arraylength, 1) := by decide +kernel
theorem dX4_endPart_17 : decode cX4_endPart 17 = .ok (.if_icmp .ge 13, 3) := by decide +kernel
theorem dX4_endPart_20 : decode cX4_endPart 20 = .ok (.aload_n 0, 1) := by decide +kernel
theorem dX4_endPart_21 : decode cX4_endPart 21 = .ok (.getfield 22, 3) := by decide +kernel
theorem dX4_endPart_24 : decode cX4_endPart 24 = .ok (.aload_n 0, 1) := by decide +kernel
theorem dX4_endPart_25 : decode cX4_endPart 25 = .ok (.getfield 29, 3) := by decide +kernel
theorem dX4_endPart_28 : decode cX4_endPart 28 = .ok (.iconst 0, 1) := by decide +kernel
theorem dX4_endPart_29 : decode cX4_endPart 29 = .ok (.iastore, 1) := by decide +kernel
theorem dX4_endPart_30 : decode cX4_endPart 30 = .ok (.aload_n 0, 1) := by decide +kernel
theorem dX4_endPart_31 : decode cX4_endPart 31 = .ok (.invokevirtual 67, 3) := by decide +kernel
theorem dX4_endPart_34 : decode cX4_endPart 34 = .ok (.aload_n 0, 1) := by decide +kernel
theorem dX4_endPart_35 : decode cX4_endPart 35 = .ok (.dup, 1) := by decide +kernel
theorem dX4_endPart_36 : decode cX4_endPart 36 = .ok (.getfield 29, 3) := by decide +kernel
theorem dX4_endPart_39 : decode cX4_endPart 39 = .ok (.iconst 1, 1) := by decide +kernel
theorem dX4_endPart_40 : decode cX4_endPart 40 = .ok (.iadd, 1) := by decide +kernel
theorem dX4_endPart_41 : decode cX4_endPart 41 = .ok (.putfield 29, 3) := by decide +kernel
theorem dX4_endPart_44 : decode cX4_endPart 44 = .ok (.aload_n 0, 1) := by decide +kernel
theorem dX4_endPart_45 : decode cX4_endPart 45 = .ok (.iconst 0, 1) := by decide +kernel
theorem dX4_endPart_46 : decode cX4_endPart 46 = .ok (.invokevirtual 32, 3) := by decide +kernel
theorem dX4_endPart_49 : decode cX4_endPart 49 = .ok (.iconst 1, 1) := by decide +kernel
theorem dX4_endPart_50 : decode cX4_endPart 50 = .ok (.ireturn, 1) := by decide +kernel
theorem dX4_begin_0 : decode cX4_begin 0 = .ok (.aload_n 0, 1) := by decide +kernel
theorem dX4_begin_1 : decode cX4_begin 1 = .ok (.iload_n 1, 1) := by decide +kernel
theorem dX4_begin_2 : decode cX4_begin 2 = .ok (.putfield 43, 3) := by decide +kernel
theorem dX4_begin_5 : decode cX4_begin 5 = .ok (.aload_n 0, 1) := by decide +kernel
theorem dX4_begin_6 : decode cX4_begin 6 = .ok (.iconst 0, 1) := by decide +kernel
theorem dX4_begin_7 : decode cX4_begin 7 = .ok (.putfield 57, 3) := by decide +kernel
theorem dX4_begin_10 : decode cX4_begin 10 = .ok (.aload_n 0, 1) := by decide +kernel
theorem dX4_begin_11 : decode cX4_begin 11 = .ok (.iconst 0, 1) := by decide +kernel
theorem dX4_begin_12 : decode cX4_begin 12 = .ok (.putfield 40, 3) := by decide +kernel
theorem dX4_begin_15 : decode cX4_begin 15 = .ok (.return_, 1) := by decide +kernel
theorem dX4_storeNumber_0 : decode cX4_storeNumber 0 = .ok (.aload_n 0, 1) := by decide +kernel
theorem dX4_storeNumber_1 : decode cX4_storeNumber 1 = .ok (.getfield 29, 3) := by decide +kernel
theorem dX4_storeNumber_4 : decode cX4_storeNumber 4 = .ok (.aload_n 0, 1) := by decide +kernel
theorem dX4_storeNumber_5 : decode cX4_storeNumber 5 = .ok (.getfield 22, 3) := by decide +kernel
theorem dX4_storeNumber_8 : decode cX4_storeNumber 8 = .ok (.arraylength, 1) := by decide +kernel
theorem dX4_storeNumber_9 : decode cX4_storeNumber 9 = .ok (.if_icmp .lt 4, 3) := by decide +kernel
theorem dX4_storeNumber_12 : decode cX4_storeNumber 12 = .ok (.return_, 1) := by decide +kernel
theorem dX4_storeNumber_13 : decode cX4_storeNumber 13 = .ok (.aload_n 0, 1) := by decide +kernel
theorem dX4_storeNumber_14 : decode cX4_storeNumber 14 = .ok (.getfield 43, 3) := by decide +kernel
theorem dX4_storeNumber_17 : decode cX4_storeNumber 17 = .ok (.lookupswitch 59 #[(0, 27), (2, 43)], 27) := by decide +kernel
theorem dX4_storeNumber_44 : decode cX4_storeNumber 44 = .ok (.aload_n 0, 1) := by decide +kernel
theorem dX4_storeNumber_45 : decode cX4_storeNumber 45 = .ok (.getfield 15, 3) := by decide +kernel
theorem dX4_storeNumber_48 : decode cX4_storeNumber 48 = .ok (.aload_n 0, 1) := by decide +kernel
theorem dX4_storeNumber_49 : decode cX4_storeNumber 49 = .ok (.getfield 29, 3) := by decide +kernel
theorem dX4_storeNumber_52 : decode cX4_storeNumber 52 = .ok (.aload_n 0, 1) := by decide +kernel
theorem dX4_storeNumber_53 : decode cX4_storeNumber 53 = .ok (.getfield 57, 3) := by decide +kernel
theorem dX4_storeNumber_56 : decode cX4_storeNumber 56 = .ok (.iastore, 1) := by decide +kernel
theorem dX4_storeNumber_57 : decode cX4_storeNumber 57 = .ok (.goto 32, 3) := by decide +kernel
theorem dX4_storeNumber_60 : decode cX4_storeNumber 60 = .ok (.aload_n 0, 1) := by decide +kernel
theorem dX4_storeNumber_61 : decode cX4_storeNumber 61 = .ok (.getfield 22, 3) := by decide +kernel
theorem dX4_storeNumber_64 : decode cX4_storeNumber 64 = .ok (.aload_n 0, 1) := by decide +kernel
theorem dX4_storeNumber_65 : decode cX4_storeNumber 65 = .ok (.getfield 29, 3) := by decide +kernel
theorem dX4_storeNumber_68 : decode cX4_storeNumber 68 = .ok (.aload_n 0, 1) := by decide +kernel
theorem dX4_storeNumber_69 : decode cX4_storeNumber 69 = .ok (.getfield 57, 3) := by decide +kernel
theorem dX4_storeNumber_72 : decode cX4_storeNumber 72 = .ok (.iastore, 1) := by decide +kernel
theorem dX4_storeNumber_73 : decode cX4_storeNumber 73 = .ok (.goto 16, 3) := by decide +kernel
theorem dX4_storeNumber_76 : decode cX4_storeNumber 76 = .ok (.aload_n 0, 1) := by decide +kernel
theorem dX4_storeNumber_77 : decode cX4_storeNumber 77 = .ok (.getfield 19, 3) := by decide +kernel
theorem dX4_storeNumber_80 : decode cX4_storeNumber 80 = .ok (.aload_n 0, 1) := by decide +kernel
theorem dX4_storeNumber_81 : decode cX4_storeNumber 81 = .ok (.getfield 29, 3) := by decide +kernel
theorem dX4_storeNumber_84 : decode cX4_storeNumber 84 = .ok (.aload_n 0, 1) := by decide +kernel
theorem dX4_storeNumber_85 : decode cX4_storeNumber 85 = .ok (.getfield 57, 3) := by decide +kernel
theorem dX4_storeNumber_88 : decode cX4_storeNumber 88 = .ok (.iastore, 1) := by decide +kernel
theorem dX4_storeNumber_89 : decode cX4_storeNumber 89 = .ok (.return_, 1) := by decide +kernel
theorem dX5_init_0 : decode cX5_init 0 = .ok (.aload_n 0, 1) := by decide +kernel
theorem dX5_init_1 : decode cX5_init 1 = .ok (.invokespecial 3, 3) := by decide +kernel
theorem dX5_init_4 : decode cX5_init 4 = .ok (.aload_n 0, 1) := by decide +kernel
theorem dX5_init_5 : decode cX5_init 5 = .ok (.bipush 30, 2) := by decide +kernel
theorem dX5_init_7 : decode cX5_init 7 = .ok (.newarray .int, 2) := by decide +kernel
theorem dX5_init_9 : decode cX5_init 9 = .ok (.putfield 9, 3) := by decide +kernel
theorem dX5_init_12 : decode cX5_init 12 = .ok (.aload_n 0, 1) := by decide +kernel
theorem dX5_init_13 : decode cX5_init 13 = .ok (.bipush 30, 2) := by decide +kernel
theorem dX5_init_15 : decode cX5_init 15 = .ok (.newarray .int, 2) := by decide +kernel
theorem dX5_init_17 : decode cX5_init 17 = .ok (.putfield 15, 3) := by decide +kernel
theorem dX5_init_20 : decode cX5_init 20 = .ok (.aload_n 0, 1) := by decide +kernel
theorem dX5_init_21 : decode cX5_init 21 = .ok (.bipush 30, 2) := by decide +kernel
theorem dX5_init_23 : decode cX5_init 23 = .ok (.newarray .int, 2) := by decide +kernel
theorem dX5_init_25 : decode cX5_init 25 = .ok (.putfield 18, 3) := by decide +kernel
theorem dX5_init_28 : decode cX5_init 28 = .ok (.return_, 1) := by decide +kernel
theorem dX5_read_0 : decode cX5_read 0 = .ok (.aload_n 0, 1) := by decide +kernel
theorem dX5_read_1 : decode cX5_read 1 = .ok (.aload_n 1, 1) := by decide +kernel
theorem dX5_read_2 : decode cX5_read 2 = .ok (.invokevirtual 21, 3) := by decide +kernel
theorem dX5_read_5 : decode cX5_read 5 = .ok (.iconst 0, 1) := by decide +kernel
theorem dX5_read_6 : decode cX5_read 6 = .ok (.istore_n 2, 1) := by decide +kernel
theorem dX5_read_7 : decode cX5_read 7 = .ok (.iload_n 2, 1) := by decide +kernel
theorem dX5_read_8 : decode cX5_read 8 = .ok (.aload_n 1, 1) := by decide +kernel
theorem dX5_read_9 : decode cX5_read 9 = .ok (.getfield 25, 3) := by decide +kernel
theorem dX5_read_12 : decode cX5_read 12 = .ok (.if_icmp .ge 21, 3) := by decide +kernel
theorem dX5_read_15 : decode cX5_read 15 = .ok (.aload_n 0, 1) := by decide +kernel
theorem dX5_read_16 : decode cX5_read 16 = .ok (.getfield 15, 3) := by decide +kernel
theorem dX5_read_19 : decode cX5_read 19 = .ok (.iload_n 2, 1) := by decide +kernel
theorem dX5_read_20 : decode cX5_read 20 = .ok (.aload_n 0, 1) := by decide +kernel
theorem dX5_read_21 : decode cX5_read 21 = .ok (.aload_n 1, 1) := by decide +kernel
theorem dX5_read_22 : decode cX5_read 22 = .ok (.iload_n 2, 1) := by decide +kernel
theorem dX5_read_23 : decode cX5_read 23 = .ok (.invokevirtual 31, 3) := by decide +kernel
theorem dX5_read_26 : decode cX5_read 26 = .ok (.iastore, 1) := by decide +kernel
theorem dX5_read_27 : decode cX5_read 27 = .ok (.iinc 2 1, 3) := by decide +kernel
theorem dX5_read_30 : decode cX5_read 30 = .ok (.goto (-23), 3) := by decide +kernel
theorem dX5_read_33 : decode cX5_read 33 = .ok (.iconst 0, 1) := by decide +kernel
theorem dX5_read_34 : decode cX5_read 34 = .ok (.istore_n 2, 1) := by decide +kernel
theorem dX5_read_35 : decode cX5_read 35 = .ok (.iload_n 2, 1) := by decide +kernel
theorem dX5_read_36 : decode cX5_read 36 = .ok (.aload_n 1, 1) := by decide +kernel
theorem dX5_read_37 : decode cX5_read 37 = .ok (.getfield 35, 3) := by decide +kernel
theorem dX5_read_40 : decode cX5_read 40 = .ok (.if_icmp .ge 39, 3) := by decide +kernel
theorem dX5_read_43 : decode cX5_read 43 = .ok (.aload_n 1, 1) := by decide +kernel
theorem dX5_read_44 : decode cX5_read 44 = .ok (.iload_n 2, 1) := by decide +kernel
theorem dX5_read_45 : decode cX5_read 45 = .ok (.invokevirtual 38, 3) := by decide +kernel
theorem dX5_read_48 : decode cX5_read 48 = .ok (.ifCond .ne 25, 3) := by decide +kernel
theorem dX5_read_51 : decode cX5_read 51 = .ok (.aload_n 0, 1) := by decide +kernel
theorem dX5_read_52 : decode cX5_read 52 = .ok (.getfield 15, 3) := by decide +kernel
theorem dX5_read_55 : decode cX5_read 55 = .ok (.aload_n 1, 1) := by decide +kernel
theorem dX5_read_56 : decode cX5_read 56 = .ok (.getfield 42, 3) := by decide +kernel
theorem dX5_read_59 : decode cX5_read 59 = .ok (.iload_n 2, 1) := by decide +kernel
theorem dX5_read_60 : decode cX5_read 60 = .ok (.iaload, 1) := by decide +kernel
theorem dX5_read_61 : decode cX5_read 61 = .ok (.dup2, 1) := by decide +kernel
theorem dX5_read_62 : decode cX5_read 62 = .ok (.iaload, 1) := by decide +kernel
theorem dX5_read_63 : decode cX5_read 63 = .ok (.iconst 1, 1) := by decide +kernel
theorem dX5_read_64 : decode cX5_read 64 = .ok (.aload_n 1, 1) := by decide +kernel
theorem dX5_read_65 : decode cX5_read 65 = .ok (.getfield 45, 3) := by decide +kernel
theorem dX5_read_68 : decode cX5_read 68 = .ok (.iload_n 2, 1) := by decide +kernel
theorem dX5_read_69 : decode cX5_read 69 = .ok (.iaload, 1) := by decide +kernel
theorem dX5_read_70 : decode cX5_read 70 = .ok (.ishl, 1) := by decide +kernel
theorem dX5_read_71 : decode cX5_read 71 = .ok (.ior, 1) := by decide +kernel
theorem dX5_read_72 : decode cX5_read 72 = .ok (.iastore, 1) := by decide +kernel
theorem dX5_read_73 : decode cX5_read 73 = .ok (.iinc 2 1, 3) := by decide +kernel
theorem dX5_read_76 : decode cX5_read 76 = .ok (.goto (-41), 3) := by decide +kernel
theorem dX5_read_79 : decode cX5_read 79 = .ok (.return_, 1) := by decide +kernel
theorem dX5_sortByFirstDays_0 : decode cX5_sortByFirstDays 0 = .ok (.iconst 0, 1) := by decide +kernel
theorem dX5_sortByFirstDays_1 : decode cX5_sortByFirstDays 1 = .ok (.istore_n 2, 1) := by decide +kernel
theorem dX5_sortByFirstDays_2 : decode cX5_sortByFirstDays 2 = .ok (.iload_n 2, 1) := by decide +kernel
theorem dX5_sortByFirstDays_3 : decode cX5_sortByFirstDays 3 = .ok (.aload_n 1, 1) := by decide +kernel
theorem dX5_sortByFirstDays_4 : decode cX5_sortByFirstDays 4 = .ok (.getfield 25, 3) := by decide +kernel
theorem dX5_sortByFirstDays_7 : decode cX5_sortByFirstDays 7 = .ok (.if_icmp .ge 64, 3) := by decide +kernel
theorem dX5_sortByFirstDays_10 : decode cX5_sortByFirstDays 10 = .ok (.iload_n 2, 1) := by decide +kernel
theorem dX5_sortByFirstDays_11 : decode cX5_sortByFirstDays 11 = .ok (.istore_n 3, 1) := by decide +kernel
theorem dX5_sortByFirstDays_12 : decode cX5_sortByFirstDays 12 = .ok (.iload_n 3, 1) := by decide +kernel
theorem dX5_sortByFirstDays_13 : decode cX5_sortByFirstDays 13 = .ok (.ifCond .le 45, 3) := by decide +kernel
theorem dX5_sortByFirstDays_16 : decode cX5_sortByFirstDays 16 = .ok (.aload_n 1, 1) := by decide +kernel
theorem dX5_sortByFirstDays_17 : decode cX5_sortByFirstDays 17 = .ok (.getfield 48, 3) := by decide +kernel
theorem dX5_sortByFirstDays_20 : decode cX5_sortByFirstDays 20 = .ok (.aload_n 0, 1) := by decide +kernel
theorem dX5_sortByFirstDays_21 : decode cX5_sortByFirstDays 21 = .ok (.getfield 9, 3) := by decide +kernel
theorem dX5_sortByFirstDays_24 : decode cX5_sortByFirstDays 24 = .ok (.iload_n 3, 1) := by decide +kernel
theorem dX5_sortByFirstDays_25 : decode cX5_sortByFirstDays 25 = .ok (.iconst 1, 1) := by decide +kernel
theorem dX5_sortByFirstDays_26 : decode cX5_sortByFirstDays 26 = .ok (.isub, 1) := by decide +kernel
theorem dX5_sortByFirstDays_27 : decode cX5_sortByFirstDays 27 = .ok (.iaload, 1) := by decide +kernel
theorem dX5_sortByFirstDays_28 : decode cX5_sortByFirstDays 28 = .ok (.iaload, 1) := by decide +kernel
theorem dX5_sortByFirstDays_29 : decode cX5_sortByFirstDays 29 = .ok (.aload_n 1, 1) := by decide +kernel
theorem dX5_sortByFirstDays_30 : decode cX5_sortByFirstDays 30 = .ok (.getfield 48, 3) := by decide +kernel
theorem dX5_sortByFirstDays_33 : decode cX5_sortByFirstDays 33 = .ok (.iload_n 2, 1) := by decide +kernel
theorem dX5_sortByFirstDays_34 : decode cX5_sortByFirstDays 34 = .ok (.iaload, 1) := by decide +kernel
theorem dX5_sortByFirstDays_35 : decode cX5_sortByFirstDays 35 = .ok (.if_icmp .le 23, 3) := by decide +kernel
theorem dX5_sortByFirstDays_38 : decode cX5_sortByFirstDays 38 = .ok (.aload_n 0, 1) := by decide +kernel
theorem dX5_sortByFirstDays_39 : decode cX5_sortByFirstDays 39 = .ok (.getfield 9, 3) := by decide +kernel
theorem dX5_sortByFirstDays_42 : decode cX5_sortByFirstDays 42 = .ok (.iload_n 3, 1) := by decide +kernel
theorem dX5_sortByFirstDays_43 : decode cX5_sortByFirstDays 43 = .ok (.aload_n 0, 1) := by decide +kernel
theorem dX5_sortByFirstDays_44 : decode cX5_sortByFirstDays 44 = .ok (.getfield 9, 3) := by decide +kernel
theorem dX5_sortByFirstDays_47 : decode cX5_sortByFirstDays 47 = .ok (.iload_n 3, 1) := by decide +kernel
theorem dX5_sortByFirstDays_48 : decode cX5_sortByFirstDays 48 = .ok (.iconst 1, 1) := by decide +kernel
theorem dX5_sortByFirstDays_49 : decode cX5_sortByFirstDays 49 = .ok (.isub, 1) := by decide +kernel
theorem dX5_sortByFirstDays_50 : decode cX5_sortByFirstDays 50 = .ok (.iaload, 1) := by decide +kernel
theorem dX5_sortByFirstDays_51 : decode cX5_sortByFirstDays 51 = .ok (.iastore, 1) := by decide +kernel
theorem dX5_sortByFirstDays_52 : decode cX5_sortByFirstDays 52 = .ok (.iinc 3 (-1), 3) := by decide +kernel
theorem dX5_sortByFirstDays_55 : decode cX5_sortByFirstDays 55 = .ok (.goto (-43), 3) := by decide +kernel
theorem dX5_sortByFirstDays_58 : decode cX5_sortByFirstDays 58 = .ok (.aload_n 0, 1) := by decide +kernel
theorem dX5_sortByFirstDays_59 : decode cX5_sortByFirstDays 59 = .ok (.getfield 9, 3) := by decide +kernel
theorem dX5_sortByFirstDays_62 : decode cX5_sortByFirstDays 62 = .ok (.iload_n 3, 1) := by decide +kernel
theorem dX5_sortByFirstDays_63 : decode cX5_sortByFirstDays 63 = .ok (.iload_n 2, 1) := by decide +kernel
theorem dX5_sortByFirstDays_64 : decode cX5_sortByFirstDays 64 = .ok (.iastore, 1) := by decide +kernel
theorem dX5_sortByFirstDays_65 : decode cX5_sortByFirstDays 65 = .ok (.iinc 2 1, 3) := by decide +kernel
theorem dX5_sortByFirstDays_68 : decode cX5_sortByFirstDays 68 = .ok (.goto (-66), 3) := by decide +kernel
theorem dX5_sortByFirstDays_71 : decode cX5_sortByFirstDays 71 = .ok (.return_, 1) := by decide +kernel
theorem dX5_behindInLane_0 : decode cX5_behindInLane 0 = .ok (.iconst 0, 1) := by decide +kernel
theorem dX5_behindInLane_1 : decode cX5_behindInLane 1 = .ok (.istore_n 3, 1) := by decide +kernel
theorem dX5_behindInLane_2 : decode cX5_behindInLane 2 = .ok (.iconst 0, 1) := by decide +kernel
theorem dX5_behindInLane_3 : decode cX5_behindInLane 3 = .ok (.istore 4, 2) := by decide +kernel
theorem dX5_behindInLane_5 : decode cX5_behindInLane 5 = .ok (.iload 4, 2) := by decide +kernel
theorem dX5_behindInLane_7 : decode cX5_behindInLane 7 = .ok (.aload_n 1, 1) := by decide +kernel
theorem dX5_behindInLane_8 : decode cX5_behindInLane 8 = .ok (.getfield 25, 3) := by decide +kernel
theorem dX5_behindInLane_11 : decode cX5_behindInLane 11 = .ok (.if_icmp .ge 48, 3) := by decide +kernel
theorem dX5_behindInLane_14 : decode cX5_behindInLane 14 = .ok (.aload_n 1, 1) := by decide +kernel
theorem dX5_behindInLane_15 : decode cX5_behindInLane 15 = .ok (.getfield 51, 3) := by decide +kernel
theorem dX5_behindInLane_18 : decode cX5_behindInLane 18 = .ok (.iload 4, 2) := by decide +kernel
theorem dX5_behindInLane_20 : decode cX5_behindInLane 20 = .ok (.iaload, 1) := by decide +kernel
theorem dX5_behindInLane_21 : decode cX5_behindInLane 21 = .ok (.aload_n 1, 1) := by decide +kernel
theorem dX5_behindInLane_22 : decode cX5_behindInLane 22 = .ok (.getfield 51, 3) := by decide +kernel
theorem dX5_behindInLane_25 : decode cX5_behindInLane 25 = .ok (.iload_n 2, 1) := by decide +kernel
theorem dX5_behindInLane_26 : decode cX5_behindInLane 26 = .ok (.iaload, 1) := by decide +kernel
theorem dX5_behindInLane_27 : decode cX5_behindInLane 27 = .ok (.if_icmp .ne 26, 3) := by decide +kernel
theorem dX5_behindInLane_30 : decode cX5_behindInLane 30 = .ok (.aload_n 1, 1) := by decide +kernel
theorem dX5_behindInLane_31 : decode cX5_behindInLane 31 = .ok (.getfield 48, 3) := by decide +kernel
theorem dX5_behindInLane_34 : decode cX5_behindInLane 34 = .ok (.iload 4, 2) := by decide +kernel
theorem dX5_behindInLane_36 : decode cX5_behindInLane 36 = .ok (.iaload, 1) := by decide +kernel
theorem dX5_behindInLane_37 : decode cX5_behindInLane 37 = .ok (.aload_n 1, 1) := by decide +kernel
theorem dX5_behindInLane_38 : decode cX5_behindInLane 38 = .ok (.getfield 48, 3) := by decide +kernel
theorem dX5_behindInLane_41 : decode cX5_behindInLane 41 = .ok (.iload_n 2, 1) := by decide +kernel
theorem dX5_behindInLane_42 : decode cX5_behindInLane 42 = .ok (.iaload, 1) := by decide +kernel
theorem dX5_behindInLane_43 : decode cX5_behindInLane 43 = .ok (.if_icmp .le 10, 3) := by decide +kernel
theorem dX5_behindInLane_46 : decode cX5_behindInLane 46 = .ok (.iload_n 3, 1) := by decide +kernel
theorem dX5_behindInLane_47 : decode cX5_behindInLane 47 = .ok (.iconst 1, 1) := by decide +kernel
theorem dX5_behindInLane_48 : decode cX5_behindInLane 48 = .ok (.iload 4, 2) := by decide +kernel
theorem dX5_behindInLane_50 : decode cX5_behindInLane 50 = .ok (.ishl, 1) := by decide +kernel
theorem dX5_behindInLane_51 : decode cX5_behindInLane 51 = .ok (.ior, 1) := by decide +kernel
theorem dX5_behindInLane_52 : decode cX5_behindInLane 52 = .ok (.istore_n 3, 1) := by decide +kernel
theorem dX5_behindInLane_53 : decode cX5_behindInLane 53 = .ok (.iinc 4 1, 3) := by decide +kernel
theorem dX5_behindInLane_56 : decode cX5_behindInLane 56 = .ok (.goto (-51), 3) := by decide +kernel
theorem dX5_behindInLane_59 : decode cX5_behindInLane 59 = .ok (.iload_n 3, 1) := by decide +kernel
theorem dX5_behindInLane_60 : decode cX5_behindInLane 60 = .ok (.ireturn, 1) := by decide +kernel
theorem dX5_isPushed_0 : decode cX5_isPushed 0 = .ok (.aload_n 0, 1) := by decide +kernel
theorem dX5_isPushed_1 : decode cX5_isPushed 1 = .ok (.getfield 15, 3) := by decide +kernel
theorem dX5_isPushed_4 : decode cX5_isPushed 4 = .ok (.iload_n 2, 1) := by decide +kernel
theorem dX5_isPushed_5 : decode cX5_isPushed 5 = .ok (.iaload, 1) := by decide +kernel
theorem dX5_isPushed_6 : decode cX5_isPushed 6 = .ok (.iload_n 1, 1) := by decide +kernel
theorem dX5_isPushed_7 : decode cX5_isPushed 7 = .ok (.ishr, 1) := by decide +kernel
theorem dX5_isPushed_8 : decode cX5_isPushed 8 = .ok (.iconst 1, 1) := by decide +kernel
theorem dX5_isPushed_9 : decode cX5_isPushed 9 = .ok (.iand, 1) := by decide +kernel
theorem dX5_isPushed_10 : decode cX5_isPushed 10 = .ok (.iconst 1, 1) := by decide +kernel
theorem dX5_isPushed_11 : decode cX5_isPushed 11 = .ok (.if_icmp .ne 7, 3) := by decide +kernel
theorem dX5_isPushed_14 : decode cX5_isPushed 14 = .ok (.iconst 1, 1) := by decide +kernel
theorem dX5_isPushed_15 : decode cX5_isPushed 15 = .ok (.goto 4, 3) := by decide +kernel
theorem dX5_isPushed_18 : decode cX5_isPushed 18 = .ok (.iconst 0, 1) := by decide +kernel
theorem dX5_isPushed_19 : decode cX5_isPushed 19 = .ok (.ireturn, 1) := by decide +kernel
theorem dX5_slipFrom_0 : decode cX5_slipFrom 0 = .ok (.iconst 0, 1) := by decide +kernel
theorem dX5_slipFrom_1 : decode cX5_slipFrom 1 = .ok (.istore 4, 2) := by decide +kernel
theorem dX5_slipFrom_3 : decode cX5_slipFrom 3 = .ok (.iconst 0, 1) := by decide +kernel
theorem dX5_slipFrom_4 : decode cX5_slipFrom 4 = .ok (.istore 5, 2) := by decide +kernel
theorem dX5_slipFrom_6 : decode cX5_slipFrom 6 = .ok (.iload 5, 2) := by decide +kernel
theorem dX5_slipFrom_8 : decode cX5_slipFrom 8 = .ok (.aload_n 1, 1) := by decide +kernel
theorem dX5_slipFrom_9 : decode cX5_slipFrom 9 = .ok (.getfield 25, 3) := by decide +kernel
theorem dX5_slipFrom_12 : decode cX5_slipFrom 12 = .ok (.if_icmp .ge 134, 3) := by decide +kernel
theorem dX5_slipFrom_15 : decode cX5_slipFrom 15 = .ok (.aload_n 0, 1) := by decide +kernel
theorem dX5_slipFrom_16 : decode cX5_slipFrom 16 = .ok (.getfield 9, 3) := by decide +kernel
theorem dX5_slipFrom_19 : decode cX5_slipFrom 19 = .ok (.iload 5, 2) := by decide +kernel
theorem dX5_slipFrom_21 : decode cX5_slipFrom 21 = .ok (.iaload, 1) := by decide +kernel
theorem dX5_slipFrom_22 : decode cX5_slipFrom 22 = .ok (.istore 6, 2) := by decide +kernel
theorem dX5_slipFrom_24 : decode cX5_slipFrom 24 = .ok (.aload_n 0, 1) := by decide +kernel
theorem dX5_slipFrom_25 : decode cX5_slipFrom 25 = .ok (.getfield 18, 3) := by decide +kernel
theorem dX5_slipFrom_28 : decode cX5_slipFrom 28 = .ok (.iload 6, 2) := by decide +kernel
theorem dX5_slipFrom_30 : decode cX5_slipFrom 30 = .ok (.aload_n 1, 1) := by decide +kernel
theorem dX5_slipFrom_31 : decode cX5_slipFrom 31 = .ok (.getfield 48, 3) := by decide +kernel
theorem dX5_slipFrom_34 : decode cX5_slipFrom 34 = .ok (.iload 6, 2) := by decide +kernel
theorem dX5_slipFrom_36 : decode cX5_slipFrom 36 = .ok (.iaload, 1) := by decide +kernel
theorem dX5_slipFrom_37 : decode cX5_slipFrom 37 = .ok (.iload 6, 2) := by decide +kernel
theorem dX5_slipFrom_39 : decode cX5_slipFrom 39 = .ok (.iload_n 2, 1) := by decide +kernel
theorem dX5_slipFrom_40 : decode cX5_slipFrom 40 = .ok (.if_icmp .ne 7, 3) := by decide +kernel
theorem dX5_slipFrom_43 : decode cX5_slipFrom 43 = .ok (.iload_n 3, 1) := by decide +kernel
theorem dX5_slipFrom_44 : decode cX5_slipFrom 44 = .ok (.goto 4, 3) := by decide +kernel
theorem dX5_slipFrom_47 : decode cX5_slipFrom 47 = .ok (.iconst 0, 1) := by decide +kernel
theorem dX5_slipFrom_48 : decode cX5_slipFrom 48 = .ok (.iadd, 1) := by decide +kernel
theorem dX5_slipFrom_49 : decode cX5_slipFrom 49 = .ok (.iastore, 1) := by decide +kernel
theorem dX5_slipFrom_50 : decode cX5_slipFrom 50 = .ok (.iconst 0, 1) := by decide +kernel
theorem dX5_slipFrom_51 : decode cX5_slipFrom 51 = .ok (.istore 7, 2) := by decide +kernel
theorem dX5_slipFrom_53 : decode cX5_slipFrom 53 = .ok (.iload 7, 2) := by decide +kernel
theorem dX5_slipFrom_55 : decode cX5_slipFrom 55 = .ok (.iload 5, 2) := by decide +kernel
theorem dX5_slipFrom_57 : decode cX5_slipFrom 57 = .ok (.if_icmp .ge 61, 3) := by decide +kernel
theorem dX5_slipFrom_60 : decode cX5_slipFrom 60 = .ok (.aload_n 0, 1) := by decide +kernel
theorem dX5_slipFrom_61 : decode cX5_slipFrom 61 = .ok (.getfield 9, 3) := by decide +kernel
theorem dX5_slipFrom_64 : decode cX5_slipFrom 64 = .ok (.iload 7, 2) := by decide +kernel
theorem dX5_slipFrom_66 : decode cX5_slipFrom 66 = .ok (.iaload, 1) := by decide +kernel
theorem dX5_slipFrom_67 : decode cX5_slipFrom 67 = .ok (.istore 8, 2) := by decide +kernel
theorem dX5_slipFrom_69 : decode cX5_slipFrom 69 = .ok (.aload_n 0, 1) := by decide +kernel
theorem dX5_slipFrom_70 : decode cX5_slipFrom 70 = .ok (.iload 6, 2) := by decide +kernel
theorem dX5_slipFrom_72 : decode cX5_slipFrom 72 = .ok (.iload 8, 2) := by decide +kernel
theorem dX5_slipFrom_74 : decode cX5_slipFrom 74 = .ok (.invokevirtual 54, 3) := by decide +kernel
theorem dX5_slipFrom_77 : decode cX5_slipFrom 77 = .ok (.ifCond .eq 35, 3) := by decide +kernel
theorem dX5_slipFrom_80 : decode cX5_slipFrom 80 = .ok (.aload_n 0, 1) := by decide +kernel
theorem dX5_slipFrom_81 : decode cX5_slipFrom 81 = .ok (.getfield 18, 3) := by decide +kernel
theorem dX5_slipFrom_84 : decode cX5_slipFrom 84 = .ok (.iload 6, 2) := by decide +kernel
theorem dX5_slipFrom_86 : decode cX5_slipFrom 86 = .ok (.aload_n 0, 1) := by decide +kernel
theorem dX5_slipFrom_87 : decode cX5_slipFrom 87 = .ok (.getfield 18, 3) := by decide +kernel
theorem dX5_slipFrom_90 : decode cX5_slipFrom 90 = .ok (.iload 6, 2) := by decide +kernel
theorem dX5_slipFrom_92 : decode cX5_slipFrom 92 = .ok (.iaload, 1) := by decide +kernel
theorem dX5_slipFrom_93 : decode cX5_slipFrom 93 = .ok (.aload_n 0, 1) := by decide +kernel
theorem dX5_slipFrom_94 : decode cX5_slipFrom 94 = .ok (.getfield 18, 3) := by decide +kernel
theorem dX5_slipFrom_97 : decode cX5_slipFrom 97 = .ok (.iload 8, 2) := by decide +kernel
theorem dX5_slipFrom_99 : decode cX5_slipFrom 99 = .ok (.iaload, 1) := by decide +kernel
theorem dX5_slipFrom_100 : decode cX5_slipFrom 100 = .ok (.aload_n 1, 1) := by decide +kernel
theorem dX5_slipFrom_101 : decode cX5_slipFrom 101 = .ok (.getfield 58, 3) := by decide +kernel
theorem dX5_slipFrom_104 : decode cX5_slipFrom 104 = .ok (.iload 8, 2) := by decide +kernel
theorem dX5_slipFrom_106 : decode cX5_slipFrom 106 = .ok (.iaload, 1) := by decide +kernel
theorem dX5_slipFrom_107 : decode cX5_slipFrom 107 = .ok (.iadd, 1) := by decide +kernel
theorem dX5_slipFrom_108 : decode cX5_slipFrom 108 = .ok (.invokestatic 61, 3) := by decide +kernel
theorem dX5_slipFrom_111 : decode cX5_slipFrom 111 = .ok (.iastore, 1) := by decide +kernel
theorem dX5_slipFrom_112 : decode cX5_slipFrom 112 = .ok (.iinc 7 1, 3) := by decide +kernel
theorem dX5_slipFrom_115 : decode cX5_slipFrom 115 = .ok (.goto (-62), 3) := by decide +kernel
theorem dX5_slipFrom_118 : decode cX5_slipFrom 118 = .ok (.iload 4, 2) := by decide +kernel
theorem dX5_slipFrom_120 : decode cX5_slipFrom 120 = .ok (.aload_n 0, 1) := by decide +kernel
theorem dX5_slipFrom_121 : decode cX5_slipFrom 121 = .ok (.getfield 18, 3) := by decide +kernel
theorem dX5_slipFrom_124 : decode cX5_slipFrom 124 = .ok (.iload 6, 2) := by decide +kernel
theorem dX5_slipFrom_126 : decode cX5_slipFrom 126 = .ok (.iaload, 1) := by decide +kernel
theorem dX5_slipFrom_127 : decode cX5_slipFrom 127 = .ok (.aload_n 1, 1) := by decide +kernel
theorem dX5_slipFrom_128 : decode cX5_slipFrom 128 = .ok (.getfield 58, 3) := by decide +kernel
theorem dX5_slipFrom_131 : decode cX5_slipFrom 131 = .ok (.iload 6, 2) := by decide +kernel
theorem dX5_slipFrom_133 : decode cX5_slipFrom 133 = .ok (.iaload, 1) := by decide +kernel
theorem dX5_slipFrom_134 : decode cX5_slipFrom 134 = .ok (.iadd, 1) := by decide +kernel
theorem dX5_slipFrom_135 : decode cX5_slipFrom 135 = .ok (.invokestatic 61, 3) := by decide +kernel
theorem dX5_slipFrom_138 : decode cX5_slipFrom 138 = .ok (.istore 4, 2) := by decide +kernel
theorem dX5_slipFrom_140 : decode cX5_slipFrom 140 = .ok (.iinc 5 1, 3) := by decide +kernel
theorem dX5_slipFrom_143 : decode cX5_slipFrom 143 = .ok (.goto (-137), 3) := by decide +kernel
theorem dX5_slipFrom_146 : decode cX5_slipFrom 146 = .ok (.iload 4, 2) := by decide +kernel
theorem dX5_slipFrom_148 : decode cX5_slipFrom 148 = .ok (.ireturn, 1) := by decide +kernel
theorem dX5_findLatest_0 : decode cX5_findLatest 0 = .ok (.aload_n 1, 1) := by decide +kernel
theorem dX5_findLatest_1 : decode cX5_findLatest 1 = .ok (.invokevirtual 67, 3) := by decide +kernel
theorem dX5_findLatest_4 : decode cX5_findLatest 4 = .ok (.istore_n 2, 1) := by decide +kernel
theorem dX5_findLatest_5 : decode cX5_findLatest 5 = .ok (.aload_n 1, 1) := by decide +kernel
theorem dX5_findLatest_6 : decode cX5_findLatest 6 = .ok (.getfield 25, 3) := by decide +kernel
theorem dX5_findLatest_9 : decode cX5_findLatest 9 = .ok (.iconst 1, 1) := by decide +kernel
theorem dX5_findLatest_10 : decode cX5_findLatest 10 = .ok (.isub, 1) := by decide +kernel
theorem dX5_findLatest_11 : decode cX5_findLatest 11 = .ok (.istore_n 3, 1) := by decide +kernel
theorem dX5_findLatest_12 : decode cX5_findLatest 12 = .ok (.iload_n 3, 1) := by decide +kernel
theorem dX5_findLatest_13 : decode cX5_findLatest 13 = .ok (.ifCond .lt 91, 3) := by decide +kernel
theorem dX5_findLatest_16 : decode cX5_findLatest 16 = .ok (.aload_n 0, 1) := by decide +kernel
theorem dX5_findLatest_17 : decode cX5_findLatest 17 = .ok (.getfield 9, 3) := by decide +kernel
theorem dX5_findLatest_20 : decode cX5_findLatest 20 = .ok (.iload_n 3, 1) := by decide +kernel
theorem dX5_findLatest_21 : decode cX5_findLatest 21 = .ok (.iaload, 1) := by decide +kernel
theorem dX5_findLatest_22 : decode cX5_findLatest 22 = .ok (.istore 4, 2) := by decide +kernel
theorem dX5_findLatest_24 : decode cX5_findLatest 24 = .ok (.iload_n 2, 1) := by decide +kernel
theorem dX5_findLatest_25 : decode cX5_findLatest 25 = .ok (.istore 5, 2) := by decide +kernel
theorem dX5_findLatest_27 : decode cX5_findLatest 27 = .ok (.iload_n 3, 1) := by decide +kernel
theorem dX5_findLatest_28 : decode cX5_findLatest 28 = .ok (.iconst 1, 1) := by decide +kernel
theorem dX5_findLatest_29 : decode cX5_findLatest 29 = .ok (.iadd, 1) := by decide +kernel
theorem dX5_findLatest_30 : decode cX5_findLatest 30 = .ok (.istore 6, 2) := by decide +kernel
theorem dX5_findLatest_32 : decode cX5_findLatest 32 = .ok (.iload 6, 2) := by decide +kernel
theorem dX5_findLatest_34 : decode cX5_findLatest 34 = .ok (.aload_n 1, 1) := by decide +kernel
theorem dX5_findLatest_35 : decode cX5_findLatest 35 = .ok (.getfield 25, 3) := by decide +kernel
theorem dX5_findLatest_38 : decode cX5_findLatest 38 = .ok (.if_icmp .ge 43, 3) := by decide +kernel
theorem dX5_findLatest_41 : decode cX5_findLatest 41 = .ok (.aload_n 0, 1) := by decide +kernel
theorem dX5_findLatest_42 : decode cX5_findLatest 42 = .ok (.getfield 9, 3) := by decide +kernel
theorem dX5_findLatest_45 : decode cX5_findLatest 45 = .ok (.iload 6, 2) := by decide +kernel
theorem dX5_findLatest_47 : decode cX5_findLatest 47 = .ok (.iaload, 1) := by decide +kernel
theorem dX5_findLatest_48 : decode cX5_findLatest 48 = .ok (.istore 7, 2) := by decide +kernel
theorem dX5_findLatest_50 : decode cX5_findLatest 50 = .ok (.aload_n 0, 1) := by decide +kernel
theorem dX5_findLatest_51 : decode cX5_findLatest 51 = .ok (.iload 7, 2) := by decide +kernel
theorem dX5_findLatest_53 : decode cX5_findLatest 53 = .ok (.iload 4, 2) := by decide +kernel
theorem dX5_findLatest_55 : decode cX5_findLatest 55 = .ok (.invokevirtual 54, 3) := by decide +kernel
theorem dX5_findLatest_58 : decode cX5_findLatest 58 = .ok (.ifCond .eq 17, 3) := by decide +kernel
theorem dX5_findLatest_61 : decode cX5_findLatest 61 = .ok (.iload 5, 2) := by decide +kernel
theorem dX5_findLatest_63 : decode cX5_findLatest 63 = .ok (.aload_n 0, 1) := by decide +kernel
theorem dX5_findLatest_64 : decode cX5_findLatest 64 = .ok (.getfield 18, 3) := by decide +kernel
theorem dX5_findLatest_67 : decode cX5_findLatest 67 = .ok (.iload 7, 2) := by decide +kernel
theorem dX5_findLatest_69 : decode cX5_findLatest 69 = .ok (.iaload, 1) := by decide +kernel
theorem dX5_findLatest_70 : decode cX5_findLatest 70 = .ok (.invokestatic 71, 3) := by decide +kernel
theorem dX5_findLatest_73 : decode cX5_findLatest 73 = .ok (.istore 5, 2) := by decide +kernel
theorem dX5_findLatest_75 : decode cX5_findLatest 75 = .ok (.iinc 6 1, 3) := by decide +kernel
theorem dX5_findLatest_78 : decode cX5_findLatest 78 = .ok (.goto (-46), 3) := by decide +kernel
theorem dX5_findLatest_81 : decode cX5_findLatest 81 = .ok (.aload_n 0, 1) := by decide +kernel
theorem dX5_findLatest_82 : decode cX5_findLatest 82 = .ok (.getfield 18, 3) := by decide +kernel
theorem dX5_findLatest_85 : decode cX5_findLatest 85 = .ok (.iload 4, 2) := by decide +kernel
theorem dX5_findLatest_87 : decode cX5_findLatest 87 = .ok (.iload 5, 2) := by decide +kernel
theorem dX5_findLatest_89 : decode cX5_findLatest 89 = .ok (.aload_n 1, 1) := by decide +kernel
theorem dX5_findLatest_90 : decode cX5_findLatest 90 = .ok (.getfield 58, 3) := by decide +kernel
theorem dX5_findLatest_93 : decode cX5_findLatest 93 = .ok (.iload 4, 2) := by decide +kernel
theorem dX5_findLatest_95 : decode cX5_findLatest 95 = .ok (.iaload, 1) := by decide +kernel
theorem dX5_findLatest_96 : decode cX5_findLatest 96 = .ok (.isub, 1) := by decide +kernel
theorem dX5_findLatest_97 : decode cX5_findLatest 97 = .ok (.iastore, 1) := by decide +kernel
theorem dX5_findLatest_98 : decode cX5_findLatest 98 = .ok (.iinc 3 (-1), 3) := by decide +kernel
theorem dX5_findLatest_101 : decode cX5_findLatest 101 = .ok (.goto (-89), 3) := by decide +kernel
theorem dX5_findLatest_104 : decode cX5_findLatest 104 = .ok (.return_, 1) := by decide +kernel
theorem dX5_earliest_0 : decode cX5_earliest 0 = .ok (.iconst 0, 1) := by decide +kernel
theorem dX5_earliest_1 : decode cX5_earliest 1 = .ok (.istore_n 3, 1) := by decide +kernel
theorem dX5_earliest_2 : decode cX5_earliest 2 = .ok (.iconst 0, 1) := by decide +kernel
theorem dX5_earliest_3 : decode cX5_earliest 3 = .ok (.istore 4, 2) := by decide +kernel
theorem dX5_earliest_5 : decode cX5_earliest 5 = .ok (.iload 4, 2) := by decide +kernel
theorem dX5_earliest_7 : decode cX5_earliest 7 = .ok (.aload_n 1, 1) := by decide +kernel
theorem dX5_earliest_8 : decode cX5_earliest 8 = .ok (.getfield 25, 3) := by decide +kernel
theorem dX5_earliest_11 : decode cX5_earliest 11 = .ok (.if_icmp .ge 30, 3) := by decide +kernel
theorem dX5_earliest_14 : decode cX5_earliest 14 = .ok (.aload_n 0, 1) := by decide +kernel
theorem dX5_earliest_15 : decode cX5_earliest 15 = .ok (.iload_n 2, 1) := by decide +kernel
theorem dX5_earliest_16 : decode cX5_earliest 16 = .ok (.iload 4, 2) := by decide +kernel
theorem dX5_earliest_18 : decode cX5_earliest 18 = .ok (.invokevirtual 54, 3) := by decide +kernel
theorem dX5_earliest_21 : decode cX5_earliest 21 = .ok (.ifCond .eq 14, 3) := by decide +kernel
theorem dX5_earliest_24 : decode cX5_earliest 24 = .ok (.iload_n 3, 1) := by decide +kernel
theorem dX5_earliest_25 : decode cX5_earliest 25 = .ok (.aload_n 1, 1) := by decide +kernel
theorem dX5_earliest_26 : decode cX5_earliest 26 = .ok (.iload 4, 2) := by decide +kernel
theorem dX5_earliest_28 : decode cX5_earliest 28 = .ok (.invokevirtual 74, 3) := by decide +kernel
theorem dX5_earliest_31 : decode cX5_earliest 31 = .ok (.invokestatic 61, 3) := by decide +kernel
theorem dX5_earliest_34 : decode cX5_earliest 34 = .ok (.istore_n 3, 1) := by decide +kernel
theorem dX5_earliest_35 : decode cX5_earliest 35 = .ok (.iinc 4 1, 3) := by decide +kernel
theorem dX5_earliest_38 : decode cX5_earliest 38 = .ok (.goto (-33), 3) := by decide +kernel
theorem dX5_earliest_41 : decode cX5_earliest 41 = .ok (.iload_n 3, 1) := by decide +kernel
theorem dX5_earliest_42 : decode cX5_earliest 42 = .ok (.ireturn, 1) := by decide +kernel
theorem dX5_longestRow_0 : decode cX5_longestRow 0 = .ok (.iconst 0, 1) := by decide +kernel
theorem dX5_longestRow_1 : decode cX5_longestRow 1 = .ok (.istore_n 2, 1) := by decide +kernel
theorem dX5_longestRow_2 : decode cX5_longestRow 2 = .ok (.iconst 0, 1) := by decide +kernel
theorem dX5_longestRow_3 : decode cX5_longestRow 3 = .ok (.istore_n 3, 1) := by decide +kernel
theorem dX5_longestRow_4 : decode cX5_longestRow 4 = .ok (.iload_n 3, 1) := by decide +kernel
theorem dX5_longestRow_5 : decode cX5_longestRow 5 = .ok (.aload_n 1, 1) := by decide +kernel
theorem dX5_longestRow_6 : decode cX5_longestRow 6 = .ok (.getfield 25, 3) := by decide +kernel
theorem dX5_longestRow_9 : decode cX5_longestRow 9 = .ok (.if_icmp .ge 98, 3) := by decide +kernel
theorem dX5_longestRow_12 : decode cX5_longestRow 12 = .ok (.aload_n 0, 1) := by decide +kernel
theorem dX5_longestRow_13 : decode cX5_longestRow 13 = .ok (.getfield 9, 3) := by decide +kernel
theorem dX5_longestRow_16 : decode cX5_longestRow 16 = .ok (.iload_n 3, 1) := by decide +kernel
theorem dX5_longestRow_17 : decode cX5_longestRow 17 = .ok (.iaload, 1) := by decide +kernel
theorem dX5_longestRow_18 : decode cX5_longestRow 18 = .ok (.istore 4, 2) := by decide +kernel
theorem dX5_longestRow_20 : decode cX5_longestRow 20 = .ok (.iconst 0, 1) := by decide +kernel
theorem dX5_longestRow_21 : decode cX5_longestRow 21 = .ok (.istore 5, 2) := by decide +kernel
theorem dX5_longestRow_23 : decode cX5_longestRow 23 = .ok (.iconst 0, 1) := by decide +kernel
theorem dX5_longestRow_24 : decode cX5_longestRow 24 = .ok (.istore 6, 2) := by decide +kernel
theorem dX5_longestRow_26 : decode cX5_longestRow 26 = .ok (.iload 6, 2) := by decide +kernel
theorem dX5_longestRow_28 : decode cX5_longestRow 28 = .ok (.iload_n 3, 1) := by decide +kernel
theorem dX5_longestRow_29 : decode cX5_longestRow 29 = .ok (.if_icmp .ge 43, 3) := by decide +kernel
theorem dX5_longestRow_32 : decode cX5_longestRow 32 = .ok (.aload_n 0, 1) := by decide +kernel
theorem dX5_longestRow_33 : decode cX5_longestRow 33 = .ok (.getfield 9, 3) := by decide +kernel
theorem dX5_longestRow_36 : decode cX5_longestRow 36 = .ok (.iload 6, 2) := by decide +kernel
theorem dX5_longestRow_38 : decode cX5_longestRow 38 = .ok (.iaload, 1) := by decide +kernel
theorem dX5_longestRow_39 : decode cX5_longestRow 39 = .ok (.istore 7, 2) := by decide +kernel
theorem dX5_longestRow_41 : decode cX5_longestRow 41 = .ok (.aload_n 0, 1) := by decide +kernel
theorem dX5_longestRow_42 : decode cX5_longestRow 42 = .ok (.iload 4, 2) := by decide +kernel
theorem dX5_longestRow_44 : decode cX5_longestRow 44 = .ok (.iload 7, 2) := by decide +kernel
theorem dX5_longestRow_46 : decode cX5_longestRow 46 = .ok (.invokevirtual 54, 3) := by decide +kernel
theorem dX5_longestRow_49 : decode cX5_longestRow 49 = .ok (.ifCond .eq 17, 3) := by decide +kernel
theorem dX5_longestRow_52 : decode cX5_longestRow 52 = .ok (.iload 5, 2) := by decide +kernel
theorem dX5_longestRow_54 : decode cX5_longestRow 54 = .ok (.aload_n 0, 1) := by decide +kernel
theorem dX5_longestRow_55 : decode cX5_longestRow 55 = .ok (.getfield 18, 3) := by decide +kernel
theorem dX5_longestRow_58 : decode cX5_longestRow 58 = .ok (.iload 7, 2) := by decide +kernel
theorem dX5_longestRow_60 : decode cX5_longestRow 60 = .ok (.iaload, 1) := by decide +kernel
theorem dX5_longestRow_61 : decode cX5_longestRow 61 = .ok (.invokestatic 61, 3) := by decide +kernel
theorem dX5_longestRow_64 : decode cX5_longestRow 64 = .ok (.istore 5, 2) := by decide +kernel
theorem dX5_longestRow_66 : decode cX5_longestRow 66 = .ok (.iinc 6 1, 3) := by decide +kernel
theorem dX5_longestRow_69 : decode cX5_longestRow 69 = .ok (.goto (-43), 3) := by decide +kernel
theorem dX5_longestRow_72 : decode cX5_longestRow 72 = .ok (.aload_n 0, 1) := by decide +kernel
theorem dX5_longestRow_73 : decode cX5_longestRow 73 = .ok (.getfield 18, 3) := by decide +kernel
theorem dX5_longestRow_76 : decode cX5_longestRow 76 = .ok (.iload 4, 2) := by decide +kernel
theorem dX5_longestRow_78 : decode cX5_longestRow 78 = .ok (.iload 5, 2) := by decide +kernel
theorem dX5_longestRow_80 : decode cX5_longestRow 80 = .ok (.aload_n 1, 1) := by decide +kernel
theorem dX5_longestRow_81 : decode cX5_longestRow 81 = .ok (.getfield 58, 3) := by decide +kernel
theorem dX5_longestRow_84 : decode cX5_longestRow 84 = .ok (.iload 4, 2) := by decide +kernel
theorem dX5_longestRow_86 : decode cX5_longestRow 86 = .ok (.iaload, 1) := by decide +kernel
theorem dX5_longestRow_87 : decode cX5_longestRow 87 = .ok (.iadd, 1) := by decide +kernel
theorem dX5_longestRow_88 : decode cX5_longestRow 88 = .ok (.iastore, 1) := by decide +kernel
theorem dX5_longestRow_89 : decode cX5_longestRow 89 = .ok (.iload_n 2, 1) := by decide +kernel
theorem dX5_longestRow_90 : decode cX5_longestRow 90 = .ok (.aload_n 0, 1) := by decide +kernel
theorem dX5_longestRow_91 : decode cX5_longestRow 91 = .ok (.getfield 18, 3) := by decide +kernel
theorem dX5_longestRow_94 : decode cX5_longestRow 94 = .ok (.iload 4, 2) := by decide +kernel
theorem dX5_longestRow_96 : decode cX5_longestRow 96 = .ok (.iaload, 1) := by decide +kernel
theorem dX5_longestRow_97 : decode cX5_longestRow 97 = .ok (.invokestatic 61, 3) := by decide +kernel
theorem dX5_longestRow_100 : decode cX5_longestRow 100 = .ok (.istore_n 2, 1) := by decide +kernel
theorem dX5_longestRow_101 : decode cX5_longestRow 101 = .ok (.iinc 3 1, 3) := by decide +kernel
theorem dX5_longestRow_104 : decode cX5_longestRow 104 = .ok (.goto (-100), 3) := by decide +kernel
theorem dX5_longestRow_107 : decode cX5_longestRow 107 = .ok (.iload_n 2, 1) := by decide +kernel
theorem dX5_longestRow_108 : decode cX5_longestRow 108 = .ok (.ireturn, 1) := by decide +kernel
theorem dX6_init_0 : decode cX6_init 0 = .ok (.aload_n 0, 1) := by decide +kernel
theorem dX6_init_1 : decode cX6_init 1 = .ok (.invokespecial 3, 3) := by decide +kernel
theorem dX6_init_4 : decode cX6_init 4 = .ok (.return_, 1) := by decide +kernel
theorem dX6_find_0 : decode cX6_find 0 = .ok (.iconst 0, 1) := by decide +kernel
theorem dX6_find_1 : decode cX6_find 1 = .ok (.istore_n 3, 1) := by decide +kernel
theorem dX6_find_2 : decode cX6_find 2 = .ok (.aload_n 2, 1) := by decide +kernel
theorem dX6_find_3 : decode cX6_find 3 = .ok (.aload_n 1, 1) := by decide +kernel
theorem dX6_find_4 : decode cX6_find 4 = .ok (.invokevirtual 9, 3) := by decide +kernel
theorem dX6_find_7 : decode cX6_find 7 = .ok (.aload_n 0, 1) := by decide +kernel
theorem dX6_find_8 : decode cX6_find 8 = .ok (.aload_n 2, 1) := by decide +kernel
theorem dX6_find_9 : decode cX6_find 9 = .ok (.getfield 15, 3) := by decide +kernel
theorem dX6_find_12 : decode cX6_find 12 = .ok (.putfield 19, 3) := by decide +kernel
theorem dX6_find_15 : decode cX6_find 15 = .ok (.aload_n 0, 1) := by decide +kernel
theorem dX6_find_16 : decode cX6_find 16 = .ok (.aload_n 2, 1) := by decide +kernel
theorem dX6_find_17 : decode cX6_find 17 = .ok (.aload_n 1, 1) := by decide +kernel
theorem dX6_find_18 : decode cX6_find 18 = .ok (.invokevirtual 22, 3) := by decide +kernel
theorem dX6_find_21 : decode cX6_find 21 = .ok (.putfield 26, 3) := by decide +kernel
theorem dX6_find_24 : decode cX6_find 24 = .ok (.iconst 0, 1) := by decide +kernel
theorem dX6_find_25 : decode cX6_find 25 = .ok (.istore 4, 2) := by decide +kernel
theorem dX6_find_27 : decode cX6_find 27 = .ok (.iload 4, 2) := by decide +kernel
theorem dX6_find_29 : decode cX6_find 29 = .ok (.bipush 12, 2) := by decide +kernel
theorem dX6_find_31 : decode cX6_find 31 = .ok (.if_icmp .ge 55, 3) := by decide +kernel
theorem dX6_find_34 : decode cX6_find 34 = .ok (.iload 4, 2) := by decide +kernel
theorem dX6_find_36 : decode cX6_find 36 = .ok (.iconst 1, 1) := by decide +kernel
theorem dX6_find_37 : decode cX6_find 37 = .ok (.iadd, 1) := by decide +kernel
theorem dX6_find_38 : decode cX6_find 38 = .ok (.istore 5, 2) := by decide +kernel
theorem dX6_find_40 : decode cX6_find 40 = .ok (.iload 5, 2) := by decide +kernel
theorem dX6_find_42 : decode cX6_find 42 = .ok (.bipush 12, 2) := by decide +kernel
theorem dX6_find_44 : decode cX6_find 44 = .ok (.if_icmp .ge 36, 3) := by decide +kernel
theorem dX6_find_47 : decode cX6_find 47 = .ok (.aload_n 0, 1) := by decide +kernel
theorem dX6_find_48 : decode cX6_find 48 = .ok (.aload_n 1, 1) := by decide +kernel
theorem dX6_find_49 : decode cX6_find 49 = .ok (.aload_n 2, 1) := by decide +kernel
theorem dX6_find_50 : decode cX6_find 50 = .ok (.iload 4, 2) := by decide +kernel
theorem dX6_find_52 : decode cX6_find 52 = .ok (.iload 5, 2) := by decide +kernel
theorem dX6_find_54 : decode cX6_find 54 = .ok (.invokevirtual 29, 3) := by decide +kernel
theorem dX6_find_57 : decode cX6_find 57 = .ok (.ifCond .eq 17, 3) := by decide +kernel
theorem dX6_find_60 : decode cX6_find 60 = .ok (.aload_n 0, 1) := by decide +kernel
theorem dX6_find_61 : decode cX6_find 61 = .ok (.iload 4, 2) := by decide +kernel
theorem dX6_find_63 : decode cX6_find 63 = .ok (.putfield 33, 3) := by decide +kernel
theorem dX6_find_66 : decode cX6_find 66 = .ok (.aload_n 0, 1) := by decide +kernel
theorem dX6_find_67 : decode cX6_find 67 = .ok (.iload 5, 2) := by decide +kernel
theorem dX6_find_69 : decode cX6_find 69 = .ok (.putfield 36, 3) := by decide +kernel
theorem dX6_find_72 : decode cX6_find 72 = .ok (.iconst 1, 1) := by decide +kernel
theorem dX6_find_73 : decode cX6_find 73 = .ok (.istore_n 3, 1) := by decide +kernel
theorem dX6_find_74 : decode cX6_find 74 = .ok (.iinc 5 1, 3) := by decide +kernel
theorem dX6_find_77 : decode cX6_find 77 = .ok (.goto (-37), 3) := by decide +kernel
theorem dX6_find_80 : decode cX6_find 80 = .ok (.iinc 4 1, 3) := by decide +kernel
theorem dX6_find_83 : decode cX6_find 83 = .ok (.goto (-56), 3) := by decide +kernel
theorem dX6_find_86 : decode cX6_find 86 = .ok (.iload_n 3, 1) := by decide +kernel
theorem dX6_find_87 : decode cX6_find 87 = .ok (.ireturn, 1) := by decide +kernel
theorem dX6_isBetterSwapped_0 : decode cX6_isBetterSwapped 0 = .ok (.aload_n 1, 1) := by decide +kernel
theorem dX6_isBetterSwapped_1 : decode cX6_isBetterSwapped 1 = .ok (.iload_n 3, 1) := by decide +kernel
theorem dX6_isBetterSwapped_2 : decode cX6_isBetterSwapped 2 = .ok (.invokevirtual 39, 3) := by decide +kernel
theorem dX6_isBetterSwapped_5 : decode cX6_isBetterSwapped 5 = .ok (.ifCond .ne 14, 3) := by decide +kernel
theorem dX6_isBetterSwapped_8 : decode cX6_isBetterSwapped 8 = .ok (.aload_n 1, 1) := by decide +kernel
theorem dX6_isBetterSwapped_9 : decode cX6_isBetterSwapped 9 = .ok (.iload 4, 2) := by decide +kernel
theorem dX6_isBetterSwapped_11 : decode cX6_isBetterSwapped 11 = .ok (.invokevirtual 39, 3) := by decide +kernel
theorem dX6_isBetterSwapped_14 : decode cX6_isBetterSwapped 14 = .ok (.ifCond .ne 5, 3) := by decide +kernel
theorem dX6_isBetterSwapped_17 : decode cX6_isBetterSwapped 17 = .ok (.iconst 0, 1) := by decide +kernel
theorem dX6_isBetterSwapped_18 : decode cX6_isBetterSwapped 18 = .ok (.ireturn, 1) := by decide +kernel
theorem dX6_isBetterSwapped_19 : decode cX6_isBetterSwapped 19 = .ok (.aload_n 1, 1) := by decide +kernel
theorem dX6_isBetterSwapped_20 : decode cX6_isBetterSwapped 20 = .ok (.iload_n 3, 1) := by decide +kernel
theorem dX6_isBetterSwapped_21 : decode cX6_isBetterSwapped 21 = .ok (.iload 4, 2) := by decide +kernel
theorem dX6_isBetterSwapped_23 : decode cX6_isBetterSwapped 23 = .ok (.invokevirtual 45, 3) := by decide +kernel
theorem dX6_isBetterSwapped_26 : decode cX6_isBetterSwapped 26 = .ok (.aload_n 0, 1) := by decide +kernel
theorem dX6_isBetterSwapped_27 : decode cX6_isBetterSwapped 27 = .ok (.aload_n 1, 1) := by decide +kernel
theorem dX6_isBetterSwapped_28 : decode cX6_isBetterSwapped 28 = .ok (.aload_n 2, 1) := by decide +kernel
theorem dX6_isBetterSwapped_29 : decode cX6_isBetterSwapped 29 = .ok (.invokevirtual 49, 3) := by decide +kernel
theorem dX6_isBetterSwapped_32 : decode cX6_isBetterSwapped 32 = .ok (.istore 5, 2) := by decide +kernel
theorem dX6_isBetterSwapped_34 : decode cX6_isBetterSwapped 34 = .ok (.aload_n 1, 1) := by decide +kernel
theorem dX6_isBetterSwapped_35 : decode cX6_isBetterSwapped 35 = .ok (.iload_n 3, 1) := by decide +kernel
theorem dX6_isBetterSwapped_36 : decode cX6_isBetterSwapped 36 = .ok (.iload 4, 2) := by decide +kernel
theorem dX6_isBetterSwapped_38 : decode cX6_isBetterSwapped 38 = .ok (.invokevirtual 45, 3) := by decide +kernel
theorem dX6_isBetterSwapped_41 : decode cX6_isBetterSwapped 41 = .ok (.iload 5, 2) := by decide +kernel
theorem dX6_isBetterSwapped_43 : decode cX6_isBetterSwapped 43 = .ok (.ireturn, 1) := by decide +kernel
theorem dX6_isBetter_0 : decode cX6_isBetter 0 = .ok (.aload_n 2, 1) := by decide +kernel
theorem dX6_isBetter_1 : decode cX6_isBetter 1 = .ok (.aload_n 1, 1) := by decide +kernel
theorem dX6_isBetter_2 : decode cX6_isBetter 2 = .ok (.invokevirtual 9, 3) := by decide +kernel
theorem dX6_isBetter_5 : decode cX6_isBetter 5 = .ok (.aload_n 2, 1) := by decide +kernel
theorem dX6_isBetter_6 : decode cX6_isBetter 6 = .ok (.getfield 15, 3) := by decide +kernel
theorem dX6_isBetter_9 : decode cX6_isBetter 9 = .ok (.aload_n 0, 1) := by decide +kernel
theorem dX6_isBetter_10 : decode cX6_isBetter 10 = .ok (.getfield 19, 3) := by decide +kernel
theorem dX6_isBetter_13 : decode cX6_isBetter 13 = .ok (.if_icmp .le 5, 3) := by decide +kernel
theorem dX6_isBetter_16 : decode cX6_isBetter 16 = .ok (.iconst 0, 1) := by decide +kernel
theorem dX6_isBetter_17 : decode cX6_isBetter 17 = .ok (.ireturn, 1) := by decide +kernel
theorem dX6_isBetter_18 : decode cX6_isBetter 18 = .ok (.aload_n 2, 1) := by decide +kernel
theorem dX6_isBetter_19 : decode cX6_isBetter 19 = .ok (.aload_n 1, 1) := by decide +kernel
theorem dX6_isBetter_20 : decode cX6_isBetter 20 = .ok (.invokevirtual 22, 3) := by decide +kernel
theorem dX6_isBetter_23 : decode cX6_isBetter 23 = .ok (.istore_n 3, 1) := by decide +kernel
theorem dX6_isBetter_24 : decode cX6_isBetter 24 = .ok (.aload_n 2, 1) := by decide +kernel
theorem dX6_isBetter_25 : decode cX6_isBetter 25 = .ok (.getfield 15, 3) := by decide +kernel
theorem dX6_isBetter_28 : decode cX6_isBetter 28 = .ok (.aload_n 0, 1) := by decide +kernel
theorem dX6_isBetter_29 : decode cX6_isBetter 29 = .ok (.getfield 19, 3) := by decide +kernel
theorem dX6_isBetter_32 : decode cX6_isBetter 32 = .ok (.if_icmp .ne 13, 3) := by decide +kernel
theorem dX6_isBetter_35 : decode cX6_isBetter 35 = .ok (.iload_n 3, 1) := by decide +kernel
theorem dX6_isBetter_36 : decode cX6_isBetter 36 = .ok (.aload_n 0, 1) := by decide +kernel
theorem dX6_isBetter_37 : decode cX6_isBetter 37 = .ok (.getfield 26, 3) := by decide +kernel
theorem dX6_isBetter_40 : decode cX6_isBetter 40 = .ok (.if_icmp .lt 5, 3) := by decide +kernel
theorem dX6_isBetter_43 : decode cX6_isBetter 43 = .ok (.iconst 0, 1) := by decide +kernel
theorem dX6_isBetter_44 : decode cX6_isBetter 44 = .ok (.ireturn, 1) := by decide +kernel
theorem dX6_isBetter_45 : decode cX6_isBetter 45 = .ok (.aload_n 0, 1) := by decide +kernel
theorem dX6_isBetter_46 : decode cX6_isBetter 46 = .ok (.aload_n 2, 1) := by decide +kernel
theorem dX6_isBetter_47 : decode cX6_isBetter 47 = .ok (.getfield 15, 3) := by decide +kernel
theorem dX6_isBetter_50 : decode cX6_isBetter 50 = .ok (.putfield 19, 3) := by decide +kernel
theorem dX6_isBetter_53 : decode cX6_isBetter 53 = .ok (.aload_n 0, 1) := by decide +kernel
theorem dX6_isBetter_54 : decode cX6_isBetter 54 = .ok (.iload_n 3, 1) := by decide +kernel
theorem dX6_isBetter_55 : decode cX6_isBetter 55 = .ok (.putfield 26, 3) := by decide +kernel
theorem dX6_isBetter_58 : decode cX6_isBetter 58 = .ok (.iconst 1, 1) := by decide +kernel
theorem dX6_isBetter_59 : decode cX6_isBetter 59 = .ok (.ireturn, 1) := by decide +kernel
theorem dX7_init_0 : decode cX7_init 0 = .ok (.aload_n 0, 1) := by decide +kernel
theorem dX7_init_1 : decode cX7_init 1 = .ok (.invokespecial 1, 3) := by decide +kernel
theorem dX7_init_4 : decode cX7_init 4 = .ok (.aload_n 0, 1) := by decide +kernel
theorem dX7_init_5 : decode cX7_init 5 = .ok (.new 7, 3) := by decide +kernel
theorem dX7_init_8 : decode cX7_init 8 = .ok (.dup, 1) := by decide +kernel
theorem dX7_init_9 : decode cX7_init 9 = .ok (.invokespecial 9, 3) := by decide +kernel
theorem dX7_init_12 : decode cX7_init 12 = .ok (.putfield 10, 3) := by decide +kernel
theorem dX7_init_15 : decode cX7_init 15 = .ok (.aload_n 0, 1) := by decide +kernel
theorem dX7_init_16 : decode cX7_init 16 = .ok (.new 7, 3) := by decide +kernel
theorem dX7_init_19 : decode cX7_init 19 = .ok (.dup, 1) := by decide +kernel
theorem dX7_init_20 : decode cX7_init 20 = .ok (.invokespecial 9, 3) := by decide +kernel
theorem dX7_init_23 : decode cX7_init 23 = .ok (.putfield 16, 3) := by decide +kernel
theorem dX7_init_26 : decode cX7_init 26 = .ok (.aload_n 0, 1) := by decide +kernel
theorem dX7_init_27 : decode cX7_init 27 = .ok (.new 7, 3) := by decide +kernel
theorem dX7_init_30 : decode cX7_init 30 = .ok (.dup, 1) := by decide +kernel
theorem dX7_init_31 : decode cX7_init 31 = .ok (.invokespecial 9, 3) := by decide +kernel
theorem dX7_init_34 : decode cX7_init 34 = .ok (.putfield 19, 3) := by decide +kernel
theorem dX7_init_37 : decode cX7_init 37 = .ok (.aload_n 0, 1) := by decide +kernel
theorem dX7_init_38 : decode cX7_init 38 = .ok (.new 22, 3) := by decide +kernel
theorem dX7_init_41 : decode cX7_init 41 = .ok (.dup, 1) := by decide +kernel
theorem dX7_init_42 : decode cX7_init 42 = .ok (.invokespecial 24, 3) := by decide +kernel
theorem dX7_init_45 : decode cX7_init 45 = .ok (.putfield 25, 3) := by decide +kernel
theorem dX7_init_48 : decode cX7_init 48 = .ok (.aload_n 0, 1) := by decide +kernel
theorem dX7_init_49 : decode cX7_init 49 = .ok (.new 29, 3) := by decide +kernel
theorem dX7_init_52 : decode cX7_init 52 = .ok (.dup, 1) := by decide +kernel
theorem dX7_init_53 : decode cX7_init 53 = .ok (.invokespecial 31, 3) := by decide +kernel
theorem dX7_init_56 : decode cX7_init 56 = .ok (.putfield 32, 3) := by decide +kernel
theorem dX7_init_59 : decode cX7_init 59 = .ok (.aload_n 0, 1) := by decide +kernel
theorem dX7_init_60 : decode cX7_init 60 = .ok (.new 36, 3) := by decide +kernel
theorem dX7_init_63 : decode cX7_init 63 = .ok (.dup, 1) := by decide +kernel
theorem dX7_init_64 : decode cX7_init 64 = .ok (.invokespecial 38, 3) := by decide +kernel
theorem dX7_init_67 : decode cX7_init 67 = .ok (.putfield 39, 3) := by decide +kernel
theorem dX7_init_70 : decode cX7_init 70 = .ok (.aload_n 0, 1) := by decide +kernel
theorem dX7_init_71 : decode cX7_init 71 = .ok (.new 43, 3) := by decide +kernel
theorem dX7_init_74 : decode cX7_init 74 = .ok (.dup, 1) := by decide +kernel
theorem dX7_init_75 : decode cX7_init 75 = .ok (.invokespecial 45, 3) := by decide +kernel
theorem dX7_init_78 : decode cX7_init 78 = .ok (.putfield 46, 3) := by decide +kernel
theorem dX7_init_81 : decode cX7_init 81 = .ok (.aload_n 0, 1) := by decide +kernel
theorem dX7_init_82 : decode cX7_init 82 = .ok (.new 50, 3) := by decide +kernel
theorem dX7_init_85 : decode cX7_init 85 = .ok (.dup, 1) := by decide +kernel
theorem dX7_init_86 : decode cX7_init 86 = .ok (.invokespecial 52, 3) := by decide +kernel
theorem dX7_init_89 : decode cX7_init 89 = .ok (.putfield 53, 3) := by decide +kernel
theorem dX7_init_92 : decode cX7_init 92 = .ok (.aload_n 0, 1) := by decide +kernel
theorem dX7_init_93 : decode cX7_init 93 = .ok (.new 57, 3) := by decide +kernel
theorem dX7_init_96 : decode cX7_init 96 = .ok (.dup, 1) := by decide +kernel
theorem dX7_init_97 : decode cX7_init 97 = .ok (.invokespecial 59, 3) := by decide +kernel
theorem dX7_init_100 : decode cX7_init 100 = .ok (.putfield 60, 3) := by decide +kernel
theorem dX7_init_103 : decode cX7_init 103 = .ok (.return_, 1) := by decide +kernel
theorem dX7_bar_0 : decode cX7_bar 0 = .ok (.aload_n 0, 1) := by decide +kernel
theorem dX7_bar_1 : decode cX7_bar 1 = .ok (.getfield 16, 3) := by decide +kernel
theorem dX7_bar_4 : decode cX7_bar 4 = .ok (.aload_n 0, 1) := by decide +kernel
theorem dX7_bar_5 : decode cX7_bar 5 = .ok (.getfield 10, 3) := by decide +kernel
theorem dX7_bar_8 : decode cX7_bar 8 = .ok (.invokevirtual 64, 3) := by decide +kernel
theorem dX7_bar_11 : decode cX7_bar 11 = .ok (.aload_n 0, 1) := by decide +kernel
theorem dX7_bar_12 : decode cX7_bar 12 = .ok (.aload_n 0, 1) := by decide +kernel
theorem dX7_bar_13 : decode cX7_bar 13 = .ok (.getfield 16, 3) := by decide +kernel
theorem dX7_bar_16 : decode cX7_bar 16 = .ok (.iload_n 1, 1) := by decide +kernel
theorem dX7_bar_17 : decode cX7_bar 17 = .ok (.iload_n 2, 1) := by decide +kernel
theorem dX7_bar_18 : decode cX7_bar 18 = .ok (.iload_n 3, 1) := by decide +kernel
theorem dX7_bar_19 : decode cX7_bar 19 = .ok (.invokevirtual 68, 3) := by decide +kernel
theorem dX7_bar_22 : decode cX7_bar 22 = .ok (.invokevirtual 72, 3) := by decide +kernel
theorem dX7_bar_25 : decode cX7_bar 25 = .ok (.ireturn, 1) := by decide +kernel
theorem dX7_arrow_0 : decode cX7_arrow 0 = .ok (.aload_n 0, 1) := by decide +kernel
theorem dX7_arrow_1 : decode cX7_arrow 1 = .ok (.getfield 16, 3) := by decide +kernel
theorem dX7_arrow_4 : decode cX7_arrow 4 = .ok (.aload_n 0, 1) := by decide +kernel
theorem dX7_arrow_5 : decode cX7_arrow 5 = .ok (.getfield 10, 3) := by decide +kernel
theorem dX7_arrow_8 : decode cX7_arrow 8 = .ok (.invokevirtual 64, 3) := by decide +kernel
theorem dX7_arrow_11 : decode cX7_arrow 11 = .ok (.aload_n 0, 1) := by decide +kernel
theorem dX7_arrow_12 : decode cX7_arrow 12 = .ok (.aload_n 0, 1) := by decide +kernel
theorem dX7_arrow_13 : decode cX7_arrow 13 = .ok (.getfield 16, 3) := by decide +kernel
theorem dX7_arrow_16 : decode cX7_arrow 16 = .ok (.iload_n 1, 1) := by decide +kernel
theorem dX7_arrow_17 : decode cX7_arrow 17 = .ok (.iload_n 2, 1) := by decide +kernel
theorem dX7_arrow_18 : decode cX7_arrow 18 = .ok (.invokevirtual 76, 3) := by decide +kernel
theorem dX7_arrow_21 : decode cX7_arrow 21 = .ok (.invokevirtual 72, 3) := by decide +kernel
theorem dX7_arrow_24 : decode cX7_arrow 24 = .ok (.ireturn, 1) := by decide +kernel
theorem dX7_addAll_0 : decode cX7_addAll 0 = .ok (.aload_n 0, 1) := by decide +kernel
theorem dX7_addAll_1 : decode cX7_addAll 1 = .ok (.getfield 32, 3) := by decide +kernel
theorem dX7_addAll_4 : decode cX7_addAll 4 = .ok (.invokevirtual 80, 3) := by decide +kernel
theorem dX7_addAll_7 : decode cX7_addAll 7 = .ok (.istore_n 1, 1) := by decide +kernel
theorem dX7_addAll_8 : decode cX7_addAll 8 = .ok (.iload_n 1, 1) := by decide +kernel
theorem dX7_addAll_9 : decode cX7_addAll 9 = .ok (.bipush (-5), 2) := by decide +kernel
theorem dX7_addAll_11 : decode cX7_addAll 11 = .ok (.if_icmp .eq 8, 3) := by decide +kernel
theorem dX7_addAll_14 : decode cX7_addAll 14 = .ok (.bipush (-100), 2) := by decide +kernel
theorem dX7_addAll_16 : decode cX7_addAll 16 = .ok (.iload_n 1, 1) := by decide +kernel
theorem dX7_addAll_17 : decode cX7_addAll 17 = .ok (.isub, 1) := by decide +kernel
end
section
theorem dX7_addAll_18 : decode cX7_addAll 18 = .ok (.ireturn, 1) := by decide +kernel
theorem dX7_addAll_19 : decode cX7_addAll 19 = .ok (.aload_n 0, 1) := by decide +kernel
theorem dX7_addAll_20 : decode cX7_addAll 20 = .ok (.getfield 16, 3) := by decide +kernel
theorem dX7_addAll_23 : decode cX7_addAll 23 = .ok (.aload_n 0, 1) := by decide +kernel
theorem dX7_addAll_24 : decode cX7_addAll 24 = .ok (.getfield 10, 3) := by decide +kernel
theorem dX7_addAll_27 : decode cX7_addAll 27 = .ok (.invokevirtual 64, 3) := by decide +kernel
theorem dX7_addAll_30 : decode cX7_addAll 30 = .ok (.iconst 0, 1) := by decide +kernel
theorem dX7_addAll_31 : decode cX7_addAll 31 = .ok (.istore_n 2, 1) := by decide +kernel
theorem dX7_addAll_32 : decode cX7_addAll 32 = .ok (.iload_n 2, 1) := by decide +kernel
theorem dX7_addAll_33 : decode cX7_addAll 33 = .ok (.aload_n 0, 1) := by decide +kernel
theorem dX7_addAll_34 : decode cX7_addAll 34 = .ok (.getfield 32, 3) := by decide +kernel
theorem dX7_addAll_37 : decode cX7_addAll 37 = .ok (.getfield 84, 3) := by decide +kernel
theorem dX7_addAll_40 : decode cX7_addAll 40 = .ok (.if_icmp .ge 21, 3) := by decide +kernel
theorem dX7_addAll_43 : decode cX7_addAll 43 = .ok (.aload_n 0, 1) := by decide +kernel
theorem dX7_addAll_44 : decode cX7_addAll 44 = .ok (.iload_n 2, 1) := by decide +kernel
theorem dX7_addAll_45 : decode cX7_addAll 45 = .ok (.invokevirtual 88, 3) := by decide +kernel
theorem dX7_addAll_48 : decode cX7_addAll 48 = .ok (.istore_n 3, 1) := by decide +kernel
theorem dX7_addAll_49 : decode cX7_addAll 49 = .ok (.iload_n 3, 1) := by decide +kernel
theorem dX7_addAll_50 : decode cX7_addAll 50 = .ok (.ifCond .ge 5, 3) := by decide +kernel
theorem dX7_addAll_53 : decode cX7_addAll 53 = .ok (.iload_n 3, 1) := by decide +kernel
theorem dX7_addAll_54 : decode cX7_addAll 54 = .ok (.ireturn, 1) := by decide +kernel
theorem dX7_addAll_55 : decode cX7_addAll 55 = .ok (.iinc 2 1, 3) := by decide +kernel
theorem dX7_addAll_58 : decode cX7_addAll 58 = .ok (.goto (-26), 3) := by decide +kernel
theorem dX7_addAll_61 : decode cX7_addAll 61 = .ok (.aload_n 0, 1) := by decide +kernel
theorem dX7_addAll_62 : decode cX7_addAll 62 = .ok (.aload_n 0, 1) := by decide +kernel
theorem dX7_addAll_63 : decode cX7_addAll 63 = .ok (.getfield 32, 3) := by decide +kernel
theorem dX7_addAll_66 : decode cX7_addAll 66 = .ok (.getfield 84, 3) := by decide +kernel
theorem dX7_addAll_69 : decode cX7_addAll 69 = .ok (.invokevirtual 72, 3) := by decide +kernel
theorem dX7_addAll_72 : decode cX7_addAll 72 = .ok (.ireturn, 1) := by decide +kernel
theorem dX7_takeBar_0 : decode cX7_takeBar 0 = .ok (.aload_n 0, 1) := by decide +kernel
theorem dX7_takeBar_1 : decode cX7_takeBar 1 = .ok (.getfield 10, 3) := by decide +kernel
theorem dX7_takeBar_4 : decode cX7_takeBar 4 = .ok (.iload_n 1, 1) := by decide +kernel
theorem dX7_takeBar_5 : decode cX7_takeBar 5 = .ok (.invokevirtual 91, 3) := by decide +kernel
theorem dX7_takeBar_8 : decode cX7_takeBar 8 = .ok (.istore_n 2, 1) := by decide +kernel
theorem dX7_takeBar_9 : decode cX7_takeBar 9 = .ok (.iload_n 2, 1) := by decide +kernel
theorem dX7_takeBar_10 : decode cX7_takeBar 10 = .ok (.ifCond .ge 5, 3) := by decide +kernel
theorem dX7_takeBar_13 : decode cX7_takeBar 13 = .ok (.iconst (-1), 1) := by decide +kernel
theorem dX7_takeBar_14 : decode cX7_takeBar 14 = .ok (.ireturn, 1) := by decide +kernel
theorem dX7_takeBar_15 : decode cX7_takeBar 15 = .ok (.aload_n 0, 1) := by decide +kernel
theorem dX7_takeBar_16 : decode cX7_takeBar 16 = .ok (.getfield 16, 3) := by decide +kernel
theorem dX7_takeBar_19 : decode cX7_takeBar 19 = .ok (.aload_n 0, 1) := by decide +kernel
theorem dX7_takeBar_20 : decode cX7_takeBar 20 = .ok (.getfield 10, 3) := by decide +kernel
theorem dX7_takeBar_23 : decode cX7_takeBar 23 = .ok (.invokevirtual 64, 3) := by decide +kernel
theorem dX7_takeBar_26 : decode cX7_takeBar 26 = .ok (.aload_n 0, 1) := by decide +kernel
theorem dX7_takeBar_27 : decode cX7_takeBar 27 = .ok (.aload_n 0, 1) := by decide +kernel
theorem dX7_takeBar_28 : decode cX7_takeBar 28 = .ok (.getfield 16, 3) := by decide +kernel
theorem dX7_takeBar_31 : decode cX7_takeBar 31 = .ok (.iload_n 2, 1) := by decide +kernel
theorem dX7_takeBar_32 : decode cX7_takeBar 32 = .ok (.invokevirtual 94, 3) := by decide +kernel
theorem dX7_takeBar_35 : decode cX7_takeBar 35 = .ok (.invokevirtual 72, 3) := by decide +kernel
theorem dX7_takeBar_38 : decode cX7_takeBar 38 = .ok (.ireturn, 1) := by decide +kernel
theorem dX7_takeArrow_0 : decode cX7_takeArrow 0 = .ok (.aload_n 0, 1) := by decide +kernel
theorem dX7_takeArrow_1 : decode cX7_takeArrow 1 = .ok (.getfield 10, 3) := by decide +kernel
theorem dX7_takeArrow_4 : decode cX7_takeArrow 4 = .ok (.iload_n 1, 1) := by decide +kernel
theorem dX7_takeArrow_5 : decode cX7_takeArrow 5 = .ok (.invokevirtual 97, 3) := by decide +kernel
theorem dX7_takeArrow_8 : decode cX7_takeArrow 8 = .ok (.istore_n 2, 1) := by decide +kernel
theorem dX7_takeArrow_9 : decode cX7_takeArrow 9 = .ok (.iload_n 2, 1) := by decide +kernel
theorem dX7_takeArrow_10 : decode cX7_takeArrow 10 = .ok (.ifCond .ge 5, 3) := by decide +kernel
theorem dX7_takeArrow_13 : decode cX7_takeArrow 13 = .ok (.iconst (-1), 1) := by decide +kernel
theorem dX7_takeArrow_14 : decode cX7_takeArrow 14 = .ok (.ireturn, 1) := by decide +kernel
theorem dX7_takeArrow_15 : decode cX7_takeArrow 15 = .ok (.aload_n 0, 1) := by decide +kernel
theorem dX7_takeArrow_16 : decode cX7_takeArrow 16 = .ok (.getfield 16, 3) := by decide +kernel
theorem dX7_takeArrow_19 : decode cX7_takeArrow 19 = .ok (.aload_n 0, 1) := by decide +kernel
theorem dX7_takeArrow_20 : decode cX7_takeArrow 20 = .ok (.getfield 10, 3) := by decide +kernel
theorem dX7_takeArrow_23 : decode cX7_takeArrow 23 = .ok (.invokevirtual 64, 3) := by decide +kernel
theorem dX7_takeArrow_26 : decode cX7_takeArrow 26 = .ok (.aload_n 0, 1) := by decide +kernel
theorem dX7_takeArrow_27 : decode cX7_takeArrow 27 = .ok (.getfield 16, 3) := by decide +kernel
theorem dX7_takeArrow_30 : decode cX7_takeArrow 30 = .ok (.getfield 100, 3) := by decide +kernel
theorem dX7_takeArrow_33 : decode cX7_takeArrow 33 = .ok (.aload_n 0, 1) := by decide +kernel
theorem dX7_takeArrow_34 : decode cX7_takeArrow 34 = .ok (.getfield 16, 3) := by decide +kernel
theorem dX7_takeArrow_37 : decode cX7_takeArrow 37 = .ok (.getfield 104, 3) := by decide +kernel
theorem dX7_takeArrow_40 : decode cX7_takeArrow 40 = .ok (.iload_n 2, 1) := by decide +kernel
theorem dX7_takeArrow_41 : decode cX7_takeArrow 41 = .ok (.iaload, 1) := by decide +kernel
theorem dX7_takeArrow_42 : decode cX7_takeArrow 42 = .ok (.iaload, 1) := by decide +kernel
theorem dX7_takeArrow_43 : decode cX7_takeArrow 43 = .ok (.istore_n 3, 1) := by decide +kernel
theorem dX7_takeArrow_44 : decode cX7_takeArrow 44 = .ok (.aload_n 0, 1) := by decide +kernel
theorem dX7_takeArrow_45 : decode cX7_takeArrow 45 = .ok (.getfield 16, 3) := by decide +kernel
theorem dX7_takeArrow_48 : decode cX7_takeArrow 48 = .ok (.iload_n 2, 1) := by decide +kernel
theorem dX7_takeArrow_49 : decode cX7_takeArrow 49 = .ok (.invokevirtual 107, 3) := by decide +kernel
theorem dX7_takeArrow_52 : decode cX7_takeArrow 52 = .ok (.aload_n 0, 1) := by decide +kernel
theorem dX7_takeArrow_53 : decode cX7_takeArrow 53 = .ok (.iload_n 3, 1) := by decide +kernel
theorem dX7_takeArrow_54 : decode cX7_takeArrow 54 = .ok (.invokevirtual 72, 3) := by decide +kernel
theorem dX7_takeArrow_57 : decode cX7_takeArrow 57 = .ok (.ireturn, 1) := by decide +kernel
theorem dX7_move_0 : decode cX7_move 0 = .ok (.aload_n 0, 1) := by decide +kernel
theorem dX7_move_1 : decode cX7_move 1 = .ok (.getfield 10, 3) := by decide +kernel
theorem dX7_move_4 : decode cX7_move 4 = .ok (.iload_n 1, 1) := by decide +kernel
theorem dX7_move_5 : decode cX7_move 5 = .ok (.invokevirtual 91, 3) := by decide +kernel
theorem dX7_move_8 : decode cX7_move 8 = .ok (.istore 4, 2) := by decide +kernel
theorem dX7_move_10 : decode cX7_move 10 = .ok (.iload 4, 2) := by decide +kernel
theorem dX7_move_12 : decode cX7_move 12 = .ok (.ifCond .lt 10, 3) := by decide +kernel
theorem dX7_move_15 : decode cX7_move 15 = .ok (.iload_n 2, 1) := by decide +kernel
theorem dX7_move_16 : decode cX7_move 16 = .ok (.invokestatic 111, 3) := by decide +kernel
theorem dX7_move_19 : decode cX7_move 19 = .ok (.ifCond .ne 5, 3) := by decide +kernel
theorem dX7_move_22 : decode cX7_move 22 = .ok (.iconst (-1), 1) := by decide +kernel
theorem dX7_move_23 : decode cX7_move 23 = .ok (.ireturn, 1) := by decide +kernel
theorem dX7_move_24 : decode cX7_move 24 = .ok (.iload_n 3, 1) := by decide +kernel
theorem dX7_move_25 : decode cX7_move 25 = .ok (.invokestatic 115, 3) := by decide +kernel
theorem dX7_move_28 : decode cX7_move 28 = .ok (.ifCond .eq 21, 3) := by decide +kernel
theorem dX7_move_31 : decode cX7_move 31 = .ok (.iload_n 3, 1) := by decide +kernel
theorem dX7_move_32 : decode cX7_move 32 = .ok (.aload_n 0, 1) := by decide +kernel
theorem dX7_move_33 : decode cX7_move 33 = .ok (.getfield 10, 3) := by decide +kernel
theorem dX7_move_36 : decode cX7_move 36 = .ok (.getfield 118, 3) := by decide +kernel
theorem dX7_move_39 : decode cX7_move 39 = .ok (.iload 4, 2) := by decide +kernel
theorem dX7_move_41 : decode cX7_move 41 = .ok (.iaload, 1) := by decide +kernel
theorem dX7_move_42 : decode cX7_move 42 = .ok (.iadd, 1) := by decide +kernel
theorem dX7_move_43 : decode cX7_move 43 = .ok (.sipush 200, 3) := by decide +kernel
theorem dX7_move_46 : decode cX7_move 46 = .ok (.if_icmp .le 6, 3) := by decide +kernel
theorem dX7_move_49 : decode cX7_move 49 = .ok (.bipush (-2), 2) := by decide +kernel
theorem dX7_move_51 : decode cX7_move 51 = .ok (.ireturn, 1) := by decide +kernel
theorem dX7_move_52 : decode cX7_move 52 = .ok (.aload_n 0, 1) := by decide +kernel
theorem dX7_move_53 : decode cX7_move 53 = .ok (.getfield 10, 3) := by decide +kernel
theorem dX7_move_56 : decode cX7_move 56 = .ok (.getfield 121, 3) := by decide +kernel
theorem dX7_move_59 : decode cX7_move 59 = .ok (.iload 4, 2) := by decide +kernel
theorem dX7_move_61 : decode cX7_move 61 = .ok (.iaload, 1) := by decide +kernel
theorem dX7_move_62 : decode cX7_move 62 = .ok (.iload_n 2, 1) := by decide +kernel
theorem dX7_move_63 : decode cX7_move 63 = .ok (.if_icmp .ne 20, 3) := by decide +kernel
theorem dX7_move_66 : decode cX7_move 66 = .ok (.aload_n 0, 1) := by decide +kernel
theorem dX7_move_67 : decode cX7_move 67 = .ok (.getfield 10, 3) := by decide +kernel
theorem dX7_move_70 : decode cX7_move 70 = .ok (.getfield 124, 3) := by decide +kernel
theorem dX7_move_73 : decode cX7_move 73 = .ok (.iload 4, 2) := by decide +kernel
theorem dX7_move_75 : decode cX7_move 75 = .ok (.iaload, 1) := by decide +kernel
theorem dX7_move_76 : decode cX7_move 76 = .ok (.iload_n 3, 1) := by decide +kernel
theorem dX7_move_77 : decode cX7_move 77 = .ok (.if_icmp .ne 6, 3) := by decide +kernel
theorem dX7_move_80 : decode cX7_move 80 = .ok (.bipush (-5), 2) := by decide +kernel
theorem dX7_move_82 : decode cX7_move 82 = .ok (.ireturn, 1) := by decide +kernel
theorem dX7_move_83 : decode cX7_move 83 = .ok (.aload_n 0, 1) := by decide +kernel
theorem dX7_move_84 : decode cX7_move 84 = .ok (.getfield 10, 3) := by decide +kernel
theorem dX7_move_87 : decode cX7_move 87 = .ok (.iload_n 2, 1) := by decide +kernel
theorem dX7_move_88 : decode cX7_move 88 = .ok (.iload_n 3, 1) := by decide +kernel
theorem dX7_move_89 : decode cX7_move 89 = .ok (.aload_n 0, 1) := by decide +kernel
theorem dX7_move_90 : decode cX7_move 90 = .ok (.getfield 10, 3) := by decide +kernel
theorem dX7_move_93 : decode cX7_move 93 = .ok (.getfield 118, 3) := by decide +kernel
theorem dX7_move_96 : decode cX7_move 96 = .ok (.iload 4, 2) := by decide +kernel
theorem dX7_move_98 : decode cX7_move 98 = .ok (.iaload, 1) := by decide +kernel
theorem dX7_move_99 : decode cX7_move 99 = .ok (.iload 4, 2) := by decide +kernel
theorem dX7_move_101 : decode cX7_move 101 = .ok (.invokevirtual 127, 3) := by decide +kernel
theorem dX7_move_104 : decode cX7_move 104 = .ok (.ifCond .ne 6, 3) := by decide +kernel
theorem dX7_move_107 : decode cX7_move 107 = .ok (.bipush (-4), 2) := by decide +kernel
theorem dX7_move_109 : decode cX7_move 109 = .ok (.ireturn, 1) := by decide +kernel
theorem dX7_move_110 : decode cX7_move 110 = .ok (.aload_n 0, 1) := by decide +kernel
theorem dX7_move_111 : decode cX7_move 111 = .ok (.getfield 16, 3) := by decide +kernel
theorem dX7_move_114 : decode cX7_move 114 = .ok (.aload_n 0, 1) := by decide +kernel
theorem dX7_move_115 : decode cX7_move 115 = .ok (.getfield 10, 3) := by decide +kernel
theorem dX7_move_118 : decode cX7_move 118 = .ok (.invokevirtual 64, 3) := by decide +kernel
theorem dX7_move_121 : decode cX7_move 121 = .ok (.aload_n 0, 1) := by decide +kernel
theorem dX7_move_122 : decode cX7_move 122 = .ok (.getfield 16, 3) := by decide +kernel
theorem dX7_move_125 : decode cX7_move 125 = .ok (.getfield 121, 3) := by decide +kernel
theorem dX7_move_128 : decode cX7_move 128 = .ok (.iload 4, 2) := by decide +kernel
theorem dX7_move_130 : decode cX7_move 130 = .ok (.iload_n 2, 1) := by decide +kernel
theorem dX7_move_131 : decode cX7_move 131 = .ok (.iastore, 1) := by decide +kernel
theorem dX7_move_132 : decode cX7_move 132 = .ok (.aload_n 0, 1) := by decide +kernel
theorem dX7_move_133 : decode cX7_move 133 = .ok (.getfield 16, 3) := by decide +kernel
theorem dX7_move_136 : decode cX7_move 136 = .ok (.getfield 124, 3) := by decide +kernel
theorem dX7_move_139 : decode cX7_move 139 = .ok (.iload 4, 2) := by decide +kernel
theorem dX7_move_141 : decode cX7_move 141 = .ok (.iload_n 3, 1) := by decide +kernel
theorem dX7_move_142 : decode cX7_move 142 = .ok (.iastore, 1) := by decide +kernel
theorem dX7_move_143 : decode cX7_move 143 = .ok (.aload_n 0, 1) := by decide +kernel
theorem dX7_move_144 : decode cX7_move 144 = .ok (.getfield 46, 3) := by decide +kernel
theorem dX7_move_147 : decode cX7_move 147 = .ok (.aload_n 0, 1) := by decide +kernel
theorem dX7_move_148 : decode cX7_move 148 = .ok (.getfield 16, 3) := by decide +kernel
theorem dX7_move_151 : decode cX7_move 151 = .ok (.invokevirtual 131, 3) := by decide +kernel
theorem dX7_move_154 : decode cX7_move 154 = .ok (.aload_n 0, 1) := by decide +kernel
theorem dX7_move_155 : decode cX7_move 155 = .ok (.aload_n 0, 1) := by decide +kernel
theorem dX7_move_156 : decode cX7_move 156 = .ok (.getfield 46, 3) := by decide +kernel
theorem dX7_move_159 : decode cX7_move 159 = .ok (.getfield 134, 3) := by decide +kernel
theorem dX7_move_162 : decode cX7_move 162 = .ok (.invokevirtual 72, 3) := by decide +kernel
theorem dX7_move_165 : decode cX7_move 165 = .ok (.ireturn, 1) := by decide +kernel
theorem dX7_swap_0 : decode cX7_swap 0 = .ok (.iload_n 1, 1) := by decide +kernel
theorem dX7_swap_1 : decode cX7_swap 1 = .ok (.invokestatic 111, 3) := by decide +kernel
theorem dX7_swap_4 : decode cX7_swap 4 = .ok (.ifCond .eq 10, 3) := by decide +kernel
theorem dX7_swap_7 : decode cX7_swap 7 = .ok (.iload_n 2, 1) := by decide +kernel
theorem dX7_swap_8 : decode cX7_swap 8 = .ok (.invokestatic 111, 3) := by decide +kernel
theorem dX7_swap_11 : decode cX7_swap 11 = .ok (.ifCond .ne 5, 3) := by decide +kernel
theorem dX7_swap_14 : decode cX7_swap 14 = .ok (.iconst (-1), 1) := by decide +kernel
theorem dX7_swap_15 : decode cX7_swap 15 = .ok (.ireturn, 1) := by decide +kernel
theorem dX7_swap_16 : decode cX7_swap 16 = .ok (.iload_n 1, 1) := by decide +kernel
theorem dX7_swap_17 : decode cX7_swap 17 = .ok (.iload_n 2, 1) := by decide +kernel
theorem dX7_swap_18 : decode cX7_swap 18 = .ok (.if_icmp .eq 25, 3) := by decide +kernel
theorem dX7_swap_21 : decode cX7_swap 21 = .ok (.aload_n 0, 1) := by decide +kernel
theorem dX7_swap_22 : decode cX7_swap 22 = .ok (.getfield 10, 3) := by decide +kernel
theorem dX7_swap_25 : decode cX7_swap 25 = .ok (.iload_n 1, 1) := by decide +kernel
theorem dX7_swap_26 : decode cX7_swap 26 = .ok (.invokevirtual 137, 3) := by decide +kernel
theorem dX7_swap_29 : decode cX7_swap 29 = .ok (.ifCond .ne 17, 3) := by decide +kernel
theorem dX7_swap_32 : decode cX7_swap 32 = .ok (.aload_n 0, 1) := by decide +kernel
theorem dX7_swap_33 : decode cX7_swap 33 = .ok (.getfield 10, 3) := by decide +kernel
theorem dX7_swap_36 : decode cX7_swap 36 = .ok (.iload_n 2, 1) := by decide +kernel
theorem dX7_swap_37 : decode cX7_swap 37 = .ok (.invokevirtual 137, 3) := by decide +kernel
theorem dX7_swap_40 : decode cX7_swap 40 = .ok (.ifCond .ne 6, 3) := by decide +kernel
theorem dX7_swap_43 : decode cX7_swap 43 = .ok (.bipush (-5), 2) := by decide +kernel
theorem dX7_swap_45 : decode cX7_swap 45 = .ok (.ireturn, 1) := by decide +kernel
theorem dX7_swap_46 : decode cX7_swap 46 = .ok (.aload_n 0, 1) := by decide +kernel
theorem dX7_swap_47 : decode cX7_swap 47 = .ok (.getfield 16, 3) := by decide +kernel
theorem dX7_swap_50 : decode cX7_swap 50 = .ok (.aload_n 0, 1) := by decide +kernel
theorem dX7_swap_51 : decode cX7_swap 51 = .ok (.getfield 10, 3) := by decide +kernel
theorem dX7_swap_54 : decode cX7_swap 54 = .ok (.invokevirtual 64, 3) := by decide +kernel
theorem dX7_swap_57 : decode cX7_swap 57 = .ok (.aload_n 0, 1) := by decide +kernel
theorem dX7_swap_58 : decode cX7_swap 58 = .ok (.getfield 16, 3) := by decide +kernel
theorem dX7_swap_61 : decode cX7_swap 61 = .ok (.iload_n 1, 1) := by decide +kernel
theorem dX7_swap_62 : decode cX7_swap 62 = .ok (.iload_n 2, 1) := by decide +kernel
theorem dX7_swap_63 : decode cX7_swap 63 = .ok (.invokevirtual 140, 3) := by decide +kernel
theorem dX7_swap_66 : decode cX7_swap 66 = .ok (.aload_n 0, 1) := by decide +kernel
theorem dX7_swap_67 : decode cX7_swap 67 = .ok (.getfield 46, 3) := by decide +kernel
theorem dX7_swap_70 : decode cX7_swap 70 = .ok (.aload_n 0, 1) := by decide +kernel
theorem dX7_swap_71 : decode cX7_swap 71 = .ok (.getfield 16, 3) := by decide +kernel
theorem dX7_swap_74 : decode cX7_swap 74 = .ok (.invokevirtual 131, 3) := by decide +kernel
theorem dX7_swap_77 : decode cX7_swap 77 = .ok (.aload_n 0, 1) := by decide +kernel
theorem dX7_swap_78 : decode cX7_swap 78 = .ok (.aload_n 0, 1) := by decide +kernel
theorem dX7_swap_79 : decode cX7_swap 79 = .ok (.getfield 46, 3) := by decide +kernel
theorem dX7_swap_82 : decode cX7_swap 82 = .ok (.getfield 134, 3) := by decide +kernel
theorem dX7_swap_85 : decode cX7_swap 85 = .ok (.invokevirtual 72, 3) := by decide +kernel
theorem dX7_swap_88 : decode cX7_swap 88 = .ok (.ireturn, 1) := by decide +kernel
theorem dX7_pack_0 : decode cX7_pack 0 = .ok (.aload_n 0, 1) := by decide +kernel
theorem dX7_pack_1 : decode cX7_pack 1 = .ok (.getfield 16, 3) := by decide +kernel
theorem dX7_pack_4 : decode cX7_pack 4 = .ok (.aload_n 0, 1) := by decide +kernel
theorem dX7_pack_5 : decode cX7_pack 5 = .ok (.getfield 10, 3) := by decide +kernel
theorem dX7_pack_8 : decode cX7_pack 8 = .ok (.invokevirtual 64, 3) := by decide +kernel
theorem dX7_pack_11 : decode cX7_pack 11 = .ok (.aload_n 0, 1) := by decide +kernel
theorem dX7_pack_12 : decode cX7_pack 12 = .ok (.getfield 39, 3) := by decide +kernel
theorem dX7_pack_15 : decode cX7_pack 15 = .ok (.aload_n 0, 1) := by decide +kernel
theorem dX7_pack_16 : decode cX7_pack 16 = .ok (.getfield 16, 3) := by decide +kernel
theorem dX7_pack_19 : decode cX7_pack 19 = .ok (.invokevirtual 144, 3) := by decide +kernel
theorem dX7_pack_22 : decode cX7_pack 22 = .ok (.aload_n 0, 1) := by decide +kernel
theorem dX7_pack_23 : decode cX7_pack 23 = .ok (.aload_n 0, 1) := by decide +kernel
theorem dX7_pack_24 : decode cX7_pack 24 = .ok (.getfield 16, 3) := by decide +kernel
theorem dX7_pack_27 : decode cX7_pack 27 = .ok (.aload_n 0, 1) := by decide +kernel
theorem dX7_pack_28 : decode cX7_pack 28 = .ok (.getfield 39, 3) := by decide +kernel
theorem dX7_pack_31 : decode cX7_pack 31 = .ok (.getfield 147, 3) := by decide +kernel
theorem dX7_pack_34 : decode cX7_pack 34 = .ok (.invokevirtual 150, 3) := by decide +kernel
theorem dX7_pack_37 : decode cX7_pack 37 = .ok (.invokevirtual 72, 3) := by decide +kernel
theorem dX7_pack_40 : decode cX7_pack 40 = .ok (.ireturn, 1) := by decide +kernel
theorem dX7_slip_0 : decode cX7_slip 0 = .ok (.aload_n 0, 1) := by decide +kernel
theorem dX7_slip_1 : decode cX7_slip 1 = .ok (.getfield 10, 3) := by decide +kernel
theorem dX7_slip_4 : decode cX7_slip 4 = .ok (.iload_n 1, 1) := by decide +kernel
theorem dX7_slip_5 : decode cX7_slip 5 = .ok (.invokevirtual 91, 3) := by decide +kernel
theorem dX7_slip_8 : decode cX7_slip 8 = .ok (.istore_n 3, 1) := by decide +kernel
theorem dX7_slip_9 : decode cX7_slip 9 = .ok (.iload_n 3, 1) := by decide +kernel
theorem dX7_slip_10 : decode cX7_slip 10 = .ok (.ifCond .ge 5, 3) := by decide +kernel
theorem dX7_slip_13 : decode cX7_slip 13 = .ok (.iconst (-1), 1) := by decide +kernel
theorem dX7_slip_14 : decode cX7_slip 14 = .ok (.ireturn, 1) := by decide +kernel
theorem dX7_slip_15 : decode cX7_slip 15 = .ok (.iload_n 2, 1) := by decide +kernel
theorem dX7_slip_16 : decode cX7_slip 16 = .ok (.iconst 1, 1) := by decide +kernel
theorem dX7_slip_17 : decode cX7_slip 17 = .ok (.if_icmp .lt 9, 3) := by decide +kernel
theorem dX7_slip_20 : decode cX7_slip 20 = .ok (.iload_n 2, 1) := by decide +kernel
theorem dX7_slip_21 : decode cX7_slip 21 = .ok (.bipush 30, 2) := by decide +kernel
theorem dX7_slip_23 : decode cX7_slip 23 = .ok (.if_icmp .le 6, 3) := by decide +kernel
theorem dX7_slip_26 : decode cX7_slip 26 = .ok (.bipush (-2), 2) := by decide +kernel
theorem dX7_slip_28 : decode cX7_slip 28 = .ok (.ireturn, 1) := by decide +kernel
theorem dX7_slip_29 : decode cX7_slip 29 = .ok (.aload_n 0, 1) := by decide +kernel
theorem dX7_slip_30 : decode cX7_slip 30 = .ok (.getfield 39, 3) := by decide +kernel
theorem dX7_slip_33 : decode cX7_slip 33 = .ok (.aload_n 0, 1) := by decide +kernel
theorem dX7_slip_34 : decode cX7_slip 34 = .ok (.getfield 10, 3) := by decide +kernel
theorem dX7_slip_37 : decode cX7_slip 37 = .ok (.invokevirtual 154, 3) := by decide +kernel
theorem dX7_slip_40 : decode cX7_slip 40 = .ok (.aload_n 0, 1) := by decide +kernel
theorem dX7_slip_41 : decode cX7_slip 41 = .ok (.getfield 39, 3) := by decide +kernel
theorem dX7_slip_44 : decode cX7_slip 44 = .ok (.aload_n 0, 1) := by decide +kernel
theorem dX7_slip_45 : decode cX7_slip 45 = .ok (.getfield 10, 3) := by decide +kernel
theorem dX7_slip_48 : decode cX7_slip 48 = .ok (.iload_n 3, 1) := by decide +kernel
theorem dX7_slip_49 : decode cX7_slip 49 = .ok (.iload_n 2, 1) := by decide +kernel
theorem dX7_slip_50 : decode cX7_slip 50 = .ok (.invokevirtual 157, 3) := by decide +kernel
theorem dX7_slip_53 : decode cX7_slip 53 = .ok (.sipush 200, 3) := by decide +kernel
theorem dX7_slip_56 : decode cX7_slip 56 = .ok (.if_icmp .le 6, 3) := by decide +kernel
theorem dX7_slip_59 : decode cX7_slip 59 = .ok (.bipush (-4), 2) := by decide +kernel
theorem dX7_slip_61 : decode cX7_slip 61 = .ok (.ireturn, 1) := by decide +kernel
theorem dX7_slip_62 : decode cX7_slip 62 = .ok (.aload_n 0, 1) := by decide +kernel
theorem dX7_slip_63 : decode cX7_slip 63 = .ok (.getfield 16, 3) := by decide +kernel
theorem dX7_slip_66 : decode cX7_slip 66 = .ok (.aload_n 0, 1) := by decide +kernel
theorem dX7_slip_67 : decode cX7_slip 67 = .ok (.getfield 10, 3) := by decide +kernel
theorem dX7_slip_70 : decode cX7_slip 70 = .ok (.invokevirtual 64, 3) := by decide +kernel
theorem dX7_slip_73 : decode cX7_slip 73 = .ok (.aload_n 0, 1) := by decide +kernel
theorem dX7_slip_74 : decode cX7_slip 74 = .ok (.aload_n 0, 1) := by decide +kernel
theorem dX7_slip_75 : decode cX7_slip 75 = .ok (.getfield 16, 3) := by decide +kernel
theorem dX7_slip_78 : decode cX7_slip 78 = .ok (.aload_n 0, 1) := by decide +kernel
theorem dX7_slip_79 : decode cX7_slip 79 = .ok (.getfield 39, 3) := by decide +kernel
theorem dX7_slip_82 : decode cX7_slip 82 = .ok (.getfield 161, 3) := by decide +kernel
theorem dX7_slip_85 : decode cX7_slip 85 = .ok (.invokevirtual 164, 3) := by decide +kernel
theorem dX7_slip_88 : decode cX7_slip 88 = .ok (.invokevirtual 72, 3) := by decide +kernel
theorem dX7_slip_91 : decode cX7_slip 91 = .ok (.ireturn, 1) := by decide +kernel
theorem dX7_pull_0 : decode cX7_pull 0 = .ok (.aload_n 0, 1) := by decide +kernel
theorem dX7_pull_1 : decode cX7_pull 1 = .ok (.getfield 10, 3) := by decide +kernel
theorem dX7_pull_4 : decode cX7_pull 4 = .ok (.iload_n 1, 1) := by decide +kernel
theorem dX7_pull_5 : decode cX7_pull 5 = .ok (.invokevirtual 91, 3) := by decide +kernel
theorem dX7_pull_8 : decode cX7_pull 8 = .ok (.istore_n 2, 1) := by decide +kernel
theorem dX7_pull_9 : decode cX7_pull 9 = .ok (.iload_n 2, 1) := by decide +kernel
theorem dX7_pull_10 : decode cX7_pull 10 = .ok (.ifCond .ge 5, 3) := by decide +kernel
theorem dX7_pull_13 : decode cX7_pull 13 = .ok (.iconst (-1), 1) := by decide +kernel
theorem dX7_pull_14 : decode cX7_pull 14 = .ok (.ireturn, 1) := by decide +kernel
theorem dX7_pull_15 : decode cX7_pull 15 = .ok (.aload_n 0, 1) := by decide +kernel
theorem dX7_pull_16 : decode cX7_pull 16 = .ok (.getfield 39, 3) := by decide +kernel
theorem dX7_pull_19 : decode cX7_pull 19 = .ok (.aload_n 0, 1) := by decide +kernel
theorem dX7_pull_20 : decode cX7_pull 20 = .ok (.getfield 10, 3) := by decide +kernel
theorem dX7_pull_23 : decode cX7_pull 23 = .ok (.invokevirtual 154, 3) := by decide +kernel
theorem dX7_pull_26 : decode cX7_pull 26 = .ok (.aload_n 0, 1) := by decide +kernel
theorem dX7_pull_27 : decode cX7_pull 27 = .ok (.getfield 39, 3) := by decide +kernel
theorem dX7_pull_30 : decode cX7_pull 30 = .ok (.aload_n 0, 1) := by decide +kernel
theorem dX7_pull_31 : decode cX7_pull 31 = .ok (.getfield 10, 3) := by decide +kernel
theorem dX7_pull_34 : decode cX7_pull 34 = .ok (.iload_n 2, 1) := by decide +kernel
theorem dX7_pull_35 : decode cX7_pull 35 = .ok (.invokevirtual 167, 3) := by decide +kernel
theorem dX7_pull_38 : decode cX7_pull 38 = .ok (.istore_n 3, 1) := by decide +kernel
theorem dX7_pull_39 : decode cX7_pull 39 = .ok (.aload_n 0, 1) := by decide +kernel
theorem dX7_pull_40 : decode cX7_pull 40 = .ok (.getfield 10, 3) := by decide +kernel
theorem dX7_pull_43 : decode cX7_pull 43 = .ok (.getfield 124, 3) := by decide +kernel
theorem dX7_pull_46 : decode cX7_pull 46 = .ok (.iload_n 2, 1) := by decide +kernel
theorem dX7_pull_47 : decode cX7_pull 47 = .ok (.iaload, 1) := by decide +kernel
theorem dX7_pull_48 : decode cX7_pull 48 = .ok (.iload_n 3, 1) := by decide +kernel
theorem dX7_pull_49 : decode cX7_pull 49 = .ok (.isub, 1) := by decide +kernel
theorem dX7_pull_50 : decode cX7_pull 50 = .ok (.istore 4, 2) := by decide +kernel
theorem dX7_pull_52 : decode cX7_pull 52 = .ok (.iload 4, 2) := by decide +kernel
theorem dX7_pull_54 : decode cX7_pull 54 = .ok (.ifCond .ne 6, 3) := by decide +kernel
theorem dX7_pull_57 : decode cX7_pull 57 = .ok (.bipush (-5), 2) := by decide +kernel
theorem dX7_pull_59 : decode cX7_pull 59 = .ok (.ireturn, 1) := by decide +kernel
theorem dX7_pull_60 : decode cX7_pull 60 = .ok (.aload_n 0, 1) := by decide +kernel
theorem dX7_pull_61 : decode cX7_pull 61 = .ok (.getfield 16, 3) := by decide +kernel
theorem dX7_pull_64 : decode cX7_pull 64 = .ok (.aload_n 0, 1) := by decide +kernel
theorem dX7_pull_65 : decode cX7_pull 65 = .ok (.getfield 10, 3) := by decide +kernel
theorem dX7_pull_68 : decode cX7_pull 68 = .ok (.invokevirtual 64, 3) := by decide +kernel
theorem dX7_pull_71 : decode cX7_pull 71 = .ok (.aload_n 0, 1) := by decide +kernel
theorem dX7_pull_72 : decode cX7_pull 72 = .ok (.getfield 16, 3) := by decide +kernel
theorem dX7_pull_75 : decode cX7_pull 75 = .ok (.getfield 124, 3) := by decide +kernel
theorem dX7_pull_78 : decode cX7_pull 78 = .ok (.iload_n 2, 1) := by decide +kernel
theorem dX7_pull_79 : decode cX7_pull 79 = .ok (.iload_n 3, 1) := by decide +kernel
theorem dX7_pull_80 : decode cX7_pull 80 = .ok (.iastore, 1) := by decide +kernel
theorem dX7_pull_81 : decode cX7_pull 81 = .ok (.aload_n 0, 1) := by decide +kernel
theorem dX7_pull_82 : decode cX7_pull 82 = .ok (.iload 4, 2) := by decide +kernel
theorem dX7_pull_84 : decode cX7_pull 84 = .ok (.invokevirtual 72, 3) := by decide +kernel
theorem dX7_pull_87 : decode cX7_pull 87 = .ok (.ireturn, 1) := by decide +kernel
theorem dX7_width_0 : decode cX7_width 0 = .ok (.iload_n 1, 1) := by decide +kernel
theorem dX7_width_1 : decode cX7_width 1 = .ok (.invokestatic 115, 3) := by decide +kernel
theorem dX7_width_4 : decode cX7_width 4 = .ok (.ifCond .eq 26, 3) := by decide +kernel
theorem dX7_width_7 : decode cX7_width 7 = .ok (.iload_n 2, 1) := by decide +kernel
theorem dX7_width_8 : decode cX7_width 8 = .ok (.invokestatic 115, 3) := by decide +kernel
theorem dX7_width_11 : decode cX7_width 11 = .ok (.ifCond .eq 19, 3) := by decide +kernel
theorem dX7_width_14 : decode cX7_width 14 = .ok (.iload_n 2, 1) := by decide +kernel
theorem dX7_width_15 : decode cX7_width 15 = .ok (.iload_n 1, 1) := by decide +kernel
theorem dX7_width_16 : decode cX7_width 16 = .ok (.if_icmp .lt 14, 3) := by decide +kernel
theorem dX7_width_19 : decode cX7_width 19 = .ok (.iload_n 3, 1) := by decide +kernel
theorem dX7_width_20 : decode cX7_width 20 = .ok (.iconst 1, 1) := by decide +kernel
theorem dX7_width_21 : decode cX7_width 21 = .ok (.if_icmp .lt 9, 3) := by decide +kernel
theorem dX7_width_24 : decode cX7_width 24 = .ok (.iload_n 3, 1) := by decide +kernel
theorem dX7_width_25 : decode cX7_width 25 = .ok (.bipush 9, 2) := by decide +kernel
theorem dX7_width_27 : decode cX7_width 27 = .ok (.if_icmp .le 6, 3) := by decide +kernel
theorem dX7_width_30 : decode cX7_width 30 = .ok (.bipush (-2), 2) := by decide +kernel
theorem dX7_width_32 : decode cX7_width 32 = .ok (.ireturn, 1) := by decide +kernel
theorem dX7_width_33 : decode cX7_width 33 = .ok (.aload_n 0, 1) := by decide +kernel
theorem dX7_width_34 : decode cX7_width 34 = .ok (.getfield 16, 3) := by decide +kernel
theorem dX7_width_37 : decode cX7_width 37 = .ok (.aload_n 0, 1) := by decide +kernel
theorem dX7_width_38 : decode cX7_width 38 = .ok (.getfield 10, 3) := by decide +kernel
theorem dX7_width_41 : decode cX7_width 41 = .ok (.invokevirtual 64, 3) := by decide +kernel
theorem dX7_width_44 : decode cX7_width 44 = .ok (.aload_n 0, 1) := by decide +kernel
theorem dX7_width_45 : decode cX7_width 45 = .ok (.getfield 16, 3) := by decide +kernel
theorem dX7_width_48 : decode cX7_width 48 = .ok (.iload_n 1, 1) := by decide +kernel
theorem dX7_width_49 : decode cX7_width 49 = .ok (.iload_n 2, 1) := by decide +kernel
theorem dX7_width_50 : decode cX7_width 50 = .ok (.iload_n 3, 1) := by decide +kernel
theorem dX7_width_51 : decode cX7_width 51 = .ok (.invokevirtual 171, 3) := by decide +kernel
theorem dX7_width_54 : decode cX7_width 54 = .ok (.istore 4, 2) := by decide +kernel
theorem dX7_width_56 : decode cX7_width 56 = .ok (.aload_n 0, 1) := by decide +kernel
theorem dX7_width_57 : decode cX7_width 57 = .ok (.iload 4, 2) := by decide +kernel
theorem dX7_width_59 : decode cX7_width 59 = .ok (.ifCond .ne 8, 3) := by decide +kernel
theorem dX7_width_62 : decode cX7_width 62 = .ok (.bipush (-5), 2) := by decide +kernel
theorem dX7_width_64 : decode cX7_width 64 = .ok (.goto 5, 3) := by decide +kernel
theorem dX7_width_67 : decode cX7_width 67 = .ok (.iload 4, 2) := by decide +kernel
theorem dX7_width_69 : decode cX7_width 69 = .ok (.invokevirtual 72, 3) := by decide +kernel
theorem dX7_width_72 : decode cX7_width 72 = .ok (.ireturn, 1) := by decide +kernel
theorem dX7_set_0 : decode cX7_set 0 = .ok (.iload_n 1, 1) := by decide +kernel
theorem dX7_set_1 : decode cX7_set 1 = .ok (.iload_n 2, 1) := by decide +kernel
theorem dX7_set_2 : decode cX7_set 2 = .ok (.invokestatic 174, 3) := by decide +kernel
theorem dX7_set_5 : decode cX7_set 5 = .ok (.ifCond .ne 6, 3) := by decide +kernel
theorem dX7_set_8 : decode cX7_set 8 = .ok (.bipush (-2), 2) := by decide +kernel
theorem dX7_set_10 : decode cX7_set 10 = .ok (.ireturn, 1) := by decide +kernel
theorem dX7_set_11 : decode cX7_set 11 = .ok (.aload_n 0, 1) := by decide +kernel
theorem dX7_set_12 : decode cX7_set 12 = .ok (.getfield 10, 3) := by decide +kernel
theorem dX7_set_15 : decode cX7_set 15 = .ok (.getfield 178, 3) := by decide +kernel
theorem dX7_set_18 : decode cX7_set 18 = .ok (.iload_n 1, 1) := by decide +kernel
theorem dX7_set_19 : decode cX7_set 19 = .ok (.iaload, 1) := by decide +kernel
theorem dX7_set_20 : decode cX7_set 20 = .ok (.istore_n 3, 1) := by decide +kernel
theorem dX7_set_21 : decode cX7_set 21 = .ok (.iload_n 3, 1) := by decide +kernel
theorem dX7_set_22 : decode cX7_set 22 = .ok (.iload_n 2, 1) := by decide +kernel
theorem dX7_set_23 : decode cX7_set 23 = .ok (.if_icmp .ne 6, 3) := by decide +kernel
theorem dX7_set_26 : decode cX7_set 26 = .ok (.bipush (-5), 2) := by decide +kernel
theorem dX7_set_28 : decode cX7_set 28 = .ok (.ireturn, 1) := by decide +kernel
theorem dX7_set_29 : decode cX7_set 29 = .ok (.aload_n 0, 1) := by decide +kernel
theorem dX7_set_30 : decode cX7_set 30 = .ok (.getfield 16, 3) := by decide +kernel
theorem dX7_set_33 : decode cX7_set 33 = .ok (.aload_n 0, 1) := by decide +kernel
theorem dX7_set_34 : decode cX7_set 34 = .ok (.getfield 10, 3) := by decide +kernel
theorem dX7_set_37 : decode cX7_set 37 = .ok (.invokevirtual 64, 3) := by decide +kernel
theorem dX7_set_40 : decode cX7_set 40 = .ok (.aload_n 0, 1) := by decide +kernel
theorem dX7_set_41 : decode cX7_set 41 = .ok (.getfield 16, 3) := by decide +kernel
theorem dX7_set_44 : decode cX7_set 44 = .ok (.getfield 178, 3) := by decide +kernel
theorem dX7_set_47 : decode cX7_set 47 = .ok (.iload_n 1, 1) := by decide +kernel
theorem dX7_set_48 : decode cX7_set 48 = .ok (.iload_n 2, 1) := by decide +kernel
theorem dX7_set_49 : decode cX7_set 49 = .ok (.iastore, 1) := by decide +kernel
theorem dX7_set_50 : decode cX7_set 50 = .ok (.aload_n 0, 1) := by decide +kernel
theorem dX7_set_51 : decode cX7_set 51 = .ok (.iload_n 3, 1) := by decide +kernel
theorem dX7_set_52 : decode cX7_set 52 = .ok (.invokevirtual 72, 3) := by decide +kernel
theorem dX7_set_55 : decode cX7_set 55 = .ok (.ireturn, 1) := by decide +kernel
theorem dX7_type_0 : decode cX7_type 0 = .ok (.aload_n 0, 1) := by decide +kernel
theorem dX7_type_1 : decode cX7_type 1 = .ok (.getfield 32, 3) := by decide +kernel
theorem dX7_type_4 : decode cX7_type 4 = .ok (.iload_n 1, 1) := by decide +kernel
theorem dX7_type_5 : decode cX7_type 5 = .ok (.invokevirtual 181, 3) := by decide +kernel
theorem dX7_type_8 : decode cX7_type 8 = .ok (.ireturn, 1) := by decide +kernel
theorem dX7_clearText_0 : decode cX7_clearText 0 = .ok (.aload_n 0, 1) := by decide +kernel
theorem dX7_clearText_1 : decode cX7_clearText 1 = .ok (.getfield 32, 3) := by decide +kernel
theorem dX7_clearText_4 : decode cX7_clearText 4 = .ok (.getfield 185, 3) := by decide +kernel
theorem dX7_clearText_7 : decode cX7_clearText 7 = .ok (.istore_n 1, 1) := by decide +kernel
theorem dX7_clearText_8 : decode cX7_clearText 8 = .ok (.aload_n 0, 1) := by decide +kernel
theorem dX7_clearText_9 : decode cX7_clearText 9 = .ok (.getfield 32, 3) := by decide +kernel
theorem dX7_clearText_12 : decode cX7_clearText 12 = .ok (.iconst 0, 1) := by decide +kernel
theorem dX7_clearText_13 : decode cX7_clearText 13 = .ok (.putfield 185, 3) := by decide +kernel
theorem dX7_clearText_16 : decode cX7_clearText 16 = .ok (.iload_n 1, 1) := by decide +kernel
theorem dX7_clearText_17 : decode cX7_clearText 17 = .ok (.ireturn, 1) := by decide +kernel
theorem dX7_fault_0 : decode cX7_fault 0 = .ok (.aload_n 0, 1) := by decide +kernel
theorem dX7_fault_1 : decode cX7_fault 1 = .ok (.getfield 32, 3) := by decide +kernel
theorem dX7_fault_4 : decode cX7_fault 4 = .ok (.invokevirtual 80, 3) := by decide +kernel
theorem dX7_fault_7 : decode cX7_fault 7 = .ok (.ireturn, 1) := by decide +kernel
theorem dX7_undo_0 : decode cX7_undo 0 = .ok (.aload_n 0, 1) := by decide +kernel
theorem dX7_undo_1 : decode cX7_undo 1 = .ok (.getfield 25, 3) := by decide +kernel
theorem dX7_undo_4 : decode cX7_undo 4 = .ok (.aload_n 0, 1) := by decide +kernel
theorem dX7_undo_5 : decode cX7_undo 5 = .ok (.getfield 10, 3) := by decide +kernel
theorem dX7_undo_8 : decode cX7_undo 8 = .ok (.invokevirtual 188, 3) := by decide +kernel
theorem dX7_undo_11 : decode cX7_undo 11 = .ok (.ireturn, 1) := by decide +kernel
theorem dX7_keep_0 : decode cX7_keep 0 = .ok (.aload_n 0, 1) := by decide +kernel
theorem dX7_keep_1 : decode cX7_keep 1 = .ok (.getfield 19, 3) := by decide +kernel
theorem dX7_keep_4 : decode cX7_keep 4 = .ok (.aload_n 0, 1) := by decide +kernel
theorem dX7_keep_5 : decode cX7_keep 5 = .ok (.getfield 10, 3) := by decide +kernel
theorem dX7_keep_8 : decode cX7_keep 8 = .ok (.invokevirtual 64, 3) := by decide +kernel
theorem dX7_keep_11 : decode cX7_keep 11 = .ok (.aload_n 0, 1) := by decide +kernel
theorem dX7_keep_12 : decode cX7_keep 12 = .ok (.iconst 1, 1) := by decide +kernel
theorem dX7_keep_13 : decode cX7_keep 13 = .ok (.putfield 192, 3) := by decide +kernel
theorem dX7_keep_16 : decode cX7_keep 16 = .ok (.aload_n 0, 1) := by decide +kernel
theorem dX7_keep_17 : decode cX7_keep 17 = .ok (.getfield 10, 3) := by decide +kernel
theorem dX7_keep_20 : decode cX7_keep 20 = .ok (.getfield 196, 3) := by decide +kernel
theorem dX7_keep_23 : decode cX7_keep 23 = .ok (.ireturn, 1) := by decide +kernel
theorem dX7_restore_0 : decode cX7_restore 0 = .ok (.aload_n 0, 1) := by decide +kernel
theorem dX7_restore_1 : decode cX7_restore 1 = .ok (.getfield 192, 3) := by decide +kernel
theorem dX7_restore_4 : decode cX7_restore 4 = .ok (.ifCond .ne 6, 3) := by decide +kernel
theorem dX7_restore_7 : decode cX7_restore 7 = .ok (.bipush (-5), 2) := by decide +kernel
theorem dX7_restore_9 : decode cX7_restore 9 = .ok (.ireturn, 1) := by decide +kernel
theorem dX7_restore_10 : decode cX7_restore 10 = .ok (.aload_n 0, 1) := by decide +kernel
theorem dX7_restore_11 : decode cX7_restore 11 = .ok (.getfield 16, 3) := by decide +kernel
theorem dX7_restore_14 : decode cX7_restore 14 = .ok (.aload_n 0, 1) := by decide +kernel
theorem dX7_restore_15 : decode cX7_restore 15 = .ok (.getfield 19, 3) := by decide +kernel
theorem dX7_restore_18 : decode cX7_restore 18 = .ok (.invokevirtual 64, 3) := by decide +kernel
theorem dX7_restore_21 : decode cX7_restore 21 = .ok (.aload_n 0, 1) := by decide +kernel
theorem dX7_restore_22 : decode cX7_restore 22 = .ok (.aload_n 0, 1) := by decide +kernel
theorem dX7_restore_23 : decode cX7_restore 23 = .ok (.getfield 16, 3) := by decide +kernel
theorem dX7_restore_26 : decode cX7_restore 26 = .ok (.getfield 196, 3) := by decide +kernel
theorem dX7_restore_29 : decode cX7_restore 29 = .ok (.invokevirtual 72, 3) := by decide +kernel
theorem dX7_restore_32 : decode cX7_restore 32 = .ok (.ireturn, 1) := by decide +kernel
theorem dX7_barOf_0 : decode cX7_barOf 0 = .ok (.aload_n 0, 1) := by decide +kernel
theorem dX7_barOf_1 : decode cX7_barOf 1 = .ok (.getfield 10, 3) := by decide +kernel
theorem dX7_barOf_4 : decode cX7_barOf 4 = .ok (.iload_n 1, 1) := by decide +kernel
theorem dX7_barOf_5 : decode cX7_barOf 5 = .ok (.invokevirtual 91, 3) := by decide +kernel
theorem dX7_barOf_8 : decode cX7_barOf 8 = .ok (.istore_n 3, 1) := by decide +kernel
theorem dX7_barOf_9 : decode cX7_barOf 9 = .ok (.iload_n 3, 1) := by decide +kernel
theorem dX7_barOf_10 : decode cX7_barOf 10 = .ok (.ifCond .ge 5, 3) := by decide +kernel
theorem dX7_barOf_13 : decode cX7_barOf 13 = .ok (.iconst (-1), 1) := by decide +kernel
theorem dX7_barOf_14 : decode cX7_barOf 14 = .ok (.ireturn, 1) := by decide +kernel
theorem dX7_barOf_15 : decode cX7_barOf 15 = .ok (.iload_n 2, 1) := by decide +kernel
theorem dX7_barOf_16 : decode cX7_barOf 16 = .ok (.tableswitch 233 0 11 #[64, 74, 84, 94, 103, 120, 145, 161, 170, 179, 193, 224], 64) := by decide +kernel
theorem dX7_barOf_80 : decode cX7_barOf 80 = .ok (.aload_n 0, 1) := by decide +kernel
theorem dX7_barOf_81 : decode cX7_barOf 81 = .ok (.getfield 10, 3) := by decide +kernel
theorem dX7_barOf_84 : decode cX7_barOf 84 = .ok (.getfield 121, 3) := by decide +kernel
theorem dX7_barOf_87 : decode cX7_barOf 87 = .ok (.iload_n 3, 1) := by decide +kernel
theorem dX7_barOf_88 : decode cX7_barOf 88 = .ok (.iaload, 1) := by decide +kernel
theorem dX7_barOf_89 : decode cX7_barOf 89 = .ok (.ireturn, 1) := by decide +kernel
theorem dX7_barOf_90 : decode cX7_barOf 90 = .ok (.aload_n 0, 1) := by decide +kernel
theorem dX7_barOf_91 : decode cX7_barOf 91 = .ok (.getfield 10, 3) := by decide +kernel
theorem dX7_barOf_94 : decode cX7_barOf 94 = .ok (.getfield 124, 3) := by decide +kernel
theorem dX7_barOf_97 : decode cX7_barOf 97 = .ok (.iload_n 3, 1) := by decide +kernel
theorem dX7_barOf_98 : decode cX7_barOf 98 = .ok (.iaload, 1) := by decide +kernel
theorem dX7_barOf_99 : decode cX7_barOf 99 = .ok (.ireturn, 1) := by decide +kernel
theorem dX7_barOf_100 : decode cX7_barOf 100 = .ok (.aload_n 0, 1) := by decide +kernel
theorem dX7_barOf_101 : decode cX7_barOf 101 = .ok (.getfield 10, 3) := by decide +kernel
theorem dX7_barOf_104 : decode cX7_barOf 104 = .ok (.getfield 118, 3) := by decide +kernel
theorem dX7_barOf_107 : decode cX7_barOf 107 = .ok (.iload_n 3, 1) := by decide +kernel
theorem dX7_barOf_108 : decode cX7_barOf 108 = .ok (.iaload, 1) := by decide +kernel
theorem dX7_barOf_109 : decode cX7_barOf 109 = .ok (.ireturn, 1) := by decide +kernel
theorem dX7_barOf_110 : decode cX7_barOf 110 = .ok (.aload_n 0, 1) := by decide +kernel
theorem dX7_barOf_111 : decode cX7_barOf 111 = .ok (.getfield 10, 3) := by decide +kernel
theorem dX7_barOf_114 : decode cX7_barOf 114 = .ok (.iload_n 3, 1) := by decide +kernel
theorem dX7_barOf_115 : decode cX7_barOf 115 = .ok (.invokevirtual 199, 3) := by decide +kernel
theorem dX7_barOf_118 : decode cX7_barOf 118 = .ok (.ireturn, 1) := by decide +kernel
theorem dX7_barOf_119 : decode cX7_barOf 119 = .ok (.aload_n 0, 1) := by decide +kernel
theorem dX7_barOf_120 : decode cX7_barOf 120 = .ok (.getfield 10, 3) := by decide +kernel
theorem dX7_barOf_123 : decode cX7_barOf 123 = .ok (.aload_n 0, 1) := by decide +kernel
theorem dX7_barOf_124 : decode cX7_barOf 124 = .ok (.getfield 10, 3) := by decide +kernel
theorem dX7_barOf_127 : decode cX7_barOf 127 = .ok (.getfield 124, 3) := by decide +kernel
theorem dX7_barOf_130 : decode cX7_barOf 130 = .ok (.iload_n 3, 1) := by decide +kernel
theorem dX7_barOf_131 : decode cX7_barOf 131 = .ok (.iaload, 1) := by decide +kernel
theorem dX7_barOf_132 : decode cX7_barOf 132 = .ok (.invokevirtual 202, 3) := by decide +kernel
theorem dX7_barOf_135 : decode cX7_barOf 135 = .ok (.ireturn, 1) := by decide +kernel
theorem dX7_barOf_136 : decode cX7_barOf 136 = .ok (.aload_n 0, 1) := by decide +kernel
theorem dX7_barOf_137 : decode cX7_barOf 137 = .ok (.getfield 10, 3) := by decide +kernel
theorem dX7_barOf_140 : decode cX7_barOf 140 = .ok (.aload_n 0, 1) := by decide +kernel
theorem dX7_barOf_141 : decode cX7_barOf 141 = .ok (.getfield 10, 3) := by decide +kernel
theorem dX7_barOf_144 : decode cX7_barOf 144 = .ok (.getfield 124, 3) := by decide +kernel
theorem dX7_barOf_147 : decode cX7_barOf 147 = .ok (.iload_n 3, 1) := by decide +kernel
theorem dX7_barOf_148 : decode cX7_barOf 148 = .ok (.iaload, 1) := by decide +kernel
theorem dX7_barOf_149 : decode cX7_barOf 149 = .ok (.aload_n 0, 1) := by decide +kernel
theorem dX7_barOf_150 : decode cX7_barOf 150 = .ok (.getfield 10, 3) := by decide +kernel
theorem dX7_barOf_153 : decode cX7_barOf 153 = .ok (.iload_n 3, 1) := by decide +kernel
theorem dX7_barOf_154 : decode cX7_barOf 154 = .ok (.invokevirtual 199, 3) := by decide +kernel
theorem dX7_barOf_157 : decode cX7_barOf 157 = .ok (.invokevirtual 205, 3) := by decide +kernel
theorem dX7_barOf_160 : decode cX7_barOf 160 = .ok (.ireturn, 1) := by decide +kernel
theorem dX7_barOf_161 : decode cX7_barOf 161 = .ok (.aload_n 0, 1) := by decide +kernel
theorem dX7_barOf_162 : decode cX7_barOf 162 = .ok (.iload_n 3, 1) := by decide +kernel
theorem dX7_barOf_163 : decode cX7_barOf 163 = .ok (.invokevirtual 208, 3) := by decide +kernel
theorem dX7_barOf_166 : decode cX7_barOf 166 = .ok (.aload_n 0, 1) := by decide +kernel
theorem dX7_barOf_167 : decode cX7_barOf 167 = .ok (.getfield 10, 3) := by decide +kernel
theorem dX7_barOf_170 : decode cX7_barOf 170 = .ok (.getfield 124, 3) := by decide +kernel
theorem dX7_barOf_173 : decode cX7_barOf 173 = .ok (.iload_n 3, 1) := by decide +kernel
theorem dX7_barOf_174 : decode cX7_barOf 174 = .ok (.iaload, 1) := by decide +kernel
theorem dX7_barOf_175 : decode cX7_barOf 175 = .ok (.isub, 1) := by decide +kernel
theorem dX7_barOf_176 : decode cX7_barOf 176 = .ok (.ireturn, 1) := by decide +kernel
theorem dX7_barOf_177 : decode cX7_barOf 177 = .ok (.aload_n 0, 1) := by decide +kernel
theorem dX7_barOf_178 : decode cX7_barOf 178 = .ok (.getfield 10, 3) := by decide +kernel
theorem dX7_barOf_181 : decode cX7_barOf 181 = .ok (.iload_n 3, 1) := by decide +kernel
theorem dX7_barOf_182 : decode cX7_barOf 182 = .ok (.invokevirtual 211, 3) := by decide +kernel
theorem dX7_barOf_185 : decode cX7_barOf 185 = .ok (.ireturn, 1) := by decide +kernel
theorem dX7_barOf_186 : decode cX7_barOf 186 = .ok (.aload_n 0, 1) := by decide +kernel
theorem dX7_barOf_187 : decode cX7_barOf 187 = .ok (.getfield 10, 3) := by decide +kernel
theorem dX7_barOf_190 : decode cX7_barOf 190 = .ok (.iload_n 3, 1) := by decide +kernel
theorem dX7_barOf_191 : decode cX7_barOf 191 = .ok (.invokevirtual 214, 3) := by decide +kernel
theorem dX7_barOf_194 : decode cX7_barOf 194 = .ok (.ireturn, 1) := by decide +kernel
theorem dX7_barOf_195 : decode cX7_barOf 195 = .ok (.aload_n 0, 1) := by decide +kernel
theorem dX7_barOf_196 : decode cX7_barOf 196 = .ok (.aload_n 0, 1) := by decide +kernel
theorem dX7_barOf_197 : decode cX7_barOf 197 = .ok (.getfield 10, 3) := by decide +kernel
theorem dX7_barOf_200 : decode cX7_barOf 200 = .ok (.getfield 124, 3) := by decide +kernel
theorem dX7_barOf_203 : decode cX7_barOf 203 = .ok (.iload_n 3, 1) := by decide +kernel
theorem dX7_barOf_204 : decode cX7_barOf 204 = .ok (.iaload, 1) := by decide +kernel
theorem dX7_barOf_205 : decode cX7_barOf 205 = .ok (.invokevirtual 217, 3) := by decide +kernel
theorem dX7_barOf_208 : decode cX7_barOf 208 = .ok (.ireturn, 1) := by decide +kernel
theorem dX7_barOf_209 : decode cX7_barOf 209 = .ok (.aload_n 0, 1) := by decide +kernel
theorem dX7_barOf_210 : decode cX7_barOf 210 = .ok (.aload_n 0, 1) := by decide +kernel
theorem dX7_barOf_211 : decode cX7_barOf 211 = .ok (.getfield 10, 3) := by decide +kernel
theorem dX7_barOf_214 : decode cX7_barOf 214 = .ok (.iload_n 3, 1) := by decide +kernel
theorem dX7_barOf_215 : decode cX7_barOf 215 = .ok (.invokevirtual 199, 3) := by decide +kernel
theorem dX7_barOf_218 : decode cX7_barOf 218 = .ok (.iconst 1, 1) := by decide +kernel
theorem dX7_barOf_219 : decode cX7_barOf 219 = .ok (.isub, 1) := by decide +kernel
theorem dX7_barOf_220 : decode cX7_barOf 220 = .ok (.invokevirtual 217, 3) := by decide +kernel
theorem dX7_barOf_223 : decode cX7_barOf 223 = .ok (.aload_n 0, 1) := by decide +kernel
theorem dX7_barOf_224 : decode cX7_barOf 224 = .ok (.aload_n 0, 1) := by decide +kernel
theorem dX7_barOf_225 : decode cX7_barOf 225 = .ok (.getfield 10, 3) := by decide +kernel
theorem dX7_barOf_228 : decode cX7_barOf 228 = .ok (.getfield 124, 3) := by decide +kernel
theorem dX7_barOf_231 : decode cX7_barOf 231 = .ok (.iload_n 3, 1) := by decide +kernel
theorem dX7_barOf_232 : decode cX7_barOf 232 = .ok (.iaload, 1) := by decide +kernel
theorem dX7_barOf_233 : decode cX7_barOf 233 = .ok (.invokevirtual 217, 3) := by decide +kernel
theorem dX7_barOf_236 : decode cX7_barOf 236 = .ok (.isub, 1) := by decide +kernel
theorem dX7_barOf_237 : decode cX7_barOf 237 = .ok (.iconst 1, 1) := by decide +kernel
theorem dX7_barOf_238 : decode cX7_barOf 238 = .ok (.iadd, 1) := by decide +kernel
theorem dX7_barOf_239 : decode cX7_barOf 239 = .ok (.ireturn, 1) := by decide +kernel
theorem dX7_barOf_240 : decode cX7_barOf 240 = .ok (.aload_n 0, 1) := by decide +kernel
theorem dX7_barOf_241 : decode cX7_barOf 241 = .ok (.getfield 10, 3) := by decide +kernel
theorem dX7_barOf_244 : decode cX7_barOf 244 = .ok (.iload_n 3, 1) := by decide +kernel
theorem dX7_barOf_245 : decode cX7_barOf 245 = .ok (.invokevirtual 220, 3) := by decide +kernel
theorem dX7_barOf_248 : decode cX7_barOf 248 = .ok (.ireturn, 1) := by decide +kernel
theorem dX7_barOf_249 : decode cX7_barOf 249 = .ok (.bipush (-2), 2) := by decide +kernel
theorem dX7_barOf_251 : decode cX7_barOf 251 = .ok (.ireturn, 1) := by decide +kernel
theorem dX7_arrowOf_0 : decode cX7_arrowOf 0 = .ok (.aload_n 0, 1) := by decide +kernel
theorem dX7_arrowOf_1 : decode cX7_arrowOf 1 = .ok (.getfield 10, 3) := by decide +kernel
theorem dX7_arrowOf_4 : decode cX7_arrowOf 4 = .ok (.iload_n 1, 1) := by decide +kernel
theorem dX7_arrowOf_5 : decode cX7_arrowOf 5 = .ok (.invokevirtual 97, 3) := by decide +kernel
theorem dX7_arrowOf_8 : decode cX7_arrowOf 8 = .ok (.istore_n 3, 1) := by decide +kernel
theorem dX7_arrowOf_9 : decode cX7_arrowOf 9 = .ok (.iload_n 3, 1) := by decide +kernel
theorem dX7_arrowOf_10 : decode cX7_arrowOf 10 = .ok (.ifCond .ge 5, 3) := by decide +kernel
theorem dX7_arrowOf_13 : decode cX7_arrowOf 13 = .ok (.iconst (-1), 1) := by decide +kernel
theorem dX7_arrowOf_14 : decode cX7_arrowOf 14 = .ok (.ireturn, 1) := by decide +kernel
theorem dX7_arrowOf_15 : decode cX7_arrowOf 15 = .ok (.aload_n 0, 1) := by decide +kernel
theorem dX7_arrowOf_16 : decode cX7_arrowOf 16 = .ok (.getfield 46, 3) := by decide +kernel
theorem dX7_arrowOf_19 : decode cX7_arrowOf 19 = .ok (.aload_n 0, 1) := by decide +kernel
theorem dX7_arrowOf_20 : decode cX7_arrowOf 20 = .ok (.getfield 10, 3) := by decide +kernel
theorem dX7_arrowOf_23 : decode cX7_arrowOf 23 = .ok (.invokevirtual 131, 3) := by decide +kernel
theorem dX7_arrowOf_26 : decode cX7_arrowOf 26 = .ok (.aload_n 0, 1) := by decide +kernel
theorem dX7_arrowOf_27 : decode cX7_arrowOf 27 = .ok (.getfield 46, 3) := by decide +kernel
theorem dX7_arrowOf_30 : decode cX7_arrowOf 30 = .ok (.getfield 223, 3) := by decide +kernel
theorem dX7_arrowOf_33 : decode cX7_arrowOf 33 = .ok (.iload_n 3, 1) := by decide +kernel
theorem dX7_arrowOf_34 : decode cX7_arrowOf 34 = .ok (.iaload, 1) := by decide +kernel
theorem dX7_arrowOf_35 : decode cX7_arrowOf 35 = .ok (.bipush (-5), 2) := by decide +kernel
theorem dX7_arrowOf_37 : decode cX7_arrowOf 37 = .ok (.if_icmp .eq 7, 3) := by decide +kernel
theorem dX7_arrowOf_40 : decode cX7_arrowOf 40 = .ok (.iconst 1, 1) := by decide +kernel
theorem dX7_arrowOf_41 : decode cX7_arrowOf 41 = .ok (.goto 4, 3) := by decide +kernel
theorem dX7_arrowOf_44 : decode cX7_arrowOf 44 = .ok (.iconst 0, 1) := by decide +kernel
theorem dX7_arrowOf_45 : decode cX7_arrowOf 45 = .ok (.istore 4, 2) := by decide +kernel
theorem dX7_arrowOf_47 : decode cX7_arrowOf 47 = .ok (.aload_n 0, 1) := by decide +kernel
theorem dX7_arrowOf_48 : decode cX7_arrowOf 48 = .ok (.getfield 10, 3) := by decide +kernel
theorem dX7_arrowOf_51 : decode cX7_arrowOf 51 = .ok (.aload_n 0, 1) := by decide +kernel
theorem dX7_arrowOf_52 : decode cX7_arrowOf 52 = .ok (.getfield 10, 3) := by decide +kernel
theorem dX7_arrowOf_55 : decode cX7_arrowOf 55 = .ok (.getfield 226, 3) := by decide +kernel
theorem dX7_arrowOf_58 : decode cX7_arrowOf 58 = .ok (.iload_n 3, 1) := by decide +kernel
theorem dX7_arrowOf_59 : decode cX7_arrowOf 59 = .ok (.iaload, 1) := by decide +kernel
theorem dX7_arrowOf_60 : decode cX7_arrowOf 60 = .ok (.invokevirtual 199, 3) := by decide +kernel
theorem dX7_arrowOf_63 : decode cX7_arrowOf 63 = .ok (.istore 5, 2) := by decide +kernel
theorem dX7_arrowOf_65 : decode cX7_arrowOf 65 = .ok (.aload_n 0, 1) := by decide +kernel
theorem dX7_arrowOf_66 : decode cX7_arrowOf 66 = .ok (.getfield 10, 3) := by decide +kernel
theorem dX7_arrowOf_69 : decode cX7_arrowOf 69 = .ok (.getfield 124, 3) := by decide +kernel
theorem dX7_arrowOf_72 : decode cX7_arrowOf 72 = .ok (.aload_n 0, 1) := by decide +kernel
theorem dX7_arrowOf_73 : decode cX7_arrowOf 73 = .ok (.getfield 10, 3) := by decide +kernel
theorem dX7_arrowOf_76 : decode cX7_arrowOf 76 = .ok (.getfield 104, 3) := by decide +kernel
theorem dX7_arrowOf_79 : decode cX7_arrowOf 79 = .ok (.iload_n 3, 1) := by decide +kernel
theorem dX7_arrowOf_80 : decode cX7_arrowOf 80 = .ok (.iaload, 1) := by decide +kernel
theorem dX7_arrowOf_81 : decode cX7_arrowOf 81 = .ok (.iaload, 1) := by decide +kernel
theorem dX7_arrowOf_82 : decode cX7_arrowOf 82 = .ok (.istore 6, 2) := by decide +kernel
theorem dX7_arrowOf_84 : decode cX7_arrowOf 84 = .ok (.iload_n 2, 1) := by decide +kernel
theorem dX7_arrowOf_85 : decode cX7_arrowOf 85 = .ok (.tableswitch 176 0 7 #[47, 65, 83, 93, 102, 115, 137, 150], 47) := by decide +kernel
theorem dX7_arrowOf_132 : decode cX7_arrowOf 132 = .ok (.aload_n 0, 1) := by decide +kernel
theorem dX7_arrowOf_133 : decode cX7_arrowOf 133 = .ok (.getfield 10, 3) := by decide +kernel
theorem dX7_arrowOf_136 : decode cX7_arrowOf 136 = .ok (.getfield 100, 3) := by decide +kernel
theorem dX7_arrowOf_139 : decode cX7_arrowOf 139 = .ok (.aload_n 0, 1) := by decide +kernel
theorem dX7_arrowOf_140 : decode cX7_arrowOf 140 = .ok (.getfield 10, 3) := by decide +kernel
theorem dX7_arrowOf_143 : decode cX7_arrowOf 143 = .ok (.getfield 226, 3) := by decide +kernel
theorem dX7_arrowOf_146 : decode cX7_arrowOf 146 = .ok (.iload_n 3, 1) := by decide +kernel
theorem dX7_arrowOf_147 : decode cX7_arrowOf 147 = .ok (.iaload, 1) := by decide +kernel
theorem dX7_arrowOf_148 : decode cX7_arrowOf 148 = .ok (.iaload, 1) := by decide +kernel
theorem dX7_arrowOf_149 : decode cX7_arrowOf 149 = .ok (.ireturn, 1) := by decide +kernel
theorem dX7_arrowOf_150 : decode cX7_arrowOf 150 = .ok (.aload_n 0, 1) := by decide +kernel
theorem dX7_arrowOf_151 : decode cX7_arrowOf 151 = .ok (.getfield 10, 3) := by decide +kernel
theorem dX7_arrowOf_154 : decode cX7_arrowOf 154 = .ok (.getfield 100, 3) := by decide +kernel
theorem dX7_arrowOf_157 : decode cX7_arrowOf 157 = .ok (.aload_n 0, 1) := by decide +kernel
theorem dX7_arrowOf_158 : decode cX7_arrowOf 158 = .ok (.getfield 10, 3) := by decide +kernel
theorem dX7_arrowOf_161 : decode cX7_arrowOf 161 = .ok (.getfield 104, 3) := by decide +kernel
theorem dX7_arrowOf_164 : decode cX7_arrowOf 164 = .ok (.iload_n 3, 1) := by decide +kernel
theorem dX7_arrowOf_165 : decode cX7_arrowOf 165 = .ok (.iaload, 1) := by decide +kernel
theorem dX7_arrowOf_166 : decode cX7_arrowOf 166 = .ok (.iaload, 1) := by decide +kernel
theorem dX7_arrowOf_167 : decode cX7_arrowOf 167 = .ok (.ireturn, 1) := by decide +kernel
theorem dX7_arrowOf_168 : decode cX7_arrowOf 168 = .ok (.aload_n 0, 1) := by decide +kernel
theorem dX7_arrowOf_169 : decode cX7_arrowOf 169 = .ok (.getfield 46, 3) := by decide +kernel
theorem dX7_arrowOf_172 : decode cX7_arrowOf 172 = .ok (.getfield 223, 3) := by decide +kernel
theorem dX7_arrowOf_175 : decode cX7_arrowOf 175 = .ok (.iload_n 3, 1) := by decide +kernel
theorem dX7_arrowOf_176 : decode cX7_arrowOf 176 = .ok (.iaload, 1) := by decide +kernel
theorem dX7_arrowOf_177 : decode cX7_arrowOf 177 = .ok (.ireturn, 1) := by decide +kernel
theorem dX7_arrowOf_178 : decode cX7_arrowOf 178 = .ok (.aload_n 0, 1) := by decide +kernel
theorem dX7_arrowOf_179 : decode cX7_arrowOf 179 = .ok (.getfield 10, 3) := by decide +kernel
theorem dX7_arrowOf_182 : decode cX7_arrowOf 182 = .ok (.iload_n 3, 1) := by decide +kernel
theorem dX7_arrowOf_183 : decode cX7_arrowOf 183 = .ok (.invokevirtual 229, 3) := by decide +kernel
theorem dX7_arrowOf_186 : decode cX7_arrowOf 186 = .ok (.ireturn, 1) := by decide +kernel
theorem dX7_arrowOf_187 : decode cX7_arrowOf 187 = .ok (.aload_n 0, 1) := by decide +kernel
theorem dX7_arrowOf_188 : decode cX7_arrowOf 188 = .ok (.getfield 46, 3) := by decide +kernel
theorem dX7_arrowOf_191 : decode cX7_arrowOf 191 = .ok (.aload_n 0, 1) := by decide +kernel
theorem dX7_arrowOf_192 : decode cX7_arrowOf 192 = .ok (.getfield 10, 3) := by decide +kernel
theorem dX7_arrowOf_195 : decode cX7_arrowOf 195 = .ok (.iload_n 3, 1) := by decide +kernel
theorem dX7_arrowOf_196 : decode cX7_arrowOf 196 = .ok (.invokevirtual 232, 3) := by decide +kernel
theorem dX7_arrowOf_199 : decode cX7_arrowOf 199 = .ok (.ireturn, 1) := by decide +kernel
theorem dX7_arrowOf_200 : decode cX7_arrowOf 200 = .ok (.iload 4, 2) := by decide +kernel
theorem dX7_arrowOf_202 : decode cX7_arrowOf 202 = .ok (.ifCond .eq 17, 3) := by decide +kernel
theorem dX7_arrowOf_205 : decode cX7_arrowOf 205 = .ok (.aload_n 0, 1) := by decide +kernel
theorem dX7_arrowOf_206 : decode cX7_arrowOf 206 = .ok (.getfield 10, 3) := by decide +kernel
theorem dX7_arrowOf_209 : decode cX7_arrowOf 209 = .ok (.iload 5, 2) := by decide +kernel
theorem dX7_arrowOf_211 : decode cX7_arrowOf 211 = .ok (.iload 6, 2) := by decide +kernel
theorem dX7_arrowOf_213 : decode cX7_arrowOf 213 = .ok (.invokevirtual 205, 3) := by decide +kernel
theorem dX7_arrowOf_216 : decode cX7_arrowOf 216 = .ok (.goto 5, 3) := by decide +kernel
theorem dX7_arrowOf_219 : decode cX7_arrowOf 219 = .ok (.bipush (-5), 2) := by decide +kernel
theorem dX7_arrowOf_221 : decode cX7_arrowOf 221 = .ok (.ireturn, 1) := by decide +kernel
theorem dX7_arrowOf_222 : decode cX7_arrowOf 222 = .ok (.aload_n 0, 1) := by decide +kernel
theorem dX7_arrowOf_223 : decode cX7_arrowOf 223 = .ok (.getfield 46, 3) := by decide +kernel
theorem dX7_arrowOf_226 : decode cX7_arrowOf 226 = .ok (.aload_n 0, 1) := by decide +kernel
theorem dX7_arrowOf_227 : decode cX7_arrowOf 227 = .ok (.getfield 10, 3) := by decide +kernel
theorem dX7_arrowOf_230 : decode cX7_arrowOf 230 = .ok (.iload_n 3, 1) := by decide +kernel
theorem dX7_arrowOf_231 : decode cX7_arrowOf 231 = .ok (.invokevirtual 235, 3) := by decide +kernel
theorem dX7_arrowOf_234 : decode cX7_arrowOf 234 = .ok (.ireturn, 1) := by decide +kernel
theorem dX7_arrowOf_235 : decode cX7_arrowOf 235 = .ok (.iload 4, 2) := by decide +kernel
theorem dX7_arrowOf_237 : decode cX7_arrowOf 237 = .ok (.ifCond .eq 21, 3) := by decide +kernel
theorem dX7_arrowOf_240 : decode cX7_arrowOf 240 = .ok (.aload_n 0, 1) := by decide +kernel
theorem dX7_arrowOf_241 : decode cX7_arrowOf 241 = .ok (.iload 6, 2) := by decide +kernel
theorem dX7_arrowOf_243 : decode cX7_arrowOf 243 = .ok (.invokevirtual 217, 3) := by decide +kernel
theorem dX7_arrowOf_246 : decode cX7_arrowOf 246 = .ok (.aload_n 0, 1) := by decide +kernel
theorem dX7_arrowOf_247 : decode cX7_arrowOf 247 = .ok (.iload 5, 2) := by decide +kernel
theorem dX7_arrowOf_249 : decode cX7_arrowOf 249 = .ok (.iconst 1, 1) := by decide +kernel
theorem dX7_arrowOf_250 : decode cX7_arrowOf 250 = .ok (.isub, 1) := by decide +kernel
theorem dX7_arrowOf_251 : decode cX7_arrowOf 251 = .ok (.invokevirtual 217, 3) := by decide +kernel
theorem dX7_arrowOf_254 : decode cX7_arrowOf 254 = .ok (.isub, 1) := by decide +kernel
theorem dX7_arrowOf_255 : decode cX7_arrowOf 255 = .ok (.goto 5, 3) := by decide +kernel
theorem dX7_arrowOf_258 : decode cX7_arrowOf 258 = .ok (.bipush (-5), 2) := by decide +kernel
theorem dX7_arrowOf_260 : decode cX7_arrowOf 260 = .ok (.ireturn, 1) := by decide +kernel
theorem dX7_arrowOf_261 : decode cX7_arrowOf 261 = .ok (.bipush (-2), 2) := by decide +kernel
theorem dX7_arrowOf_263 : decode cX7_arrowOf 263 = .ok (.ireturn, 1) := by decide +kernel
theorem dX7_reason_0 : decode cX7_reason 0 = .ok (.aload_n 0, 1) := by decide +kernel
theorem dX7_reason_1 : decode cX7_reason 1 = .ok (.getfield 10, 3) := by decide +kernel
theorem dX7_reason_4 : decode cX7_reason 4 = .ok (.iload_n 1, 1) := by decide +kernel
theorem dX7_reason_5 : decode cX7_reason 5 = .ok (.invokevirtual 97, 3) := by decide +kernel
theorem dX7_reason_8 : decode cX7_reason 8 = .ok (.istore_n 3, 1) := by decide +kernel
theorem dX7_reason_9 : decode cX7_reason 9 = .ok (.iload_n 3, 1) := by decide +kernel
theorem dX7_reason_10 : decode cX7_reason 10 = .ok (.ifCond .ge 7, 3) := by decide +kernel
theorem dX7_reason_13 : decode cX7_reason 13 = .ok (.iconst (-1), 1) := by decide +kernel
theorem dX7_reason_14 : decode cX7_reason 14 = .ok (.goto 16, 3) := by decide +kernel
theorem dX7_reason_17 : decode cX7_reason 17 = .ok (.aload_n 0, 1) := by decide +kernel
theorem dX7_reason_18 : decode cX7_reason 18 = .ok (.getfield 46, 3) := by decide +kernel
theorem dX7_reason_21 : decode cX7_reason 21 = .ok (.aload_n 0, 1) := by decide +kernel
theorem dX7_reason_22 : decode cX7_reason 22 = .ok (.getfield 10, 3) := by decide +kernel
theorem dX7_reason_25 : decode cX7_reason 25 = .ok (.iload_n 3, 1) := by decide +kernel
theorem dX7_reason_26 : decode cX7_reason 26 = .ok (.iload_n 2, 1) := by decide +kernel
theorem dX7_reason_27 : decode cX7_reason 27 = .ok (.invokevirtual 238, 3) := by decide +kernel
theorem dX7_reason_30 : decode cX7_reason 30 = .ok (.ireturn, 1) := by decide +kernel
theorem dX7_cell_0 : decode cX7_cell 0 = .ok (.iload_n 1, 1) := by decide +kernel
theorem dX7_cell_1 : decode cX7_cell 1 = .ok (.invokestatic 111, 3) := by decide +kernel
theorem dX7_cell_4 : decode cX7_cell 4 = .ok (.ifCond .eq 22, 3) := by decide +kernel
theorem dX7_cell_7 : decode cX7_cell 7 = .ok (.iload_n 2, 1) := by decide +kernel
theorem dX7_cell_8 : decode cX7_cell 8 = .ok (.invokestatic 115, 3) := by decide +kernel
theorem dX7_cell_11 : decode cX7_cell 11 = .ok (.ifCond .eq 15, 3) := by decide +kernel
theorem dX7_cell_14 : decode cX7_cell 14 = .ok (.aload_n 0, 1) := by decide +kernel
theorem dX7_cell_15 : decode cX7_cell 15 = .ok (.getfield 10, 3) := by decide +kernel
theorem dX7_cell_18 : decode cX7_cell 18 = .ok (.iload_n 1, 1) := by decide +kernel
theorem dX7_cell_19 : decode cX7_cell 19 = .ok (.iload_n 2, 1) := by decide +kernel
theorem dX7_cell_20 : decode cX7_cell 20 = .ok (.invokevirtual 241, 3) := by decide +kernel
theorem dX7_cell_23 : decode cX7_cell 23 = .ok (.goto 4, 3) := by decide +kernel
theorem dX7_cell_26 : decode cX7_cell 26 = .ok (.iconst (-1), 1) := by decide +kernel
theorem dX7_cell_27 : decode cX7_cell 27 = .ok (.ireturn, 1) := by decide +kernel
theorem dX7_strip_0 : decode cX7_strip 0 = .ok (.iload_n 1, 1) := by decide +kernel
theorem dX7_strip_1 : decode cX7_strip 1 = .ok (.ifCond .lt 12, 3) := by decide +kernel
theorem dX7_strip_4 : decode cX7_strip 4 = .ok (.iload_n 2, 1) := by decide +kernel
theorem dX7_strip_5 : decode cX7_strip 5 = .ok (.ifCond .lt 8, 3) := by decide +kernel
theorem dX7_strip_8 : decode cX7_strip 8 = .ok (.iload_n 2, 1) := by decide +kernel
theorem dX7_strip_9 : decode cX7_strip 9 = .ok (.iconst 4, 1) := by decide +kernel
theorem dX7_strip_10 : decode cX7_strip 10 = .ok (.if_icmp .le 6, 3) := by decide +kernel
theorem dX7_strip_13 : decode cX7_strip 13 = .ok (.bipush (-2), 2) := by decide +kernel
theorem dX7_strip_15 : decode cX7_strip 15 = .ok (.ireturn, 1) := by decide +kernel
theorem dX7_strip_16 : decode cX7_strip 16 = .ok (.aload_n 0, 1) := by decide +kernel
theorem dX7_strip_17 : decode cX7_strip 17 = .ok (.getfield 53, 3) := by decide +kernel
theorem dX7_strip_20 : decode cX7_strip 20 = .ok (.aload_n 0, 1) := by decide +kernel
theorem dX7_strip_21 : decode cX7_strip 21 = .ok (.getfield 10, 3) := by decide +kernel
theorem dX7_strip_24 : decode cX7_strip 24 = .ok (.invokevirtual 244, 3) := by decide +kernel
theorem dX7_strip_27 : decode cX7_strip 27 = .ok (.iload_n 1, 1) := by decide +kernel
theorem dX7_strip_28 : decode cX7_strip 28 = .ok (.aload_n 0, 1) := by decide +kernel
theorem dX7_strip_29 : decode cX7_strip 29 = .ok (.getfield 53, 3) := by decide +kernel
theorem dX7_strip_32 : decode cX7_strip 32 = .ok (.getfield 247, 3) := by decide +kernel
theorem dX7_strip_35 : decode cX7_strip 35 = .ok (.if_icmp .lt 6, 3) := by decide +kernel
theorem dX7_strip_38 : decode cX7_strip 38 = .ok (.bipush (-5), 2) := by decide +kernel
theorem dX7_strip_40 : decode cX7_strip 40 = .ok (.ireturn, 1) := by decide +kernel
theorem dX7_strip_41 : decode cX7_strip 41 = .ok (.aload_n 0, 1) := by decide +kernel
theorem dX7_strip_42 : decode cX7_strip 42 = .ok (.getfield 53, 3) := by decide +kernel
theorem dX7_strip_45 : decode cX7_strip 45 = .ok (.getfield 250, 3) := by decide +kernel
theorem dX7_strip_48 : decode cX7_strip 48 = .ok (.iload_n 1, 1) := by decide +kernel
theorem dX7_strip_49 : decode cX7_strip 49 = .ok (.iaload, 1) := by decide +kernel
theorem dX7_strip_50 : decode cX7_strip 50 = .ok (.istore_n 3, 1) := by decide +kernel
theorem dX7_strip_51 : decode cX7_strip 51 = .ok (.aload_n 0, 1) := by decide +kernel
theorem dX7_strip_52 : decode cX7_strip 52 = .ok (.getfield 53, 3) := by decide +kernel
theorem dX7_strip_55 : decode cX7_strip 55 = .ok (.getfield 250, 3) := by decide +kernel
theorem dX7_strip_58 : decode cX7_strip 58 = .ok (.iload_n 1, 1) := by decide +kernel
theorem dX7_strip_59 : decode cX7_strip 59 = .ok (.iconst 1, 1) := by decide +kernel
theorem dX7_strip_60 : decode cX7_strip 60 = .ok (.iadd, 1) := by decide +kernel
theorem dX7_strip_61 : decode cX7_strip 61 = .ok (.iaload, 1) := by decide +kernel
theorem dX7_strip_62 : decode cX7_strip 62 = .ok (.istore 4, 2) := by decide +kernel
theorem dX7_strip_64 : decode cX7_strip 64 = .ok (.iload_n 2, 1) := by decide +kernel
theorem dX7_strip_65 : decode cX7_strip 65 = .ok (.tableswitch 60 0 3 #[31, 33, 38, 49], 31) := by decide +kernel
theorem dX7_strip_96 : decode cX7_strip 96 = .ok (.iload_n 3, 1) := by decide +kernel
theorem dX7_strip_97 : decode cX7_strip 97 = .ok (.ireturn, 1) := by decide +kernel
theorem dX7_strip_98 : decode cX7_strip 98 = .ok (.iload 4, 2) := by decide +kernel
theorem dX7_strip_100 : decode cX7_strip 100 = .ok (.iload_n 3, 1) := by decide +kernel
theorem dX7_strip_101 : decode cX7_strip 101 = .ok (.isub, 1) := by decide +kernel
theorem dX7_strip_102 : decode cX7_strip 102 = .ok (.ireturn, 1) := by decide +kernel
theorem dX7_strip_103 : decode cX7_strip 103 = .ok (.aload_n 0, 1) := by decide +kernel
theorem dX7_strip_104 : decode cX7_strip 104 = .ok (.getfield 10, 3) := by decide +kernel
theorem dX7_strip_107 : decode cX7_strip 107 = .ok (.iload_n 3, 1) := by decide +kernel
theorem dX7_strip_108 : decode cX7_strip 108 = .ok (.iload 4, 2) := by decide +kernel
theorem dX7_strip_110 : decode cX7_strip 110 = .ok (.invokevirtual 205, 3) := by decide +kernel
theorem dX7_strip_113 : decode cX7_strip 113 = .ok (.ireturn, 1) := by decide +kernel
theorem dX7_strip_114 : decode cX7_strip 114 = .ok (.aload_n 0, 1) := by decide +kernel
theorem dX7_strip_115 : decode cX7_strip 115 = .ok (.getfield 10, 3) := by decide +kernel
theorem dX7_strip_118 : decode cX7_strip 118 = .ok (.iload_n 3, 1) := by decide +kernel
theorem dX7_strip_119 : decode cX7_strip 119 = .ok (.iload 4, 2) := by decide +kernel
theorem dX7_strip_121 : decode cX7_strip 121 = .ok (.invokevirtual 253, 3) := by decide +kernel
theorem dX7_strip_124 : decode cX7_strip 124 = .ok (.ireturn, 1) := by decide +kernel
theorem dX7_strip_125 : decode cX7_strip 125 = .ok (.aload_n 0, 1) := by decide +kernel
theorem dX7_strip_126 : decode cX7_strip 126 = .ok (.getfield 10, 3) := by decide +kernel
theorem dX7_strip_129 : decode cX7_strip 129 = .ok (.iload_n 3, 1) := by decide +kernel
theorem dX7_strip_130 : decode cX7_strip 130 = .ok (.iload 4, 2) := by decide +kernel
theorem dX7_strip_132 : decode cX7_strip 132 = .ok (.invokevirtual 256, 3) := by decide +kernel
theorem dX7_strip_135 : decode cX7_strip 135 = .ok (.ireturn, 1) := by decide +kernel
theorem dX7_count_0 : decode cX7_count 0 = .ok (.iload_n 1, 1) := by decide +kernel
theorem dX7_count_1 : decode cX7_count 1 = .ok (.tableswitch 218 0 16 #[83, 91, 99, 107, 112, 120, 125, 133, 138, 153, 158, 166, 174, 182, 190, 198, 208], 83) := by decide +kernel
theorem dX7_count_84 : decode cX7_count 84 = .ok (.aload_n 0, 1) := by decide +kernel
theorem dX7_count_85 : decode cX7_count 85 = .ok (.getfield 10, 3) := by decide +kernel
theorem dX7_count_88 : decode cX7_count 88 = .ok (.getfield 196, 3) := by decide +kernel
theorem dX7_count_91 : decode cX7_count 91 = .ok (.ireturn, 1) := by decide +kernel
theorem dX7_count_92 : decode cX7_count 92 = .ok (.aload_n 0, 1) := by decide +kernel
theorem dX7_count_93 : decode cX7_count 93 = .ok (.getfield 10, 3) := by decide +kernel
theorem dX7_count_96 : decode cX7_count 96 = .ok (.getfield 259, 3) := by decide +kernel
theorem dX7_count_99 : decode cX7_count 99 = .ok (.ireturn, 1) := by decide +kernel
theorem dX7_count_100 : decode cX7_count 100 = .ok (.aload_n 0, 1) := by decide +kernel
theorem dX7_count_101 : decode cX7_count 101 = .ok (.getfield 10, 3) := by decide +kernel
theorem dX7_count_104 : decode cX7_count 104 = .ok (.invokevirtual 262, 3) := by decide +kernel
theorem dX7_count_107 : decode cX7_count 107 = .ok (.ireturn, 1) := by decide +kernel
theorem dX7_count_108 : decode cX7_count 108 = .ok (.aload_n 0, 1) := by decide +kernel
theorem dX7_count_109 : decode cX7_count 109 = .ok (.invokevirtual 265, 3) := by decide +kernel
theorem dX7_count_112 : decode cX7_count 112 = .ok (.ireturn, 1) := by decide +kernel
theorem dX7_count_113 : decode cX7_count 113 = .ok (.aload_n 0, 1) := by decide +kernel
theorem dX7_count_114 : decode cX7_count 114 = .ok (.getfield 10, 3) := by decide +kernel
theorem dX7_count_117 : decode cX7_count 117 = .ok (.invokevirtual 268, 3) := by decide +kernel
theorem dX7_count_120 : decode cX7_count 120 = .ok (.ireturn, 1) := by decide +kernel
theorem dX7_count_121 : decode cX7_count 121 = .ok (.aload_n 0, 1) := by decide +kernel
theorem dX7_count_122 : decode cX7_count 122 = .ok (.invokevirtual 271, 3) := by decide +kernel
theorem dX7_count_125 : decode cX7_count 125 = .ok (.ireturn, 1) := by decide +kernel
theorem dX7_count_126 : decode cX7_count 126 = .ok (.aload_n 0, 1) := by decide +kernel
theorem dX7_count_127 : decode cX7_count 127 = .ok (.getfield 10, 3) := by decide +kernel
theorem dX7_count_130 : decode cX7_count 130 = .ok (.invokevirtual 274, 3) := by decide +kernel
theorem dX7_count_133 : decode cX7_count 133 = .ok (.ireturn, 1) := by decide +kernel
theorem dX7_count_134 : decode cX7_count 134 = .ok (.aload_n 0, 1) := by decide +kernel
theorem dX7_count_135 : decode cX7_count 135 = .ok (.invokevirtual 277, 3) := by decide +kernel
theorem dX7_count_138 : decode cX7_count 138 = .ok (.ireturn, 1) := by decide +kernel
theorem dX7_count_139 : decode cX7_count 139 = .ok (.aload_n 0, 1) := by decide +kernel
theorem dX7_count_140 : decode cX7_count 140 = .ok (.getfield 10, 3) := by decide +kernel
theorem dX7_count_143 : decode cX7_count 143 = .ok (.aload_n 0, 1) := by decide +kernel
theorem dX7_count_144 : decode cX7_count 144 = .ok (.getfield 10, 3) := by decide +kernel
theorem dX7_count_147 : decode cX7_count 147 = .ok (.invokevirtual 274, 3) := by decide +kernel
theorem dX7_count_150 : decode cX7_count 150 = .ok (.invokevirtual 202, 3) := by decide +kernel
theorem dX7_count_153 : decode cX7_count 153 = .ok (.ireturn, 1) := by decide +kernel
theorem dX7_count_154 : decode cX7_count 154 = .ok (.aload_n 0, 1) := by decide +kernel
theorem dX7_count_155 : decode cX7_count 155 = .ok (.invokevirtual 280, 3) := by decide +kernel
theorem dX7_count_158 : decode cX7_count 158 = .ok (.ireturn, 1) := by decide +kernel
theorem dX7_count_159 : decode cX7_count 159 = .ok (.aload_n 0, 1) := by decide +kernel
theorem dX7_count_160 : decode cX7_count 160 = .ok (.getfield 10, 3) := by decide +kernel
theorem dX7_count_163 : decode cX7_count 163 = .ok (.getfield 283, 3) := by decide +kernel
theorem dX7_count_166 : decode cX7_count 166 = .ok (.ireturn, 1) := by decide +kernel
theorem dX7_count_167 : decode cX7_count 167 = .ok (.aload_n 0, 1) := by decide +kernel
theorem dX7_count_168 : decode cX7_count 168 = .ok (.getfield 10, 3) := by decide +kernel
theorem dX7_count_171 : decode cX7_count 171 = .ok (.getfield 286, 3) := by decide +kernel
theorem dX7_count_174 : decode cX7_count 174 = .ok (.ireturn, 1) := by decide +kernel
theorem dX7_count_175 : decode cX7_count 175 = .ok (.aload_n 0, 1) := by decide +kernel
theorem dX7_count_176 : decode cX7_count 176 = .ok (.getfield 10, 3) := by decide +kernel
theorem dX7_count_179 : decode cX7_count 179 = .ok (.getfield 289, 3) := by decide +kernel
theorem dX7_count_182 : decode cX7_count 182 = .ok (.ireturn, 1) := by decide +kernel
theorem dX7_count_183 : decode cX7_count 183 = .ok (.aload_n 0, 1) := by decide +kernel
theorem dX7_count_184 : decode cX7_count 184 = .ok (.getfield 25, 3) := by decide +kernel
theorem dX7_count_187 : decode cX7_count 187 = .ok (.getfield 292, 3) := by decide +kernel
theorem dX7_count_190 : decode cX7_count 190 = .ok (.ireturn, 1) := by decide +kernel
theorem dX7_count_191 : decode cX7_count 191 = .ok (.aload_n 0, 1) := by decide +kernel
theorem dX7_count_192 : decode cX7_count 192 = .ok (.getfield 32, 3) := by decide +kernel
theorem dX7_count_195 : decode cX7_count 195 = .ok (.getfield 185, 3) := by decide +kernel
theorem dX7_count_198 : decode cX7_count 198 = .ok (.ireturn, 1) := by decide +kernel
theorem dX7_count_199 : decode cX7_count 199 = .ok (.aload_n 0, 1) := by decide +kernel
theorem dX7_count_200 : decode cX7_count 200 = .ok (.getfield 10, 3) := by decide +kernel
theorem dX7_count_203 : decode cX7_count 203 = .ok (.getfield 178, 3) := by decide +kernel
theorem dX7_count_206 : decode cX7_count 206 = .ok (.iconst 0, 1) := by decide +kernel
theorem dX7_count_207 : decode cX7_count 207 = .ok (.iaload, 1) := by decide +kernel
theorem dX7_count_208 : decode cX7_count 208 = .ok (.ireturn, 1) := by decide +kernel
theorem dX7_count_209 : decode cX7_count 209 = .ok (.aload_n 0, 1) := by decide +kernel
theorem dX7_count_210 : decode cX7_count 210 = .ok (.getfield 10, 3) := by decide +kernel
theorem dX7_count_213 : decode cX7_count 213 = .ok (.getfield 178, 3) := by decide +kernel
theorem dX7_count_216 : decode cX7_count 216 = .ok (.iconst 1, 1) := by decide +kernel
theorem dX7_count_217 : decode cX7_count 217 = .ok (.iaload, 1) := by decide +kernel
theorem dX7_count_218 : decode cX7_count 218 = .ok (.ireturn, 1) := by decide +kernel
theorem dX7_count_219 : decode cX7_count 219 = .ok (.bipush (-2), 2) := by decide +kernel
theorem dX7_count_221 : decode cX7_count 221 = .ok (.ireturn, 1) := by decide +kernel
theorem dX7_latest_0 : decode cX7_latest 0 = .ok (.aload_n 0, 1) := by decide +kernel
theorem dX7_latest_1 : decode cX7_latest 1 = .ok (.getfield 10, 3) := by decide +kernel
theorem dX7_latest_4 : decode cX7_latest 4 = .ok (.iload_n 1, 1) := by decide +kernel
theorem dX7_latest_5 : decode cX7_latest 5 = .ok (.invokevirtual 91, 3) := by decide +kernel
theorem dX7_latest_8 : decode cX7_latest 8 = .ok (.istore_n 2, 1) := by decide +kernel
theorem dX7_latest_9 : decode cX7_latest 9 = .ok (.iload_n 2, 1) := by decide +kernel
theorem dX7_latest_10 : decode cX7_latest 10 = .ok (.ifCond .ge 7, 3) := by decide +kernel
theorem dX7_latest_13 : decode cX7_latest 13 = .ok (.iconst (-1), 1) := by decide +kernel
theorem dX7_latest_14 : decode cX7_latest 14 = .ok (.goto 8, 3) := by decide +kernel
theorem dX7_latest_17 : decode cX7_latest 17 = .ok (.aload_n 0, 1) := by decide +kernel
theorem dX7_latest_18 : decode cX7_latest 18 = .ok (.iload_n 2, 1) := by decide +kernel
theorem dX7_latest_19 : decode cX7_latest 19 = .ok (.invokevirtual 208, 3) := by decide +kernel
theorem dX7_latest_22 : decode cX7_latest 22 = .ok (.ireturn, 1) := by decide +kernel
theorem dX7_longest_0 : decode cX7_longest 0 = .ok (.aload_n 0, 1) := by decide +kernel
theorem dX7_longest_1 : decode cX7_longest 1 = .ok (.getfield 39, 3) := by decide +kernel
theorem dX7_longest_4 : decode cX7_longest 4 = .ok (.aload_n 0, 1) := by decide +kernel
theorem dX7_longest_5 : decode cX7_longest 5 = .ok (.getfield 10, 3) := by decide +kernel
theorem dX7_longest_8 : decode cX7_longest 8 = .ok (.invokevirtual 154, 3) := by decide +kernel
theorem dX7_longest_11 : decode cX7_longest 11 = .ok (.aload_n 0, 1) := by decide +kernel
theorem dX7_longest_12 : decode cX7_longest 12 = .ok (.getfield 39, 3) := by decide +kernel
theorem dX7_longest_15 : decode cX7_longest 15 = .ok (.aload_n 0, 1) := by decide +kernel
theorem dX7_longest_16 : decode cX7_longest 16 = .ok (.getfield 10, 3) := by decide +kernel
theorem dX7_longest_19 : decode cX7_longest 19 = .ok (.invokevirtual 295, 3) := by decide +kernel
theorem dX7_longest_22 : decode cX7_longest 22 = .ok (.ireturn, 1) := by decide +kernel
theorem dX7_share_0 : decode cX7_share 0 = .ok (.aload_n 0, 1) := by decide +kernel
theorem dX7_share_1 : decode cX7_share 1 = .ok (.getfield 10, 3) := by decide +kernel
theorem dX7_share_4 : decode cX7_share 4 = .ok (.aload_n 0, 1) := by decide +kernel
theorem dX7_share_5 : decode cX7_share 5 = .ok (.getfield 10, 3) := by decide +kernel
theorem dX7_share_8 : decode cX7_share 8 = .ok (.invokevirtual 274, 3) := by decide +kernel
theorem dX7_share_11 : decode cX7_share 11 = .ok (.invokevirtual 202, 3) := by decide +kernel
theorem dX7_share_14 : decode cX7_share 14 = .ok (.aload_n 0, 1) := by decide +kernel
theorem dX7_share_15 : decode cX7_share 15 = .ok (.getfield 10, 3) := by decide +kernel
theorem dX7_share_18 : decode cX7_share 18 = .ok (.invokevirtual 262, 3) := by decide +kernel
theorem dX7_share_21 : decode cX7_share 21 = .ok (.imul, 1) := by decide +kernel
theorem dX7_share_22 : decode cX7_share 22 = .ok (.istore_n 1, 1) := by decide +kernel
theorem dX7_share_23 : decode cX7_share 23 = .ok (.iload_n 1, 1) := by decide +kernel
theorem dX7_share_24 : decode cX7_share 24 = .ok (.ifCond .ne 5, 3) := by decide +kernel
theorem dX7_share_27 : decode cX7_share 27 = .ok (.dconst 0, 1) := by decide +kernel
theorem dX7_share_28 : decode cX7_share 28 = .ok (.dreturn, 1) := by decide +kernel
theorem dX7_share_29 : decode cX7_share 29 = .ok (.aload_n 0, 1) := by decide +kernel
theorem dX7_share_30 : decode cX7_share 30 = .ok (.getfield 10, 3) := by decide +kernel
theorem dX7_share_33 : decode cX7_share 33 = .ok (.invokevirtual 298, 3) := by decide +kernel
theorem dX7_share_36 : decode cX7_share 36 = .ok (.i2d, 1) := by decide +kernel
theorem dX7_share_37 : decode cX7_share 37 = .ok (.iload_n 1, 1) := by decide +kernel
theorem dX7_share_38 : decode cX7_share 38 = .ok (.i2d, 1) := by decide +kernel
theorem dX7_share_39 : decode cX7_share 39 = .ok (.ddiv, 1) := by decide +kernel
theorem dX7_share_40 : decode cX7_share 40 = .ok (.dreturn, 1) := by decide +kernel
theorem dX7_ifSlipped_0 : decode cX7_ifSlipped 0 = .ok (.aload_n 0, 1) := by decide +kernel
theorem dX7_ifSlipped_1 : decode cX7_ifSlipped 1 = .ok (.getfield 10, 3) := by decide +kernel
theorem dX7_ifSlipped_4 : decode cX7_ifSlipped 4 = .ok (.iload_n 1, 1) := by decide +kernel
theorem dX7_ifSlipped_5 : decode cX7_ifSlipped 5 = .ok (.invokevirtual 91, 3) := by decide +kernel
theorem dX7_ifSlipped_8 : decode cX7_ifSlipped 8 = .ok (.istore_n 3, 1) := by decide +kernel
theorem dX7_ifSlipped_9 : decode cX7_ifSlipped 9 = .ok (.iload_n 3, 1) := by decide +kernel
theorem dX7_ifSlipped_10 : decode cX7_ifSlipped 10 = .ok (.ifCond .ge 5, 3) := by decide +kernel
theorem dX7_ifSlipped_13 : decode cX7_ifSlipped 13 = .ok (.iconst (-1), 1) := by decide +kernel
theorem dX7_ifSlipped_14 : decode cX7_ifSlipped 14 = .ok (.ireturn, 1) := by decide +kernel
theorem dX7_ifSlipped_15 : decode cX7_ifSlipped 15 = .ok (.iload_n 2, 1) := by decide +kernel
theorem dX7_ifSlipped_16 : decode cX7_ifSlipped 16 = .ok (.iconst 1, 1) := by decide +kernel
theorem dX7_ifSlipped_17 : decode cX7_ifSlipped 17 = .ok (.if_icmp .lt 9, 3) := by decide +kernel
theorem dX7_ifSlipped_20 : decode cX7_ifSlipped 20 = .ok (.iload_n 2, 1) := by decide +kernel
theorem dX7_ifSlipped_21 : decode cX7_ifSlipped 21 = .ok (.bipush 30, 2) := by decide +kernel
theorem dX7_ifSlipped_23 : decode cX7_ifSlipped 23 = .ok (.if_icmp .le 6, 3) := by decide +kernel
theorem dX7_ifSlipped_26 : decode cX7_ifSlipped 26 = .ok (.bipush (-2), 2) := by decide +kernel
theorem dX7_ifSlipped_28 : decode cX7_ifSlipped 28 = .ok (.ireturn, 1) := by decide +kernel
theorem dX7_ifSlipped_29 : decode cX7_ifSlipped 29 = .ok (.aload_n 0, 1) := by decide +kernel
theorem dX7_ifSlipped_30 : decode cX7_ifSlipped 30 = .ok (.getfield 39, 3) := by decide +kernel
theorem dX7_ifSlipped_33 : decode cX7_ifSlipped 33 = .ok (.aload_n 0, 1) := by decide +kernel
theorem dX7_ifSlipped_34 : decode cX7_ifSlipped 34 = .ok (.getfield 10, 3) := by decide +kernel
theorem dX7_ifSlipped_37 : decode cX7_ifSlipped 37 = .ok (.invokevirtual 154, 3) := by decide +kernel
theorem dX7_ifSlipped_40 : decode cX7_ifSlipped 40 = .ok (.aload_n 0, 1) := by decide +kernel
theorem dX7_ifSlipped_41 : decode cX7_ifSlipped 41 = .ok (.getfield 39, 3) := by decide +kernel
theorem dX7_ifSlipped_44 : decode cX7_ifSlipped 44 = .ok (.aload_n 0, 1) := by decide +kernel
theorem dX7_ifSlipped_45 : decode cX7_ifSlipped 45 = .ok (.getfield 10, 3) := by decide +kernel
theorem dX7_ifSlipped_48 : decode cX7_ifSlipped 48 = .ok (.iload_n 3, 1) := by decide +kernel
theorem dX7_ifSlipped_49 : decode cX7_ifSlipped 49 = .ok (.iload_n 2, 1) := by decide +kernel
theorem dX7_ifSlipped_50 : decode cX7_ifSlipped 50 = .ok (.invokevirtual 157, 3) := by decide +kernel
theorem dX7_ifSlipped_53 : decode cX7_ifSlipped 53 = .ok (.ireturn, 1) := by decide +kernel
theorem dX7_bestSwap_0 : decode cX7_bestSwap 0 = .ok (.iload_n 1, 1) := by decide +kernel
theorem dX7_bestSwap_1 : decode cX7_bestSwap 1 = .ok (.ifCond .lt 8, 3) := by decide +kernel
theorem dX7_bestSwap_4 : decode cX7_bestSwap 4 = .ok (.iload_n 1, 1) := by decide +kernel
theorem dX7_bestSwap_5 : decode cX7_bestSwap 5 = .ok (.iconst 3, 1) := by decide +kernel
theorem dX7_bestSwap_6 : decode cX7_bestSwap 6 = .ok (.if_icmp .le 6, 3) := by decide +kernel
theorem dX7_bestSwap_9 : decode cX7_bestSwap 9 = .ok (.bipush (-2), 2) := by decide +kernel
theorem dX7_bestSwap_11 : decode cX7_bestSwap 11 = .ok (.ireturn, 1) := by decide +kernel
theorem dX7_bestSwap_12 : decode cX7_bestSwap 12 = .ok (.aload_n 0, 1) := by decide +kernel
theorem dX7_bestSwap_13 : decode cX7_bestSwap 13 = .ok (.getfield 16, 3) := by decide +kernel
theorem dX7_bestSwap_16 : decode cX7_bestSwap 16 = .ok (.aload_n 0, 1) := by decide +kernel
theorem dX7_bestSwap_17 : decode cX7_bestSwap 17 = .ok (.getfield 10, 3) := by decide +kernel
theorem dX7_bestSwap_20 : decode cX7_bestSwap 20 = .ok (.invokevirtual 64, 3) := by decide +kernel
theorem dX7_bestSwap_23 : decode cX7_bestSwap 23 = .ok (.aload_n 0, 1) := by decide +kernel
theorem dX7_bestSwap_24 : decode cX7_bestSwap 24 = .ok (.getfield 60, 3) := by decide +kernel
theorem dX7_bestSwap_27 : decode cX7_bestSwap 27 = .ok (.aload_n 0, 1) := by decide +kernel
theorem dX7_bestSwap_28 : decode cX7_bestSwap 28 = .ok (.getfield 16, 3) := by decide +kernel
theorem dX7_bestSwap_31 : decode cX7_bestSwap 31 = .ok (.aload_n 0, 1) := by decide +kernel
theorem dX7_bestSwap_32 : decode cX7_bestSwap 32 = .ok (.getfield 46, 3) := by decide +kernel
theorem dX7_bestSwap_35 : decode cX7_bestSwap 35 = .ok (.invokevirtual 301, 3) := by decide +kernel
theorem dX7_bestSwap_38 : decode cX7_bestSwap 38 = .ok (.ifCond .ne 6, 3) := by decide +kernel
theorem dX7_bestSwap_41 : decode cX7_bestSwap 41 = .ok (.bipush (-5), 2) := by decide +kernel
theorem dX7_bestSwap_43 : decode cX7_bestSwap 43 = .ok (.ireturn, 1) := by decide +kernel
theorem dX7_bestSwap_44 : decode cX7_bestSwap 44 = .ok (.iload_n 1, 1) := by decide +kernel
theorem dX7_bestSwap_45 : decode cX7_bestSwap 45 = .ok (.tableswitch 51 0 2 #[27, 35, 43], 27) := by decide +kernel
theorem dX7_bestSwap_72 : decode cX7_bestSwap 72 = .ok (.aload_n 0, 1) := by decide +kernel
theorem dX7_bestSwap_73 : decode cX7_bestSwap 73 = .ok (.getfield 60, 3) := by decide +kernel
theorem dX7_bestSwap_76 : decode cX7_bestSwap 76 = .ok (.getfield 305, 3) := by decide +kernel
theorem dX7_bestSwap_79 : decode cX7_bestSwap 79 = .ok (.ireturn, 1) := by decide +kernel
theorem dX7_bestSwap_80 : decode cX7_bestSwap 80 = .ok (.aload_n 0, 1) := by decide +kernel
theorem dX7_bestSwap_81 : decode cX7_bestSwap 81 = .ok (.getfield 60, 3) := by decide +kernel
theorem dX7_bestSwap_84 : decode cX7_bestSwap 84 = .ok (.getfield 307, 3) := by decide +kernel
theorem dX7_bestSwap_87 : decode cX7_bestSwap 87 = .ok (.ireturn, 1) := by decide +kernel
theorem dX7_bestSwap_88 : decode cX7_bestSwap 88 = .ok (.aload_n 0, 1) := by decide +kernel
theorem dX7_bestSwap_89 : decode cX7_bestSwap 89 = .ok (.getfield 60, 3) := by decide +kernel
theorem dX7_bestSwap_92 : decode cX7_bestSwap 92 = .ok (.getfield 310, 3) := by decide +kernel
theorem dX7_bestSwap_95 : decode cX7_bestSwap 95 = .ok (.ireturn, 1) := by decide +kernel
theorem dX7_bestSwap_96 : decode cX7_bestSwap 96 = .ok (.aload_n 0, 1) := by decide +kernel
theorem dX7_bestSwap_97 : decode cX7_bestSwap 97 = .ok (.getfield 60, 3) := by decide +kernel
theorem dX7_bestSwap_100 : decode cX7_bestSwap 100 = .ok (.getfield 311, 3) := by decide +kernel
theorem dX7_bestSwap_103 : decode cX7_bestSwap 103 = .ok (.ireturn, 1) := by decide +kernel
theorem dX7_bestLane_0 : decode cX7_bestLane 0 = .ok (.aload_n 0, 1) := by decide +kernel
theorem dX7_bestLane_1 : decode cX7_bestLane 1 = .ok (.getfield 10, 3) := by decide +kernel
theorem dX7_bestLane_4 : decode cX7_bestLane 4 = .ok (.iload_n 1, 1) := by decide +kernel
theorem dX7_bestLane_5 : decode cX7_bestLane 5 = .ok (.invokevirtual 91, 3) := by decide +kernel
theorem dX7_bestLane_8 : decode cX7_bestLane 8 = .ok (.istore_n 2, 1) := by decide +kernel
theorem dX7_bestLane_9 : decode cX7_bestLane 9 = .ok (.iload_n 2, 1) := by decide +kernel
theorem dX7_bestLane_10 : decode cX7_bestLane 10 = .ok (.ifCond .ge 5, 3) := by decide +kernel
theorem dX7_bestLane_13 : decode cX7_bestLane 13 = .ok (.iconst (-1), 1) := by decide +kernel
theorem dX7_bestLane_14 : decode cX7_bestLane 14 = .ok (.ireturn, 1) := by decide +kernel
theorem dX7_bestLane_15 : decode cX7_bestLane 15 = .ok (.aload_n 0, 1) := by decide +kernel
theorem dX7_bestLane_16 : decode cX7_bestLane 16 = .ok (.getfield 16, 3) := by decide +kernel
theorem dX7_bestLane_19 : decode cX7_bestLane 19 = .ok (.aload_n 0, 1) := by decide +kernel
theorem dX7_bestLane_20 : decode cX7_bestLane 20 = .ok (.getfield 10, 3) := by decide +kernel
theorem dX7_bestLane_23 : decode cX7_bestLane 23 = .ok (.invokevirtual 64, 3) := by decide +kernel
theorem dX7_bestLane_26 : decode cX7_bestLane 26 = .ok (.aload_n 0, 1) := by decide +kernel
theorem dX7_bestLane_27 : decode cX7_bestLane 27 = .ok (.getfield 10, 3) := by decide +kernel
theorem dX7_bestLane_30 : decode cX7_bestLane 30 = .ok (.getfield 121, 3) := by decide +kernel
theorem dX7_bestLane_33 : decode cX7_bestLane 33 = .ok (.iload_n 2, 1) := by decide +kernel
theorem dX7_bestLane_34 : decode cX7_bestLane 34 = .ok (.iaload, 1) := by decide +kernel
theorem dX7_bestLane_35 : decode cX7_bestLane 35 = .ok (.istore_n 3, 1) := by decide +kernel
theorem dX7_bestLane_36 : decode cX7_bestLane 36 = .ok (.bipush 41, 2) := by decide +kernel
theorem dX7_bestLane_38 : decode cX7_bestLane 38 = .ok (.istore 4, 2) := by decide +kernel
theorem dX7_bestLane_40 : decode cX7_bestLane 40 = .ok (.iconst 0, 1) := by decide +kernel
theorem dX7_bestLane_41 : decode cX7_bestLane 41 = .ok (.istore 5, 2) := by decide +kernel
theorem dX7_bestLane_43 : decode cX7_bestLane 43 = .ok (.iload 5, 2) := by decide +kernel
theorem dX7_bestLane_45 : decode cX7_bestLane 45 = .ok (.bipush 12, 2) := by decide +kernel
theorem dX7_bestLane_47 : decode cX7_bestLane 47 = .ok (.if_icmp .ge 86, 3) := by decide +kernel
theorem dX7_bestLane_50 : decode cX7_bestLane 50 = .ok (.aload_n 0, 1) := by decide +kernel
theorem dX7_bestLane_51 : decode cX7_bestLane 51 = .ok (.getfield 10, 3) := by decide +kernel
theorem dX7_bestLane_54 : decode cX7_bestLane 54 = .ok (.iload 5, 2) := by decide +kernel
theorem dX7_bestLane_56 : decode cX7_bestLane 56 = .ok (.aload_n 0, 1) := by decide +kernel
theorem dX7_bestLane_57 : decode cX7_bestLane 57 = .ok (.getfield 10, 3) := by decide +kernel
theorem dX7_bestLane_60 : decode cX7_bestLane 60 = .ok (.getfield 124, 3) := by decide +kernel
theorem dX7_bestLane_63 : decode cX7_bestLane 63 = .ok (.iload_n 2, 1) := by decide +kernel
theorem dX7_bestLane_64 : decode cX7_bestLane 64 = .ok (.iaload, 1) := by decide +kernel
theorem dX7_bestLane_65 : decode cX7_bestLane 65 = .ok (.aload_n 0, 1) := by decide +kernel
theorem dX7_bestLane_66 : decode cX7_bestLane 66 = .ok (.getfield 10, 3) := by decide +kernel
theorem dX7_bestLane_69 : decode cX7_bestLane 69 = .ok (.getfield 118, 3) := by decide +kernel
theorem dX7_bestLane_72 : decode cX7_bestLane 72 = .ok (.iload_n 2, 1) := by decide +kernel
theorem dX7_bestLane_73 : decode cX7_bestLane 73 = .ok (.iaload, 1) := by decide +kernel
theorem dX7_bestLane_74 : decode cX7_bestLane 74 = .ok (.iload_n 2, 1) := by decide +kernel
theorem dX7_bestLane_75 : decode cX7_bestLane 75 = .ok (.invokevirtual 127, 3) := by decide +kernel
theorem dX7_bestLane_78 : decode cX7_bestLane 78 = .ok (.ifCond .eq 49, 3) := by decide +kernel
theorem dX7_bestLane_81 : decode cX7_bestLane 81 = .ok (.aload_n 0, 1) := by decide +kernel
theorem dX7_bestLane_82 : decode cX7_bestLane 82 = .ok (.getfield 16, 3) := by decide +kernel
theorem dX7_bestLane_85 : decode cX7_bestLane 85 = .ok (.getfield 121, 3) := by decide +kernel
theorem dX7_bestLane_88 : decode cX7_bestLane 88 = .ok (.iload_n 2, 1) := by decide +kernel
theorem dX7_bestLane_89 : decode cX7_bestLane 89 = .ok (.iload 5, 2) := by decide +kernel
theorem dX7_bestLane_91 : decode cX7_bestLane 91 = .ok (.iastore, 1) := by decide +kernel
theorem dX7_bestLane_92 : decode cX7_bestLane 92 = .ok (.aload_n 0, 1) := by decide +kernel
theorem dX7_bestLane_93 : decode cX7_bestLane 93 = .ok (.getfield 46, 3) := by decide +kernel
theorem dX7_bestLane_96 : decode cX7_bestLane 96 = .ok (.aload_n 0, 1) := by decide +kernel
theorem dX7_bestLane_97 : decode cX7_bestLane 97 = .ok (.getfield 16, 3) := by decide +kernel
theorem dX7_bestLane_100 : decode cX7_bestLane 100 = .ok (.invokevirtual 131, 3) := by decide +kernel
theorem dX7_bestLane_103 : decode cX7_bestLane 103 = .ok (.aload_n 0, 1) := by decide +kernel
theorem dX7_bestLane_104 : decode cX7_bestLane 104 = .ok (.getfield 46, 3) := by decide +kernel
theorem dX7_bestLane_107 : decode cX7_bestLane 107 = .ok (.getfield 134, 3) := by decide +kernel
theorem dX7_bestLane_110 : decode cX7_bestLane 110 = .ok (.iload 4, 2) := by decide +kernel
theorem dX7_bestLane_112 : decode cX7_bestLane 112 = .ok (.if_icmp .ge 15, 3) := by decide +kernel
theorem dX7_bestLane_115 : decode cX7_bestLane 115 = .ok (.aload_n 0, 1) := by decide +kernel
theorem dX7_bestLane_116 : decode cX7_bestLane 116 = .ok (.getfield 46, 3) := by decide +kernel
theorem dX7_bestLane_119 : decode cX7_bestLane 119 = .ok (.getfield 134, 3) := by decide +kernel
theorem dX7_bestLane_122 : decode cX7_bestLane 122 = .ok (.istore 4, 2) := by decide +kernel
theorem dX7_bestLane_124 : decode cX7_bestLane 124 = .ok (.iload 5, 2) := by decide +kernel
theorem dX7_bestLane_126 : decode cX7_bestLane 126 = .ok (.istore_n 3, 1) := by decide +kernel
theorem dX7_bestLane_127 : decode cX7_bestLane 127 = .ok (.iinc 5 1, 3) := by decide +kernel
theorem dX7_bestLane_130 : decode cX7_bestLane 130 = .ok (.goto (-87), 3) := by decide +kernel
theorem dX7_bestLane_133 : decode cX7_bestLane 133 = .ok (.iload_n 3, 1) := by decide +kernel
theorem dX7_bestLane_134 : decode cX7_bestLane 134 = .ok (.ireturn, 1) := by decide +kernel
theorem dX7_settle_0 : decode cX7_settle 0 = .ok (.iload_n 1, 1) := by decide +kernel
theorem dX7_settle_1 : decode cX7_settle 1 = .ok (.ifCond .lt 25, 3) := by decide +kernel
theorem dX7_settle_4 : decode cX7_settle 4 = .ok (.aload_n 0, 1) := by decide +kernel
theorem dX7_settle_5 : decode cX7_settle 5 = .ok (.getfield 25, 3) := by decide +kernel
theorem dX7_settle_8 : decode cX7_settle 8 = .ok (.aload_n 0, 1) := by decide +kernel
theorem dX7_settle_9 : decode cX7_settle 9 = .ok (.getfield 10, 3) := by decide +kernel
theorem dX7_settle_12 : decode cX7_settle 12 = .ok (.invokevirtual 314, 3) := by decide +kernel
theorem dX7_settle_15 : decode cX7_settle 15 = .ok (.aload_n 0, 1) := by decide +kernel
theorem dX7_settle_16 : decode cX7_settle 16 = .ok (.getfield 10, 3) := by decide +kernel
theorem dX7_settle_19 : decode cX7_settle 19 = .ok (.aload_n 0, 1) := by decide +kernel
theorem dX7_settle_20 : decode cX7_settle 20 = .ok (.getfield 16, 3) := by decide +kernel
theorem dX7_settle_23 : decode cX7_settle 23 = .ok (.invokevirtual 64, 3) := by decide +kernel
theorem dX7_settle_26 : decode cX7_settle 26 = .ok (.iload_n 1, 1) := by decide +kernel
theorem dX7_settle_27 : decode cX7_settle 27 = .ok (.ireturn, 1) := by decide +kernel
theorem dX7_addPart_0 : decode cX7_addPart 0 = .ok (.aload_n 0, 1) := by decide +kernel
theorem dX7_addPart_1 : decode cX7_addPart 1 = .ok (.getfield 32, 3) := by decide +kernel
theorem dX7_addPart_4 : decode cX7_addPart 4 = .ok (.iload_n 1, 1) := by decide +kernel
theorem dX7_addPart_5 : decode cX7_addPart 5 = .ok (.invokevirtual 317, 3) := by decide +kernel
theorem dX7_addPart_8 : decode cX7_addPart 8 = .ok (.ifCond .eq 29, 3) := by decide +kernel
theorem dX7_addPart_11 : decode cX7_addPart 11 = .ok (.aload_n 0, 1) := by decide +kernel
theorem dX7_addPart_12 : decode cX7_addPart 12 = .ok (.getfield 16, 3) := by decide +kernel
theorem dX7_addPart_15 : decode cX7_addPart 15 = .ok (.aload_n 0, 1) := by decide +kernel
theorem dX7_addPart_16 : decode cX7_addPart 16 = .ok (.getfield 32, 3) := by decide +kernel
theorem dX7_addPart_19 : decode cX7_addPart 19 = .ok (.getfield 320, 3) := by decide +kernel
theorem dX7_addPart_22 : decode cX7_addPart 22 = .ok (.iload_n 1, 1) := by decide +kernel
theorem dX7_addPart_23 : decode cX7_addPart 23 = .ok (.iaload, 1) := by decide +kernel
theorem dX7_addPart_24 : decode cX7_addPart 24 = .ok (.aload_n 0, 1) := by decide +kernel
theorem dX7_addPart_25 : decode cX7_addPart 25 = .ok (.getfield 32, 3) := by decide +kernel
theorem dX7_addPart_28 : decode cX7_addPart 28 = .ok (.getfield 323, 3) := by decide +kernel
theorem dX7_addPart_31 : decode cX7_addPart 31 = .ok (.iload_n 1, 1) := by decide +kernel
theorem dX7_addPart_32 : decode cX7_addPart 32 = .ok (.iaload, 1) := by decide +kernel
theorem dX7_addPart_33 : decode cX7_addPart 33 = .ok (.invokevirtual 76, 3) := by decide +kernel
theorem dX7_addPart_36 : decode cX7_addPart 36 = .ok (.ireturn, 1) := by decide +kernel
theorem dX7_addPart_37 : decode cX7_addPart 37 = .ok (.aload_n 0, 1) := by decide +kernel
theorem dX7_addPart_38 : decode cX7_addPart 38 = .ok (.getfield 16, 3) := by decide +kernel
theorem dX7_addPart_41 : decode cX7_addPart 41 = .ok (.aload_n 0, 1) := by decide +kernel
theorem dX7_addPart_42 : decode cX7_addPart 42 = .ok (.getfield 32, 3) := by decide +kernel
theorem dX7_addPart_45 : decode cX7_addPart 45 = .ok (.getfield 320, 3) := by decide +kernel
theorem dX7_addPart_48 : decode cX7_addPart 48 = .ok (.iload_n 1, 1) := by decide +kernel
theorem dX7_addPart_49 : decode cX7_addPart 49 = .ok (.iaload, 1) := by decide +kernel
theorem dX7_addPart_50 : decode cX7_addPart 50 = .ok (.aload_n 0, 1) := by decide +kernel
theorem dX7_addPart_51 : decode cX7_addPart 51 = .ok (.getfield 32, 3) := by decide +kernel
theorem dX7_addPart_54 : decode cX7_addPart 54 = .ok (.getfield 323, 3) := by decide +kernel
theorem dX7_addPart_57 : decode cX7_addPart 57 = .ok (.iload_n 1, 1) := by decide +kernel
theorem dX7_addPart_58 : decode cX7_addPart 58 = .ok (.iaload, 1) := by decide +kernel
theorem dX7_addPart_59 : decode cX7_addPart 59 = .ok (.aload_n 0, 1) := by decide +kernel
theorem dX7_addPart_60 : decode cX7_addPart 60 = .ok (.getfield 32, 3) := by decide +kernel
theorem dX7_addPart_63 : decode cX7_addPart 63 = .ok (.getfield 326, 3) := by decide +kernel
theorem dX7_addPart_66 : decode cX7_addPart 66 = .ok (.iload_n 1, 1) := by decide +kernel
theorem dX7_addPart_67 : decode cX7_addPart 67 = .ok (.iaload, 1) := by decide +kernel
theorem dX7_addPart_68 : decode cX7_addPart 68 = .ok (.invokevirtual 68, 3) := by decide +kernel
theorem dX7_addPart_71 : decode cX7_addPart 71 = .ok (.ireturn, 1) := by decide +kernel
theorem dX7_latestOf_0 : decode cX7_latestOf 0 = .ok (.aload_n 0, 1) := by decide +kernel
theorem dX7_latestOf_1 : decode cX7_latestOf 1 = .ok (.getfield 39, 3) := by decide +kernel
theorem dX7_latestOf_4 : decode cX7_latestOf 4 = .ok (.aload_n 0, 1) := by decide +kernel
theorem dX7_latestOf_5 : decode cX7_latestOf 5 = .ok (.getfield 10, 3) := by decide +kernel
theorem dX7_latestOf_8 : decode cX7_latestOf 8 = .ok (.invokevirtual 154, 3) := by decide +kernel
theorem dX7_latestOf_11 : decode cX7_latestOf 11 = .ok (.aload_n 0, 1) := by decide +kernel
theorem dX7_latestOf_12 : decode cX7_latestOf 12 = .ok (.getfield 39, 3) := by decide +kernel
theorem dX7_latestOf_15 : decode cX7_latestOf 15 = .ok (.aload_n 0, 1) := by decide +kernel
theorem dX7_latestOf_16 : decode cX7_latestOf 16 = .ok (.getfield 10, 3) := by decide +kernel
theorem dX7_latestOf_19 : decode cX7_latestOf 19 = .ok (.invokevirtual 327, 3) := by decide +kernel
theorem dX7_latestOf_22 : decode cX7_latestOf 22 = .ok (.aload_n 0, 1) := by decide +kernel
theorem dX7_latestOf_23 : decode cX7_latestOf 23 = .ok (.getfield 39, 3) := by decide +kernel
theorem dX7_latestOf_26 : decode cX7_latestOf 26 = .ok (.getfield 161, 3) := by decide +kernel
theorem dX7_latestOf_29 : decode cX7_latestOf 29 = .ok (.iload_n 1, 1) := by decide +kernel
theorem dX7_latestOf_30 : decode cX7_latestOf 30 = .ok (.iaload, 1) := by decide +kernel
theorem dX7_latestOf_31 : decode cX7_latestOf 31 = .ok (.ireturn, 1) := by decide +kernel
theorem dX7_criticalBars_0 : decode cX7_criticalBars 0 = .ok (.aload_n 0, 1) := by decide +kernel
theorem dX7_criticalBars_1 : decode cX7_criticalBars 1 = .ok (.getfield 39, 3) := by decide +kernel
theorem dX7_criticalBars_4 : decode cX7_criticalBars 4 = .ok (.aload_n 0, 1) := by decide +kernel
theorem dX7_criticalBars_5 : decode cX7_criticalBars 5 = .ok (.getfield 10, 3) := by decide +kernel
theorem dX7_criticalBars_8 : decode cX7_criticalBars 8 = .ok (.invokevirtual 154, 3) := by decide +kernel
theorem dX7_criticalBars_11 : decode cX7_criticalBars 11 = .ok (.aload_n 0, 1) := by decide +kernel
theorem dX7_criticalBars_12 : decode cX7_criticalBars 12 = .ok (.getfield 39, 3) := by decide +kernel
theorem dX7_criticalBars_15 : decode cX7_criticalBars 15 = .ok (.aload_n 0, 1) := by decide +kernel
theorem dX7_criticalBars_16 : decode cX7_criticalBars 16 = .ok (.getfield 10, 3) := by decide +kernel
theorem dX7_criticalBars_19 : decode cX7_criticalBars 19 = .ok (.invokevirtual 327, 3) := by decide +kernel
theorem dX7_criticalBars_22 : decode cX7_criticalBars 22 = .ok (.iconst 0, 1) := by decide +kernel
theorem dX7_criticalBars_23 : decode cX7_criticalBars 23 = .ok (.istore_n 1, 1) := by decide +kernel
theorem dX7_criticalBars_24 : decode cX7_criticalBars 24 = .ok (.iconst 0, 1) := by decide +kernel
theorem dX7_criticalBars_25 : decode cX7_criticalBars 25 = .ok (.istore_n 2, 1) := by decide +kernel
theorem dX7_criticalBars_26 : decode cX7_criticalBars 26 = .ok (.iload_n 2, 1) := by decide +kernel
theorem dX7_criticalBars_27 : decode cX7_criticalBars 27 = .ok (.aload_n 0, 1) := by decide +kernel
theorem dX7_criticalBars_28 : decode cX7_criticalBars 28 = .ok (.getfield 10, 3) := by decide +kernel
theorem dX7_criticalBars_31 : decode cX7_criticalBars 31 = .ok (.getfield 196, 3) := by decide +kernel
theorem dX7_criticalBars_34 : decode cX7_criticalBars 34 = .ok (.if_icmp .ge 33, 3) := by decide +kernel
theorem dX7_criticalBars_37 : decode cX7_criticalBars 37 = .ok (.aload_n 0, 1) := by decide +kernel
theorem dX7_criticalBars_38 : decode cX7_criticalBars 38 = .ok (.getfield 39, 3) := by decide +kernel
theorem dX7_criticalBars_41 : decode cX7_criticalBars 41 = .ok (.getfield 161, 3) := by decide +kernel
theorem dX7_criticalBars_44 : decode cX7_criticalBars 44 = .ok (.iload_n 2, 1) := by decide +kernel
theorem dX7_criticalBars_45 : decode cX7_criticalBars 45 = .ok (.iaload, 1) := by decide +kernel
theorem dX7_criticalBars_46 : decode cX7_criticalBars 46 = .ok (.aload_n 0, 1) := by decide +kernel
theorem dX7_criticalBars_47 : decode cX7_criticalBars 47 = .ok (.getfield 10, 3) := by decide +kernel
theorem dX7_criticalBars_50 : decode cX7_criticalBars 50 = .ok (.getfield 124, 3) := by decide +kernel
theorem dX7_criticalBars_53 : decode cX7_criticalBars 53 = .ok (.iload_n 2, 1) := by decide +kernel
theorem dX7_criticalBars_54 : decode cX7_criticalBars 54 = .ok (.iaload, 1) := by decide +kernel
theorem dX7_criticalBars_55 : decode cX7_criticalBars 55 = .ok (.if_icmp .ne 6, 3) := by decide +kernel
theorem dX7_criticalBars_58 : decode cX7_criticalBars 58 = .ok (.iinc 1 1, 3) := by decide +kernel
theorem dX7_criticalBars_61 : decode cX7_criticalBars 61 = .ok (.iinc 2 1, 3) := by decide +kernel
theorem dX7_criticalBars_64 : decode cX7_criticalBars 64 = .ok (.goto (-38), 3) := by decide +kernel
theorem dX7_criticalBars_67 : decode cX7_criticalBars 67 = .ok (.iload_n 1, 1) := by decide +kernel
theorem dX7_criticalBars_68 : decode cX7_criticalBars 68 = .ok (.ireturn, 1) := by decide +kernel
theorem dX7_undrawnArrows_0 : decode cX7_undrawnArrows 0 = .ok (.aload_n 0, 1) := by decide +kernel
theorem dX7_undrawnArrows_1 : decode cX7_undrawnArrows 1 = .ok (.getfield 46, 3) := by decide +kernel
theorem dX7_undrawnArrows_4 : decode cX7_undrawnArrows 4 = .ok (.aload_n 0, 1) := by decide +kernel
theorem dX7_undrawnArrows_5 : decode cX7_undrawnArrows 5 = .ok (.getfield 10, 3) := by decide +kernel
theorem dX7_undrawnArrows_8 : decode cX7_undrawnArrows 8 = .ok (.invokevirtual 131, 3) := by decide +kernel
theorem dX7_undrawnArrows_11 : decode cX7_undrawnArrows 11 = .ok (.aload_n 0, 1) := by decide +kernel
theorem dX7_undrawnArrows_12 : decode cX7_undrawnArrows 12 = .ok (.getfield 46, 3) := by decide +kernel
theorem dX7_undrawnArrows_15 : decode cX7_undrawnArrows 15 = .ok (.getfield 134, 3) := by decide +kernel
theorem dX7_undrawnArrows_18 : decode cX7_undrawnArrows 18 = .ok (.ireturn, 1) := by decide +kernel
theorem dX7_crossingPoints_0 : decode cX7_crossingPoints 0 = .ok (.aload_n 0, 1) := by decide +kernel
theorem dX7_crossingPoints_1 : decode cX7_crossingPoints 1 = .ok (.getfield 46, 3) := by decide +kernel
theorem dX7_crossingPoints_4 : decode cX7_crossingPoints 4 = .ok (.aload_n 0, 1) := by decide +kernel
theorem dX7_crossingPoints_5 : decode cX7_crossingPoints 5 = .ok (.getfield 10, 3) := by decide +kernel
theorem dX7_crossingPoints_8 : decode cX7_crossingPoints 8 = .ok (.invokevirtual 131, 3) := by decide +kernel
theorem dX7_crossingPoints_11 : decode cX7_crossingPoints 11 = .ok (.aload_n 0, 1) := by decide +kernel
theorem dX7_crossingPoints_12 : decode cX7_crossingPoints 12 = .ok (.getfield 46, 3) := by decide +kernel
theorem dX7_crossingPoints_15 : decode cX7_crossingPoints 15 = .ok (.aload_n 0, 1) := by decide +kernel
theorem dX7_crossingPoints_16 : decode cX7_crossingPoints 16 = .ok (.getfield 10, 3) := by decide +kernel
theorem dX7_crossingPoints_19 : decode cX7_crossingPoints 19 = .ok (.invokevirtual 330, 3) := by decide +kernel
theorem dX7_crossingPoints_22 : decode cX7_crossingPoints 22 = .ok (.ireturn, 1) := by decide +kernel
theorem dX7_stripOf_0 : decode cX7_stripOf 0 = .ok (.aload_n 0, 1) := by decide +kernel
theorem dX7_stripOf_1 : decode cX7_stripOf 1 = .ok (.getfield 53, 3) := by decide +kernel
theorem dX7_stripOf_4 : decode cX7_stripOf 4 = .ok (.aload_n 0, 1) := by decide +kernel
theorem dX7_stripOf_5 : decode cX7_stripOf 5 = .ok (.getfield 10, 3) := by decide +kernel
theorem dX7_stripOf_8 : decode cX7_stripOf 8 = .ok (.invokevirtual 244, 3) := by decide +kernel
theorem dX7_stripOf_11 : decode cX7_stripOf 11 = .ok (.aload_n 0, 1) := by decide +kernel
theorem dX7_stripOf_12 : decode cX7_stripOf 12 = .ok (.getfield 53, 3) := by decide +kernel
theorem dX7_stripOf_15 : decode cX7_stripOf 15 = .ok (.iload_n 1, 1) := by decide +kernel
theorem dX7_stripOf_16 : decode cX7_stripOf 16 = .ok (.invokevirtual 333, 3) := by decide +kernel
theorem dX7_stripOf_19 : decode cX7_stripOf 19 = .ok (.ireturn, 1) := by decide +kernel
theorem dX7_stripsInAll_0 : decode cX7_stripsInAll 0 = .ok (.aload_n 0, 1) := by decide +kernel
theorem dX7_stripsInAll_1 : decode cX7_stripsInAll 1 = .ok (.getfield 53, 3) := by decide +kernel
theorem dX7_stripsInAll_4 : decode cX7_stripsInAll 4 = .ok (.aload_n 0, 1) := by decide +kernel
theorem dX7_stripsInAll_5 : decode cX7_stripsInAll 5 = .ok (.getfield 10, 3) := by decide +kernel
theorem dX7_stripsInAll_8 : decode cX7_stripsInAll 8 = .ok (.invokevirtual 244, 3) := by decide +kernel
theorem dX7_stripsInAll_11 : decode cX7_stripsInAll 11 = .ok (.aload_n 0, 1) := by decide +kernel
theorem dX7_stripsInAll_12 : decode cX7_stripsInAll 12 = .ok (.getfield 53, 3) := by decide +kernel
theorem dX7_stripsInAll_15 : decode cX7_stripsInAll 15 = .ok (.getfield 247, 3) := by decide +kernel
theorem dX7_stripsInAll_18 : decode cX7_stripsInAll 18 = .ok (.ireturn, 1) := by decide +kernel
theorem dX7_isLane_0 : decode cX7_isLane 0 = .ok (.iload_n 0, 1) := by decide +kernel
theorem dX7_isLane_1 : decode cX7_isLane 1 = .ok (.ifCond .lt 13, 3) := by decide +kernel
theorem dX7_isLane_4 : decode cX7_isLane 4 = .ok (.iload_n 0, 1) := by decide +kernel
theorem dX7_isLane_5 : decode cX7_isLane 5 = .ok (.bipush 12, 2) := by decide +kernel
theorem dX7_isLane_7 : decode cX7_isLane 7 = .ok (.if_icmp .ge 7, 3) := by decide +kernel
theorem dX7_isLane_10 : decode cX7_isLane 10 = .ok (.iconst 1, 1) := by decide +kernel
theorem dX7_isLane_11 : decode cX7_isLane 11 = .ok (.goto 4, 3) := by decide +kernel
theorem dX7_isLane_14 : decode cX7_isLane 14 = .ok (.iconst 0, 1) := by decide +kernel
theorem dX7_isLane_15 : decode cX7_isLane 15 = .ok (.ireturn, 1) := by decide +kernel
theorem dX7_isDay_0 : decode cX7_isDay 0 = .ok (.iload_n 0, 1) := by decide +kernel
theorem dX7_isDay_1 : decode cX7_isDay 1 = .ok (.ifCond .lt 14, 3) := by decide +kernel
theorem dX7_isDay_4 : decode cX7_isDay 4 = .ok (.iload_n 0, 1) := by decide +kernel
theorem dX7_isDay_5 : decode cX7_isDay 5 = .ok (.sipush 200, 3) := by decide +kernel
theorem dX7_isDay_8 : decode cX7_isDay 8 = .ok (.if_icmp .ge 7, 3) := by decide +kernel
theorem dX7_isDay_11 : decode cX7_isDay 11 = .ok (.iconst 1, 1) := by decide +kernel
theorem dX7_isDay_12 : decode cX7_isDay 12 = .ok (.goto 4, 3) := by decide +kernel
theorem dX7_isDay_15 : decode cX7_isDay 15 = .ok (.iconst 0, 1) := by decide +kernel
theorem dX7_isDay_16 : decode cX7_isDay 16 = .ok (.ireturn, 1) := by decide +kernel
theorem dX7_isSetting_0 : decode cX7_isSetting 0 = .ok (.iload_n 0, 1) := by decide +kernel
theorem dX7_isSetting_1 : decode cX7_isSetting 1 = .ok (.lookupswitch 61 #[(0, 27), (1, 42)], 27) := by decide +kernel
theorem dX7_isSetting_28 : decode cX7_isSetting 28 = .ok (.iload_n 1, 1) := by decide +kernel
theorem dX7_isSetting_29 : decode cX7_isSetting 29 = .ok (.ifCond .lt 12, 3) := by decide +kernel
theorem dX7_isSetting_32 : decode cX7_isSetting 32 = .ok (.iload_n 1, 1) := by decide +kernel
theorem dX7_isSetting_33 : decode cX7_isSetting 33 = .ok (.iconst 2, 1) := by decide +kernel
theorem dX7_isSetting_34 : decode cX7_isSetting 34 = .ok (.if_icmp .gt 7, 3) := by decide +kernel
theorem dX7_isSetting_37 : decode cX7_isSetting 37 = .ok (.iconst 1, 1) := by decide +kernel
theorem dX7_isSetting_38 : decode cX7_isSetting 38 = .ok (.goto 4, 3) := by decide +kernel
theorem dX7_isSetting_41 : decode cX7_isSetting 41 = .ok (.iconst 0, 1) := by decide +kernel
theorem dX7_isSetting_42 : decode cX7_isSetting 42 = .ok (.ireturn, 1) := by decide +kernel
theorem dX7_isSetting_43 : decode cX7_isSetting 43 = .ok (.iload_n 1, 1) := by decide +kernel
theorem dX7_isSetting_44 : decode cX7_isSetting 44 = .ok (.bipush 10, 2) := by decide +kernel
theorem dX7_isSetting_46 : decode cX7_isSetting 46 = .ok (.if_icmp .lt 14, 3) := by decide +kernel
theorem dX7_isSetting_49 : decode cX7_isSetting 49 = .ok (.iload_n 1, 1) := by decide +kernel
theorem dX7_isSetting_50 : decode cX7_isSetting 50 = .ok (.sipush 999, 3) := by decide +kernel
theorem dX7_isSetting_53 : decode cX7_isSetting 53 = .ok (.if_icmp .gt 7, 3) := by decide +kernel
theorem dX7_isSetting_56 : decode cX7_isSetting 56 = .ok (.iconst 1, 1) := by decide +kernel
theorem dX7_isSetting_57 : decode cX7_isSetting 57 = .ok (.goto 4, 3) := by decide +kernel
theorem dX7_isSetting_60 : decode cX7_isSetting 60 = .ok (.iconst 0, 1) := by decide +kernel
theorem dX7_isSetting_61 : decode cX7_isSetting 61 = .ok (.ireturn, 1) := by decide +kernel
theorem dX7_isSetting_62 : decode cX7_isSetting 62 = .ok (.iconst 0, 1) := by decide +kernel
theorem dX7_isSetting_63 : decode cX7_isSetting 63 = .ok (.ireturn, 1) := by decide +kernel
theorem dX8_init_0 : decode cX8_init 0 = .ok (.aload_n 0, 1) := by decide +kernel
theorem dX8_init_1 : decode cX8_init 1 = .ok (.invokespecial 1, 3) := by decide +kernel
theorem dX8_init_4 : decode cX8_init 4 = .ok (.aload_n 0, 1) := by decide +kernel
theorem dX8_init_5 : decode cX8_init 5 = .ok (.sipush 447, 3) := by decide +kernel
theorem dX8_init_8 : decode cX8_init 8 = .ok (.newarray .int, 2) := by decide +kernel
theorem dX8_init_10 : decode cX8_init 10 = .ok (.putfield 7, 3) := by decide +kernel
theorem dX8_init_13 : decode cX8_init 13 = .ok (.aload_n 0, 1) := by decide +kernel
theorem dX8_init_14 : decode cX8_init 14 = .ok (.sipush 447, 3) := by decide +kernel
theorem dX8_init_17 : decode cX8_init 17 = .ok (.newarray .int, 2) := by decide +kernel
theorem dX8_init_19 : decode cX8_init 19 = .ok (.putfield 13, 3) := by decide +kernel
theorem dX8_init_22 : decode cX8_init 22 = .ok (.aload_n 0, 1) := by decide +kernel
theorem dX8_init_23 : decode cX8_init 23 = .ok (.sipush 1788, 3) := by decide +kernel
theorem dX8_init_26 : decode cX8_init 26 = .ok (.newarray .int, 2) := by decide +kernel
theorem dX8_init_28 : decode cX8_init 28 = .ok (.putfield 16, 3) := by decide +kernel
theorem dX8_init_31 : decode cX8_init 31 = .ok (.aload_n 0, 1) := by decide +kernel
theorem dX8_init_32 : decode cX8_init 32 = .ok (.sipush 447, 3) := by decide +kernel
theorem dX8_init_35 : decode cX8_init 35 = .ok (.newarray .int, 2) := by decide +kernel
theorem dX8_init_37 : decode cX8_init 37 = .ok (.putfield 19, 3) := by decide +kernel
theorem dX8_init_40 : decode cX8_init 40 = .ok (.aload_n 0, 1) := by decide +kernel
theorem dX8_init_41 : decode cX8_init 41 = .ok (.bipush 60, 2) := by decide +kernel
theorem dX8_init_43 : decode cX8_init 43 = .ok (.newarray .int, 2) := by decide +kernel
theorem dX8_init_45 : decode cX8_init 45 = .ok (.putfield 22, 3) := by decide +kernel
theorem dX8_init_48 : decode cX8_init 48 = .ok (.aload_n 0, 1) := by decide +kernel
theorem dX8_init_49 : decode cX8_init 49 = .ok (.bipush 40, 2) := by decide +kernel
theorem dX8_init_51 : decode cX8_init 51 = .ok (.newarray .int, 2) := by decide +kernel
theorem dX8_init_53 : decode cX8_init 53 = .ok (.putfield 25, 3) := by decide +kernel
theorem dX8_init_56 : decode cX8_init 56 = .ok (.aload_n 0, 1) := by decide +kernel
theorem dX8_init_57 : decode cX8_init 57 = .ok (.sipush 900, 3) := by decide +kernel
theorem dX8_init_60 : decode cX8_init 60 = .ok (.newarray .boolean, 2) := by decide +kernel
theorem dX8_init_62 : decode cX8_init 62 = .ok (.putfield 28, 3) := by decide +kernel
theorem dX8_init_65 : decode cX8_init 65 = .ok (.aload_n 0, 1) := by decide +kernel
theorem dX8_init_66 : decode cX8_init 66 = .ok (.bipush 30, 2) := by decide +kernel
theorem dX8_init_68 : decode cX8_init 68 = .ok (.newarray .int, 2) := by decide +kernel
theorem dX8_init_70 : decode cX8_init 70 = .ok (.putfield 32, 3) := by decide +kernel
theorem dX8_init_73 : decode cX8_init 73 = .ok (.aload_n 0, 1) := by decide +kernel
theorem dX8_init_74 : decode cX8_init 74 = .ok (.bipush 30, 2) := by decide +kernel
theorem dX8_init_76 : decode cX8_init 76 = .ok (.newarray .boolean, 2) := by decide +kernel
theorem dX8_init_78 : decode cX8_init 78 = .ok (.putfield 35, 3) := by decide +kernel
theorem dX8_init_81 : decode cX8_init 81 = .ok (.aload_n 0, 1) := by decide +kernel
theorem dX8_init_82 : decode cX8_init 82 = .ok (.bipush 30, 2) := by decide +kernel
theorem dX8_init_84 : decode cX8_init 84 = .ok (.newarray .int, 2) := by decide +kernel
theorem dX8_init_86 : decode cX8_init 86 = .ok (.putfield 38, 3) := by decide +kernel
theorem dX8_init_89 : decode cX8_init 89 = .ok (.iconst 0, 1) := by decide +kernel
theorem dX8_init_90 : decode cX8_init 90 = .ok (.istore_n 1, 1) := by decide +kernel
theorem dX8_init_91 : decode cX8_init 91 = .ok (.iload_n 1, 1) := by decide +kernel
theorem dX8_init_92 : decode cX8_init 92 = .ok (.sipush 200, 3) := by decide +kernel
theorem dX8_init_95 : decode cX8_init 95 = .ok (.if_icmp .ge 20, 3) := by decide +kernel
theorem dX8_init_98 : decode cX8_init 98 = .ok (.aload_n 0, 1) := by decide +kernel
theorem dX8_init_99 : decode cX8_init 99 = .ok (.getfield 7, 3) := by decide +kernel
theorem dX8_init_102 : decode cX8_init 102 = .ok (.sipush 242, 3) := by decide +kernel
theorem dX8_init_105 : decode cX8_init 105 = .ok (.iload_n 1, 1) := by decide +kernel
theorem dX8_init_106 : decode cX8_init 106 = .ok (.iadd, 1) := by decide +kernel
theorem dX8_init_107 : decode cX8_init 107 = .ok (.iconst 2, 1) := by decide +kernel
theorem dX8_init_108 : decode cX8_init 108 = .ok (.iastore, 1) := by decide +kernel
theorem dX8_init_109 : decode cX8_init 109 = .ok (.iinc 1 1, 3) := by decide +kernel
theorem dX8_init_112 : decode cX8_init 112 = .ok (.goto (-21), 3) := by decide +kernel
theorem dX8_init_115 : decode cX8_init 115 = .ok (.aload_n 0, 1) := by decide +kernel
theorem dX8_init_116 : decode cX8_init 116 = .ok (.getfield 7, 3) := by decide +kernel
theorem dX8_init_119 : decode cX8_init 119 = .ok (.sipush 443, 3) := by decide +kernel
theorem dX8_init_122 : decode cX8_init 122 = .ok (.bipush 60, 2) := by decide +kernel
theorem dX8_init_124 : decode cX8_init 124 = .ok (.iastore, 1) := by decide +kernel
theorem dX8_init_125 : decode cX8_init 125 = .ok (.return_, 1) := by decide +kernel
theorem dX8_in_0 : decode cX8_in 0 = .ok (.iload_n 0, 1) := by decide +kernel
theorem dX8_in_1 : decode cX8_in 1 = .ok (.iload_n 1, 1) := by decide +kernel
theorem dX8_in_2 : decode cX8_in 2 = .ok (.if_icmp .lt 12, 3) := by decide +kernel
theorem dX8_in_5 : decode cX8_in 5 = .ok (.iload_n 0, 1) := by decide +kernel
theorem dX8_in_6 : decode cX8_in 6 = .ok (.iload_n 2, 1) := by decide +kernel
theorem dX8_in_7 : decode cX8_in 7 = .ok (.if_icmp .gt 7, 3) := by decide +kernel
theorem dX8_in_10 : decode cX8_in 10 = .ok (.iconst 1, 1) := by decide +kernel
theorem dX8_in_11 : decode cX8_in 11 = .ok (.goto 4, 3) := by decide +kernel
theorem dX8_in_14 : decode cX8_in 14 = .ok (.iconst 0, 1) := by decide +kernel
theorem dX8_in_15 : decode cX8_in 15 = .ok (.ireturn, 1) := by decide +kernel
theorem dX8_least_0 : decode cX8_least 0 = .ok (.iload_n 0, 1) := by decide +kernel
theorem dX8_least_1 : decode cX8_least 1 = .ok (.iload_n 1, 1) := by decide +kernel
theorem dX8_least_2 : decode cX8_least 2 = .ok (.if_icmp .ge 7, 3) := by decide +kernel
theorem dX8_least_5 : decode cX8_least 5 = .ok (.iload_n 0, 1) := by decide +kernel
theorem dX8_least_6 : decode cX8_least 6 = .ok (.goto 4, 3) := by decide +kernel
theorem dX8_least_9 : decode cX8_least 9 = .ok (.iload_n 1, 1) := by decide +kernel
theorem dX8_least_10 : decode cX8_least 10 = .ok (.ireturn, 1) := by decide +kernel
theorem dX8_most_0 : decode cX8_most 0 = .ok (.iload_n 0, 1) := by decide +kernel
theorem dX8_most_1 : decode cX8_most 1 = .ok (.iload_n 1, 1) := by decide +kernel
theorem dX8_most_2 : decode cX8_most 2 = .ok (.if_icmp .le 7, 3) := by decide +kernel
theorem dX8_most_5 : decode cX8_most 5 = .ok (.iload_n 0, 1) := by decide +kernel
theorem dX8_most_6 : decode cX8_most 6 = .ok (.goto 4, 3) := by decide +kernel
theorem dX8_most_9 : decode cX8_most 9 = .ok (.iload_n 1, 1) := by decide +kernel
theorem dX8_most_10 : decode cX8_most 10 = .ok (.ireturn, 1) := by decide +kernel
theorem dX8_putAside_0 : decode cX8_putAside 0 = .ok (.iconst 0, 1) := by decide +kernel
theorem dX8_putAside_1 : decode cX8_putAside 1 = .ok (.istore_n 1, 1) := by decide +kernel
theorem dX8_putAside_2 : decode cX8_putAside 2 = .ok (.iload_n 1, 1) := by decide +kernel
theorem dX8_putAside_3 : decode cX8_putAside 3 = .ok (.sipush 447, 3) := by decide +kernel
theorem dX8_putAside_6 : decode cX8_putAside 6 = .ok (.if_icmp .ge 21, 3) := by decide +kernel
theorem dX8_putAside_9 : decode cX8_putAside 9 = .ok (.aload_n 0, 1) := by decide +kernel
theorem dX8_putAside_10 : decode cX8_putAside 10 = .ok (.getfield 13, 3) := by decide +kernel
theorem dX8_putAside_13 : decode cX8_putAside 13 = .ok (.iload_n 1, 1) := by decide +kernel
theorem dX8_putAside_14 : decode cX8_putAside 14 = .ok (.aload_n 0, 1) := by decide +kernel
theorem dX8_putAside_15 : decode cX8_putAside 15 = .ok (.getfield 7, 3) := by decide +kernel
theorem dX8_putAside_18 : decode cX8_putAside 18 = .ok (.iload_n 1, 1) := by decide +kernel
theorem dX8_putAside_19 : decode cX8_putAside 19 = .ok (.iaload, 1) := by decide +kernel
theorem dX8_putAside_20 : decode cX8_putAside 20 = .ok (.iastore, 1) := by decide +kernel
theorem dX8_putAside_21 : decode cX8_putAside 21 = .ok (.iinc 1 1, 3) := by decide +kernel
theorem dX8_putAside_24 : decode cX8_putAside 24 = .ok (.goto (-22), 3) := by decide +kernel
theorem dX8_putAside_27 : decode cX8_putAside 27 = .ok (.return_, 1) := by decide +kernel
theorem dX8_putBack_0 : decode cX8_putBack 0 = .ok (.iconst 0, 1) := by decide +kernel
theorem dX8_putBack_1 : decode cX8_putBack 1 = .ok (.istore_n 1, 1) := by decide +kernel
theorem dX8_putBack_2 : decode cX8_putBack 2 = .ok (.iload_n 1, 1) := by decide +kernel
theorem dX8_putBack_3 : decode cX8_putBack 3 = .ok (.sipush 447, 3) := by decide +kernel
theorem dX8_putBack_6 : decode cX8_putBack 6 = .ok (.if_icmp .ge 21, 3) := by decide +kernel
theorem dX8_putBack_9 : decode cX8_putBack 9 = .ok (.aload_n 0, 1) := by decide +kernel
theorem dX8_putBack_10 : decode cX8_putBack 10 = .ok (.getfield 7, 3) := by decide +kernel
theorem dX8_putBack_13 : decode cX8_putBack 13 = .ok (.iload_n 1, 1) := by decide +kernel
theorem dX8_putBack_14 : decode cX8_putBack 14 = .ok (.aload_n 0, 1) := by decide +kernel
theorem dX8_putBack_15 : decode cX8_putBack 15 = .ok (.getfield 13, 3) := by decide +kernel
theorem dX8_putBack_18 : decode cX8_putBack 18 = .ok (.iload_n 1, 1) := by decide +kernel
theorem dX8_putBack_19 : decode cX8_putBack 19 = .ok (.iaload, 1) := by decide +kernel
theorem dX8_putBack_20 : decode cX8_putBack 20 = .ok (.iastore, 1) := by decide +kernel
theorem dX8_putBack_21 : decode cX8_putBack 21 = .ok (.iinc 1 1, 3) := by decide +kernel
theorem dX8_putBack_24 : decode cX8_putBack 24 = .ok (.goto (-22), 3) := by decide +kernel
theorem dX8_putBack_27 : decode cX8_putBack 27 = .ok (.return_, 1) := by decide +kernel
theorem dX8_act_0 : decode cX8_act 0 = .ok (.iload_n 1, 1) := by decide +kernel
theorem dX8_act_1 : decode cX8_act 1 = .ok (.ifCond .ge 9, 3) := by decide +kernel
theorem dX8_act_4 : decode cX8_act 4 = .ok (.aload_n 0, 1) := by decide +kernel
theorem dX8_act_5 : decode cX8_act 5 = .ok (.invokevirtual 41, 3) := by decide +kernel
theorem dX8_act_8 : decode cX8_act 8 = .ok (.iload_n 1, 1) := by decide +kernel
theorem dX8_act_9 : decode cX8_act 9 = .ok (.ireturn, 1) := by decide +kernel
theorem dX8_act_10 : decode cX8_act 10 = .ok (.aload_n 0, 1) := by decide +kernel
theorem dX8_act_11 : decode cX8_act 11 = .ok (.getfield 44, 3) := by decide +kernel
theorem dX8_act_14 : decode cX8_act 14 = .ok (.iconst 4, 1) := by decide +kernel
theorem dX8_act_15 : decode cX8_act 15 = .ok (.if_icmp .ne 44, 3) := by decide +kernel
theorem dX8_act_18 : decode cX8_act 18 = .ok (.iconst 0, 1) := by decide +kernel
theorem dX8_act_19 : decode cX8_act 19 = .ok (.istore_n 2, 1) := by decide +kernel
theorem dX8_act_20 : decode cX8_act 20 = .ok (.iload_n 2, 1) := by decide +kernel
theorem dX8_act_21 : decode cX8_act 21 = .ok (.sipush 1341, 3) := by decide +kernel
theorem dX8_act_24 : decode cX8_act 24 = .ok (.if_icmp .ge 25, 3) := by decide +kernel
theorem dX8_act_27 : decode cX8_act 27 = .ok (.aload_n 0, 1) := by decide +kernel
theorem dX8_act_28 : decode cX8_act 28 = .ok (.getfield 16, 3) := by decide +kernel
theorem dX8_act_31 : decode cX8_act 31 = .ok (.iload_n 2, 1) := by decide +kernel
theorem dX8_act_32 : decode cX8_act 32 = .ok (.aload_n 0, 1) := by decide +kernel
theorem dX8_act_33 : decode cX8_act 33 = .ok (.getfield 16, 3) := by decide +kernel
theorem dX8_act_36 : decode cX8_act 36 = .ok (.sipush 447, 3) := by decide +kernel
theorem dX8_act_39 : decode cX8_act 39 = .ok (.iload_n 2, 1) := by decide +kernel
theorem dX8_act_40 : decode cX8_act 40 = .ok (.iadd, 1) := by decide +kernel
theorem dX8_act_41 : decode cX8_act 41 = .ok (.iaload, 1) := by decide +kernel
theorem dX8_act_42 : decode cX8_act 42 = .ok (.iastore, 1) := by decide +kernel
theorem dX8_act_43 : decode cX8_act 43 = .ok (.iinc 2 1, 3) := by decide +kernel
theorem dX8_act_46 : decode cX8_act 46 = .ok (.goto (-26), 3) := by decide +kernel
theorem dX8_act_49 : decode cX8_act 49 = .ok (.aload_n 0, 1) := by decide +kernel
theorem dX8_act_50 : decode cX8_act 50 = .ok (.dup, 1) := by decide +kernel
theorem dX8_act_51 : decode cX8_act 51 = .ok (.getfield 44, 3) := by decide +kernel
theorem dX8_act_54 : decode cX8_act 54 = .ok (.iconst 1, 1) := by decide +kernel
theorem dX8_act_55 : decode cX8_act 55 = .ok (.isub, 1) := by decide +kernel
theorem dX8_act_56 : decode cX8_act 56 = .ok (.putfield 44, 3) := by decide +kernel
theorem dX8_act_59 : decode cX8_act 59 = .ok (.iconst 0, 1) := by decide +kernel
theorem dX8_act_60 : decode cX8_act 60 = .ok (.istore_n 2, 1) := by decide +kernel
theorem dX8_act_61 : decode cX8_act 61 = .ok (.iload_n 2, 1) := by decide +kernel
theorem dX8_act_62 : decode cX8_act 62 = .ok (.sipush 447, 3) := by decide +kernel
theorem dX8_act_65 : decode cX8_act 65 = .ok (.if_icmp .ge 30, 3) := by decide +kernel
theorem dX8_act_68 : decode cX8_act 68 = .ok (.aload_n 0, 1) := by decide +kernel
theorem dX8_act_69 : decode cX8_act 69 = .ok (.getfield 16, 3) := by decide +kernel
theorem dX8_act_72 : decode cX8_act 72 = .ok (.sipush 447, 3) := by decide +kernel
theorem dX8_act_75 : decode cX8_act 75 = .ok (.aload_n 0, 1) := by decide +kernel
theorem dX8_act_76 : decode cX8_act 76 = .ok (.getfield 44, 3) := by decide +kernel
theorem dX8_act_79 : decode cX8_act 79 = .ok (.imul, 1) := by decide +kernel
theorem dX8_act_80 : decode cX8_act 80 = .ok (.iload_n 2, 1) := by decide +kernel
theorem dX8_act_81 : decode cX8_act 81 = .ok (.iadd, 1) := by decide +kernel
theorem dX8_act_82 : decode cX8_act 82 = .ok (.aload_n 0, 1) := by decide +kernel
theorem dX8_act_83 : decode cX8_act 83 = .ok (.getfield 13, 3) := by decide +kernel
theorem dX8_act_86 : decode cX8_act 86 = .ok (.iload_n 2, 1) := by decide +kernel
theorem dX8_act_87 : decode cX8_act 87 = .ok (.iaload, 1) := by decide +kernel
theorem dX8_act_88 : decode cX8_act 88 = .ok (.iastore, 1) := by decide +kernel
theorem dX8_act_89 : decode cX8_act 89 = .ok (.iinc 2 1, 3) := by decide +kernel
theorem dX8_act_92 : decode cX8_act 92 = .ok (.goto (-31), 3) := by decide +kernel
theorem dX8_act_95 : decode cX8_act 95 = .ok (.aload_n 0, 1) := by decide +kernel
theorem dX8_act_96 : decode cX8_act 96 = .ok (.dup, 1) := by decide +kernel
theorem dX8_act_97 : decode cX8_act 97 = .ok (.getfield 44, 3) := by decide +kernel
theorem dX8_act_100 : decode cX8_act 100 = .ok (.iconst 1, 1) := by decide +kernel
theorem dX8_act_101 : decode cX8_act 101 = .ok (.iadd, 1) := by decide +kernel
theorem dX8_act_102 : decode cX8_act 102 = .ok (.putfield 44, 3) := by decide +kernel
theorem dX8_act_105 : decode cX8_act 105 = .ok (.iload_n 1, 1) := by decide +kernel
theorem dX8_act_106 : decode cX8_act 106 = .ok (.ireturn, 1) := by decide +kernel
theorem dX8_of_0 : decode cX8_of 0 = .ok (.aload_n 0, 1) := by decide +kernel
theorem dX8_of_1 : decode cX8_of 1 = .ok (.getfield 7, 3) := by decide +kernel
theorem dX8_of_4 : decode cX8_of 4 = .ok (.iconst 1, 1) := by decide +kernel
theorem dX8_of_5 : decode cX8_of 5 = .ok (.iconst 4, 1) := by decide +kernel
theorem dX8_of_6 : decode cX8_of 6 = .ok (.iload_n 1, 1) := by decide +kernel
theorem dX8_of_7 : decode cX8_of 7 = .ok (.imul, 1) := by decide +kernel
theorem dX8_of_8 : decode cX8_of 8 = .ok (.iadd, 1) := by decide +kernel
theorem dX8_of_9 : decode cX8_of 9 = .ok (.iload_n 2, 1) := by decide +kernel
theorem dX8_of_10 : decode cX8_of 10 = .ok (.iadd, 1) := by decide +kernel
theorem dX8_of_11 : decode cX8_of 11 = .ok (.iaload, 1) := by decide +kernel
theorem dX8_of_12 : decode cX8_of 12 = .ok (.ireturn, 1) := by decide +kernel
theorem dX8_end_0 : decode cX8_end 0 = .ok (.aload_n 0, 1) := by decide +kernel
end
section
theorem dX8_end_1 : decode cX8_end 1 = .ok (.iload_n 1, 1) := by decide +kernel
theorem dX8_end_2 : decode cX8_end 2 = .ok (.iconst 2, 1) := by decide +kernel
theorem dX8_end_3 : decode cX8_end 3 = .ok (.invokevirtual 48, 3) := by decide +kernel
theorem dX8_end_6 : decode cX8_end 6 = .ok (.aload_n 0, 1) := by decide +kernel
theorem dX8_end_7 : decode cX8_end 7 = .ok (.iload_n 1, 1) := by decide +kernel
theorem dX8_end_8 : decode cX8_end 8 = .ok (.iconst 3, 1) := by decide +kernel
theorem dX8_end_9 : decode cX8_end 9 = .ok (.invokevirtual 48, 3) := by decide +kernel
theorem dX8_end_12 : decode cX8_end 12 = .ok (.iadd, 1) := by decide +kernel
theorem dX8_end_13 : decode cX8_end 13 = .ok (.ireturn, 1) := by decide +kernel
theorem dX8_find_0 : decode cX8_find 0 = .ok (.iconst 0, 1) := by decide +kernel
theorem dX8_find_1 : decode cX8_find 1 = .ok (.istore_n 2, 1) := by decide +kernel
theorem dX8_find_2 : decode cX8_find 2 = .ok (.iload_n 2, 1) := by decide +kernel
theorem dX8_find_3 : decode cX8_find 3 = .ok (.aload_n 0, 1) := by decide +kernel
theorem dX8_find_4 : decode cX8_find 4 = .ok (.getfield 7, 3) := by decide +kernel
theorem dX8_find_7 : decode cX8_find 7 = .ok (.iconst 0, 1) := by decide +kernel
theorem dX8_find_8 : decode cX8_find 8 = .ok (.iaload, 1) := by decide +kernel
theorem dX8_find_9 : decode cX8_find 9 = .ok (.if_icmp .ge 21, 3) := by decide +kernel
theorem dX8_find_12 : decode cX8_find 12 = .ok (.aload_n 0, 1) := by decide +kernel
theorem dX8_find_13 : decode cX8_find 13 = .ok (.iload_n 2, 1) := by decide +kernel
theorem dX8_find_14 : decode cX8_find 14 = .ok (.iconst 0, 1) := by decide +kernel
theorem dX8_find_15 : decode cX8_find 15 = .ok (.invokevirtual 48, 3) := by decide +kernel
theorem dX8_find_18 : decode cX8_find 18 = .ok (.iload_n 1, 1) := by decide +kernel
theorem dX8_find_19 : decode cX8_find 19 = .ok (.if_icmp .ne 5, 3) := by decide +kernel
theorem dX8_find_22 : decode cX8_find 22 = .ok (.iload_n 2, 1) := by decide +kernel
theorem dX8_find_23 : decode cX8_find 23 = .ok (.ireturn, 1) := by decide +kernel
theorem dX8_find_24 : decode cX8_find 24 = .ok (.iinc 2 1, 3) := by decide +kernel
theorem dX8_find_27 : decode cX8_find 27 = .ok (.goto (-25), 3) := by decide +kernel
theorem dX8_find_30 : decode cX8_find 30 = .ok (.bipush (-5), 2) := by decide +kernel
theorem dX8_find_32 : decode cX8_find 32 = .ok (.ireturn, 1) := by decide +kernel
theorem dX8_findArrow_0 : decode cX8_findArrow 0 = .ok (.iconst 0, 1) := by decide +kernel
theorem dX8_findArrow_1 : decode cX8_findArrow 1 = .ok (.istore_n 2, 1) := by decide +kernel
theorem dX8_findArrow_2 : decode cX8_findArrow 2 = .ok (.iload_n 2, 1) := by decide +kernel
theorem dX8_findArrow_3 : decode cX8_findArrow 3 = .ok (.aload_n 0, 1) := by decide +kernel
theorem dX8_findArrow_4 : decode cX8_findArrow 4 = .ok (.getfield 7, 3) := by decide +kernel
theorem dX8_findArrow_7 : decode cX8_findArrow 7 = .ok (.bipush 121, 2) := by decide +kernel
theorem dX8_findArrow_9 : decode cX8_findArrow 9 = .ok (.iaload, 1) := by decide +kernel
theorem dX8_findArrow_10 : decode cX8_findArrow 10 = .ok (.if_icmp .ge 26, 3) := by decide +kernel
theorem dX8_findArrow_13 : decode cX8_findArrow 13 = .ok (.aload_n 0, 1) := by decide +kernel
theorem dX8_findArrow_14 : decode cX8_findArrow 14 = .ok (.getfield 7, 3) := by decide +kernel
theorem dX8_findArrow_17 : decode cX8_findArrow 17 = .ok (.bipush 122, 2) := by decide +kernel
theorem dX8_findArrow_19 : decode cX8_findArrow 19 = .ok (.iconst 3, 1) := by decide +kernel
theorem dX8_findArrow_20 : decode cX8_findArrow 20 = .ok (.iload_n 2, 1) := by decide +kernel
theorem dX8_findArrow_21 : decode cX8_findArrow 21 = .ok (.imul, 1) := by decide +kernel
theorem dX8_findArrow_22 : decode cX8_findArrow 22 = .ok (.iadd, 1) := by decide +kernel
theorem dX8_findArrow_23 : decode cX8_findArrow 23 = .ok (.iaload, 1) := by decide +kernel
theorem dX8_findArrow_24 : decode cX8_findArrow 24 = .ok (.iload_n 1, 1) := by decide +kernel
theorem dX8_findArrow_25 : decode cX8_findArrow 25 = .ok (.if_icmp .ne 5, 3) := by decide +kernel
theorem dX8_findArrow_28 : decode cX8_findArrow 28 = .ok (.iload_n 2, 1) := by decide +kernel
theorem dX8_findArrow_29 : decode cX8_findArrow 29 = .ok (.ireturn, 1) := by decide +kernel
theorem dX8_findArrow_30 : decode cX8_findArrow 30 = .ok (.iinc 2 1, 3) := by decide +kernel
theorem dX8_findArrow_33 : decode cX8_findArrow 33 = .ok (.goto (-31), 3) := by decide +kernel
theorem dX8_findArrow_36 : decode cX8_findArrow 36 = .ok (.bipush (-5), 2) := by decide +kernel
theorem dX8_findArrow_38 : decode cX8_findArrow 38 = .ok (.ireturn, 1) := by decide +kernel
theorem dX8_from_0 : decode cX8_from 0 = .ok (.aload_n 0, 1) := by decide +kernel
theorem dX8_from_1 : decode cX8_from 1 = .ok (.aload_n 0, 1) := by decide +kernel
theorem dX8_from_2 : decode cX8_from 2 = .ok (.getfield 7, 3) := by decide +kernel
theorem dX8_from_5 : decode cX8_from 5 = .ok (.bipush 122, 2) := by decide +kernel
theorem dX8_from_7 : decode cX8_from 7 = .ok (.iconst 3, 1) := by decide +kernel
theorem dX8_from_8 : decode cX8_from 8 = .ok (.iload_n 1, 1) := by decide +kernel
theorem dX8_from_9 : decode cX8_from 9 = .ok (.imul, 1) := by decide +kernel
theorem dX8_from_10 : decode cX8_from 10 = .ok (.iadd, 1) := by decide +kernel
theorem dX8_from_11 : decode cX8_from 11 = .ok (.iconst 1, 1) := by decide +kernel
theorem dX8_from_12 : decode cX8_from 12 = .ok (.iadd, 1) := by decide +kernel
theorem dX8_from_13 : decode cX8_from 13 = .ok (.iaload, 1) := by decide +kernel
theorem dX8_from_14 : decode cX8_from 14 = .ok (.invokevirtual 52, 3) := by decide +kernel
theorem dX8_from_17 : decode cX8_from 17 = .ok (.ireturn, 1) := by decide +kernel
theorem dX8_to_0 : decode cX8_to 0 = .ok (.aload_n 0, 1) := by decide +kernel
theorem dX8_to_1 : decode cX8_to 1 = .ok (.aload_n 0, 1) := by decide +kernel
theorem dX8_to_2 : decode cX8_to 2 = .ok (.getfield 7, 3) := by decide +kernel
theorem dX8_to_5 : decode cX8_to 5 = .ok (.bipush 122, 2) := by decide +kernel
theorem dX8_to_7 : decode cX8_to 7 = .ok (.iconst 3, 1) := by decide +kernel
theorem dX8_to_8 : decode cX8_to 8 = .ok (.iload_n 1, 1) := by decide +kernel
theorem dX8_to_9 : decode cX8_to 9 = .ok (.imul, 1) := by decide +kernel
theorem dX8_to_10 : decode cX8_to 10 = .ok (.iadd, 1) := by decide +kernel
theorem dX8_to_11 : decode cX8_to 11 = .ok (.iconst 2, 1) := by decide +kernel
theorem dX8_to_12 : decode cX8_to 12 = .ok (.iadd, 1) := by decide +kernel
theorem dX8_to_13 : decode cX8_to 13 = .ok (.iaload, 1) := by decide +kernel
theorem dX8_to_14 : decode cX8_to 14 = .ok (.invokevirtual 52, 3) := by decide +kernel
theorem dX8_to_17 : decode cX8_to 17 = .ok (.ireturn, 1) := by decide +kernel
theorem dX8_within_0 : decode cX8_within 0 = .ok (.iconst 0, 1) := by decide +kernel
theorem dX8_within_1 : decode cX8_within 1 = .ok (.istore 5, 2) := by decide +kernel
theorem dX8_within_3 : decode cX8_within 3 = .ok (.iload 5, 2) := by decide +kernel
theorem dX8_within_5 : decode cX8_within 5 = .ok (.aload_n 0, 1) := by decide +kernel
theorem dX8_within_6 : decode cX8_within 6 = .ok (.getfield 7, 3) := by decide +kernel
theorem dX8_within_9 : decode cX8_within 9 = .ok (.iconst 0, 1) := by decide +kernel
theorem dX8_within_10 : decode cX8_within 10 = .ok (.iaload, 1) := by decide +kernel
theorem dX8_within_11 : decode cX8_within 11 = .ok (.if_icmp .ge 56, 3) := by decide +kernel
theorem dX8_within_14 : decode cX8_within 14 = .ok (.iload 5, 2) := by decide +kernel
theorem dX8_within_16 : decode cX8_within 16 = .ok (.iload 4, 2) := by decide +kernel
theorem dX8_within_18 : decode cX8_within 18 = .ok (.if_icmp .eq 43, 3) := by decide +kernel
theorem dX8_within_21 : decode cX8_within 21 = .ok (.iload_n 2, 1) := by decide +kernel
theorem dX8_within_22 : decode cX8_within 22 = .ok (.iload_n 3, 1) := by decide +kernel
theorem dX8_within_23 : decode cX8_within 23 = .ok (.if_icmp .gt 38, 3) := by decide +kernel
theorem dX8_within_26 : decode cX8_within 26 = .ok (.aload_n 0, 1) := by decide +kernel
theorem dX8_within_27 : decode cX8_within 27 = .ok (.iload 5, 2) := by decide +kernel
theorem dX8_within_29 : decode cX8_within 29 = .ok (.iconst 1, 1) := by decide +kernel
theorem dX8_within_30 : decode cX8_within 30 = .ok (.invokevirtual 48, 3) := by decide +kernel
theorem dX8_within_33 : decode cX8_within 33 = .ok (.iload_n 1, 1) := by decide +kernel
theorem dX8_within_34 : decode cX8_within 34 = .ok (.if_icmp .ne 27, 3) := by decide +kernel
theorem dX8_within_37 : decode cX8_within 37 = .ok (.aload_n 0, 1) := by decide +kernel
theorem dX8_within_38 : decode cX8_within 38 = .ok (.iload 5, 2) := by decide +kernel
theorem dX8_within_40 : decode cX8_within 40 = .ok (.iconst 2, 1) := by decide +kernel
theorem dX8_within_41 : decode cX8_within 41 = .ok (.invokevirtual 48, 3) := by decide +kernel
theorem dX8_within_44 : decode cX8_within 44 = .ok (.iload_n 3, 1) := by decide +kernel
theorem dX8_within_45 : decode cX8_within 45 = .ok (.if_icmp .gt 16, 3) := by decide +kernel
theorem dX8_within_48 : decode cX8_within 48 = .ok (.aload_n 0, 1) := by decide +kernel
theorem dX8_within_49 : decode cX8_within 49 = .ok (.iload 5, 2) := by decide +kernel
theorem dX8_within_51 : decode cX8_within 51 = .ok (.invokevirtual 56, 3) := by decide +kernel
theorem dX8_within_54 : decode cX8_within 54 = .ok (.iload_n 2, 1) := by decide +kernel
theorem dX8_within_55 : decode cX8_within 55 = .ok (.if_icmp .le 6, 3) := by decide +kernel
theorem dX8_within_58 : decode cX8_within 58 = .ok (.iload 5, 2) := by decide +kernel
theorem dX8_within_60 : decode cX8_within 60 = .ok (.ireturn, 1) := by decide +kernel
theorem dX8_within_61 : decode cX8_within 61 = .ok (.iinc 5 1, 3) := by decide +kernel
theorem dX8_within_64 : decode cX8_within 64 = .ok (.goto (-61), 3) := by decide +kernel
theorem dX8_within_67 : decode cX8_within 67 = .ok (.bipush (-5), 2) := by decide +kernel
theorem dX8_within_69 : decode cX8_within 69 = .ok (.ireturn, 1) := by decide +kernel
theorem dX8_greatestEnd_0 : decode cX8_greatestEnd 0 = .ok (.iconst 0, 1) := by decide +kernel
theorem dX8_greatestEnd_1 : decode cX8_greatestEnd 1 = .ok (.istore_n 1, 1) := by decide +kernel
theorem dX8_greatestEnd_2 : decode cX8_greatestEnd 2 = .ok (.iconst 0, 1) := by decide +kernel
theorem dX8_greatestEnd_3 : decode cX8_greatestEnd 3 = .ok (.istore_n 2, 1) := by decide +kernel
theorem dX8_greatestEnd_4 : decode cX8_greatestEnd 4 = .ok (.iload_n 2, 1) := by decide +kernel
theorem dX8_greatestEnd_5 : decode cX8_greatestEnd 5 = .ok (.aload_n 0, 1) := by decide +kernel
theorem dX8_greatestEnd_6 : decode cX8_greatestEnd 6 = .ok (.getfield 7, 3) := by decide +kernel
theorem dX8_greatestEnd_9 : decode cX8_greatestEnd 9 = .ok (.iconst 0, 1) := by decide +kernel
theorem dX8_greatestEnd_10 : decode cX8_greatestEnd 10 = .ok (.iaload, 1) := by decide +kernel
theorem dX8_greatestEnd_11 : decode cX8_greatestEnd 11 = .ok (.if_icmp .ge 19, 3) := by decide +kernel
theorem dX8_greatestEnd_14 : decode cX8_greatestEnd 14 = .ok (.iload_n 1, 1) := by decide +kernel
theorem dX8_greatestEnd_15 : decode cX8_greatestEnd 15 = .ok (.aload_n 0, 1) := by decide +kernel
theorem dX8_greatestEnd_16 : decode cX8_greatestEnd 16 = .ok (.iload_n 2, 1) := by decide +kernel
theorem dX8_greatestEnd_17 : decode cX8_greatestEnd 17 = .ok (.invokevirtual 56, 3) := by decide +kernel
theorem dX8_greatestEnd_20 : decode cX8_greatestEnd 20 = .ok (.invokestatic 59, 3) := by decide +kernel
theorem dX8_greatestEnd_23 : decode cX8_greatestEnd 23 = .ok (.istore_n 1, 1) := by decide +kernel
theorem dX8_greatestEnd_24 : decode cX8_greatestEnd 24 = .ok (.iinc 2 1, 3) := by decide +kernel
theorem dX8_greatestEnd_27 : decode cX8_greatestEnd 27 = .ok (.goto (-23), 3) := by decide +kernel
theorem dX8_greatestEnd_30 : decode cX8_greatestEnd 30 = .ok (.iload_n 1, 1) := by decide +kernel
theorem dX8_greatestEnd_31 : decode cX8_greatestEnd 31 = .ok (.ireturn, 1) := by decide +kernel
theorem dX8_hasBars_0 : decode cX8_hasBars 0 = .ok (.aload_n 0, 1) := by decide +kernel
theorem dX8_hasBars_1 : decode cX8_hasBars 1 = .ok (.iload_n 1, 1) := by decide +kernel
theorem dX8_hasBars_2 : decode cX8_hasBars 2 = .ok (.iconst 0, 1) := by decide +kernel
theorem dX8_hasBars_3 : decode cX8_hasBars 3 = .ok (.sipush 200, 3) := by decide +kernel
theorem dX8_hasBars_6 : decode cX8_hasBars 6 = .ok (.bipush (-5), 2) := by decide +kernel
theorem dX8_hasBars_8 : decode cX8_hasBars 8 = .ok (.invokevirtual 62, 3) := by decide +kernel
theorem dX8_hasBars_11 : decode cX8_hasBars 11 = .ok (.bipush (-5), 2) := by decide +kernel
theorem dX8_hasBars_13 : decode cX8_hasBars 13 = .ok (.if_icmp .eq 7, 3) := by decide +kernel
theorem dX8_hasBars_16 : decode cX8_hasBars 16 = .ok (.iconst 1, 1) := by decide +kernel
theorem dX8_hasBars_17 : decode cX8_hasBars 17 = .ok (.goto 4, 3) := by decide +kernel
theorem dX8_hasBars_20 : decode cX8_hasBars 20 = .ok (.iconst 0, 1) := by decide +kernel
theorem dX8_hasBars_21 : decode cX8_hasBars 21 = .ok (.ireturn, 1) := by decide +kernel
theorem dX8_lanes_0 : decode cX8_lanes 0 = .ok (.iconst 0, 1) := by decide +kernel
theorem dX8_lanes_1 : decode cX8_lanes 1 = .ok (.istore_n 1, 1) := by decide +kernel
theorem dX8_lanes_2 : decode cX8_lanes 2 = .ok (.iconst 0, 1) := by decide +kernel
theorem dX8_lanes_3 : decode cX8_lanes 3 = .ok (.istore_n 2, 1) := by decide +kernel
theorem dX8_lanes_4 : decode cX8_lanes 4 = .ok (.iload_n 2, 1) := by decide +kernel
theorem dX8_lanes_5 : decode cX8_lanes 5 = .ok (.bipush 12, 2) := by decide +kernel
theorem dX8_lanes_7 : decode cX8_lanes 7 = .ok (.if_icmp .ge 25, 3) := by decide +kernel
theorem dX8_lanes_10 : decode cX8_lanes 10 = .ok (.iload_n 1, 1) := by decide +kernel
theorem dX8_lanes_11 : decode cX8_lanes 11 = .ok (.aload_n 0, 1) := by decide +kernel
theorem dX8_lanes_12 : decode cX8_lanes 12 = .ok (.iload_n 2, 1) := by decide +kernel
theorem dX8_lanes_13 : decode cX8_lanes 13 = .ok (.invokevirtual 66, 3) := by decide +kernel
theorem dX8_lanes_16 : decode cX8_lanes 16 = .ok (.ifCond .eq 7, 3) := by decide +kernel
theorem dX8_lanes_19 : decode cX8_lanes 19 = .ok (.iconst 1, 1) := by decide +kernel
theorem dX8_lanes_20 : decode cX8_lanes 20 = .ok (.goto 4, 3) := by decide +kernel
theorem dX8_lanes_23 : decode cX8_lanes 23 = .ok (.iconst 0, 1) := by decide +kernel
theorem dX8_lanes_24 : decode cX8_lanes 24 = .ok (.iadd, 1) := by decide +kernel
theorem dX8_lanes_25 : decode cX8_lanes 25 = .ok (.istore_n 1, 1) := by decide +kernel
theorem dX8_lanes_26 : decode cX8_lanes 26 = .ok (.iinc 2 1, 3) := by decide +kernel
theorem dX8_lanes_29 : decode cX8_lanes 29 = .ok (.goto (-25), 3) := by decide +kernel
theorem dX8_lanes_32 : decode cX8_lanes 32 = .ok (.iload_n 1, 1) := by decide +kernel
theorem dX8_lanes_33 : decode cX8_lanes 33 = .ok (.ireturn, 1) := by decide +kernel
theorem dX8_lateBy_0 : decode cX8_lateBy 0 = .ok (.aload_n 0, 1) := by decide +kernel
theorem dX8_lateBy_1 : decode cX8_lateBy 1 = .ok (.aload_n 0, 1) := by decide +kernel
theorem dX8_lateBy_2 : decode cX8_lateBy 2 = .ok (.iload_n 1, 1) := by decide +kernel
theorem dX8_lateBy_3 : decode cX8_lateBy 3 = .ok (.invokevirtual 70, 3) := by decide +kernel
theorem dX8_lateBy_6 : decode cX8_lateBy 6 = .ok (.invokevirtual 56, 3) := by decide +kernel
theorem dX8_lateBy_9 : decode cX8_lateBy 9 = .ok (.aload_n 0, 1) := by decide +kernel
theorem dX8_lateBy_10 : decode cX8_lateBy 10 = .ok (.aload_n 0, 1) := by decide +kernel
theorem dX8_lateBy_11 : decode cX8_lateBy 11 = .ok (.iload_n 1, 1) := by decide +kernel
theorem dX8_lateBy_12 : decode cX8_lateBy 12 = .ok (.invokevirtual 73, 3) := by decide +kernel
theorem dX8_lateBy_15 : decode cX8_lateBy 15 = .ok (.iconst 2, 1) := by decide +kernel
theorem dX8_lateBy_16 : decode cX8_lateBy 16 = .ok (.invokevirtual 48, 3) := by decide +kernel
theorem dX8_lateBy_19 : decode cX8_lateBy 19 = .ok (.isub, 1) := by decide +kernel
theorem dX8_lateBy_20 : decode cX8_lateBy 20 = .ok (.iconst 0, 1) := by decide +kernel
theorem dX8_lateBy_21 : decode cX8_lateBy 21 = .ok (.invokestatic 59, 3) := by decide +kernel
theorem dX8_lateBy_24 : decode cX8_lateBy 24 = .ok (.ireturn, 1) := by decide +kernel
theorem dX8_isBetween_0 : decode cX8_isBetween 0 = .ok (.iload_n 1, 1) := by decide +kernel
theorem dX8_isBetween_1 : decode cX8_isBetween 1 = .ok (.iload_n 2, 1) := by decide +kernel
theorem dX8_isBetween_2 : decode cX8_isBetween 2 = .ok (.iload_n 3, 1) := by decide +kernel
theorem dX8_isBetween_3 : decode cX8_isBetween 3 = .ok (.invokestatic 76, 3) := by decide +kernel
theorem dX8_isBetween_6 : decode cX8_isBetween 6 = .ok (.if_icmp .le 16, 3) := by decide +kernel
theorem dX8_isBetween_9 : decode cX8_isBetween 9 = .ok (.iload_n 1, 1) := by decide +kernel
theorem dX8_isBetween_10 : decode cX8_isBetween 10 = .ok (.iload_n 2, 1) := by decide +kernel
theorem dX8_isBetween_11 : decode cX8_isBetween 11 = .ok (.iload_n 3, 1) := by decide +kernel
theorem dX8_isBetween_12 : decode cX8_isBetween 12 = .ok (.invokestatic 59, 3) := by decide +kernel
theorem dX8_isBetween_15 : decode cX8_isBetween 15 = .ok (.if_icmp .ge 7, 3) := by decide +kernel
theorem dX8_isBetween_18 : decode cX8_isBetween 18 = .ok (.iconst 1, 1) := by decide +kernel
theorem dX8_isBetween_19 : decode cX8_isBetween 19 = .ok (.goto 4, 3) := by decide +kernel
theorem dX8_isBetween_22 : decode cX8_isBetween 22 = .ok (.iconst 0, 1) := by decide +kernel
theorem dX8_isBetween_23 : decode cX8_isBetween 23 = .ok (.ireturn, 1) := by decide +kernel
theorem dX8_reasonFor_0 : decode cX8_reasonFor 0 = .ok (.aload_n 0, 1) := by decide +kernel
theorem dX8_reasonFor_1 : decode cX8_reasonFor 1 = .ok (.iload_n 1, 1) := by decide +kernel
theorem dX8_reasonFor_2 : decode cX8_reasonFor 2 = .ok (.invokevirtual 70, 3) := by decide +kernel
theorem dX8_reasonFor_5 : decode cX8_reasonFor 5 = .ok (.istore_n 3, 1) := by decide +kernel
theorem dX8_reasonFor_6 : decode cX8_reasonFor 6 = .ok (.aload_n 0, 1) := by decide +kernel
theorem dX8_reasonFor_7 : decode cX8_reasonFor 7 = .ok (.iload_n 1, 1) := by decide +kernel
theorem dX8_reasonFor_8 : decode cX8_reasonFor 8 = .ok (.invokevirtual 73, 3) := by decide +kernel
theorem dX8_reasonFor_11 : decode cX8_reasonFor 11 = .ok (.istore 4, 2) := by decide +kernel
theorem dX8_reasonFor_13 : decode cX8_reasonFor 13 = .ok (.iload_n 2, 1) := by decide +kernel
theorem dX8_reasonFor_14 : decode cX8_reasonFor 14 = .ok (.aload_n 0, 1) := by decide +kernel
theorem dX8_reasonFor_15 : decode cX8_reasonFor 15 = .ok (.iload_n 3, 1) := by decide +kernel
theorem dX8_reasonFor_16 : decode cX8_reasonFor 16 = .ok (.invokevirtual 56, 3) := by decide +kernel
theorem dX8_reasonFor_19 : decode cX8_reasonFor 19 = .ok (.aload_n 0, 1) := by decide +kernel
theorem dX8_reasonFor_20 : decode cX8_reasonFor 20 = .ok (.iload 4, 2) := by decide +kernel
theorem dX8_reasonFor_22 : decode cX8_reasonFor 22 = .ok (.iconst 2, 1) := by decide +kernel
theorem dX8_reasonFor_23 : decode cX8_reasonFor 23 = .ok (.invokevirtual 48, 3) := by decide +kernel
theorem dX8_reasonFor_26 : decode cX8_reasonFor 26 = .ok (.invokestatic 79, 3) := by decide +kernel
theorem dX8_reasonFor_29 : decode cX8_reasonFor 29 = .ok (.ifCond .ne 5, 3) := by decide +kernel
theorem dX8_reasonFor_32 : decode cX8_reasonFor 32 = .ok (.iconst 1, 1) := by decide +kernel
theorem dX8_reasonFor_33 : decode cX8_reasonFor 33 = .ok (.ireturn, 1) := by decide +kernel
theorem dX8_reasonFor_34 : decode cX8_reasonFor 34 = .ok (.aload_n 0, 1) := by decide +kernel
theorem dX8_reasonFor_35 : decode cX8_reasonFor 35 = .ok (.aload_n 0, 1) := by decide +kernel
theorem dX8_reasonFor_36 : decode cX8_reasonFor 36 = .ok (.iload_n 3, 1) := by decide +kernel
theorem dX8_reasonFor_37 : decode cX8_reasonFor 37 = .ok (.iconst 1, 1) := by decide +kernel
theorem dX8_reasonFor_38 : decode cX8_reasonFor 38 = .ok (.invokevirtual 48, 3) := by decide +kernel
theorem dX8_reasonFor_41 : decode cX8_reasonFor 41 = .ok (.aload_n 0, 1) := by decide +kernel
theorem dX8_reasonFor_42 : decode cX8_reasonFor 42 = .ok (.iload_n 3, 1) := by decide +kernel
theorem dX8_reasonFor_43 : decode cX8_reasonFor 43 = .ok (.invokevirtual 56, 3) := by decide +kernel
theorem dX8_reasonFor_46 : decode cX8_reasonFor 46 = .ok (.iload_n 2, 1) := by decide +kernel
theorem dX8_reasonFor_47 : decode cX8_reasonFor 47 = .ok (.iconst 1, 1) := by decide +kernel
theorem dX8_reasonFor_48 : decode cX8_reasonFor 48 = .ok (.isub, 1) := by decide +kernel
theorem dX8_reasonFor_49 : decode cX8_reasonFor 49 = .ok (.bipush (-5), 2) := by decide +kernel
theorem dX8_reasonFor_51 : decode cX8_reasonFor 51 = .ok (.invokevirtual 62, 3) := by decide +kernel
theorem dX8_reasonFor_54 : decode cX8_reasonFor 54 = .ok (.bipush (-5), 2) := by decide +kernel
theorem dX8_reasonFor_56 : decode cX8_reasonFor 56 = .ok (.if_icmp .eq 5, 3) := by decide +kernel
theorem dX8_reasonFor_59 : decode cX8_reasonFor 59 = .ok (.iconst 2, 1) := by decide +kernel
theorem dX8_reasonFor_60 : decode cX8_reasonFor 60 = .ok (.ireturn, 1) := by decide +kernel
theorem dX8_reasonFor_61 : decode cX8_reasonFor 61 = .ok (.aload_n 0, 1) := by decide +kernel
theorem dX8_reasonFor_62 : decode cX8_reasonFor 62 = .ok (.aload_n 0, 1) := by decide +kernel
theorem dX8_reasonFor_63 : decode cX8_reasonFor 63 = .ok (.iload 4, 2) := by decide +kernel
theorem dX8_reasonFor_65 : decode cX8_reasonFor 65 = .ok (.iconst 1, 1) := by decide +kernel
theorem dX8_reasonFor_66 : decode cX8_reasonFor 66 = .ok (.invokevirtual 48, 3) := by decide +kernel
theorem dX8_reasonFor_69 : decode cX8_reasonFor 69 = .ok (.iload_n 2, 1) := by decide +kernel
theorem dX8_reasonFor_70 : decode cX8_reasonFor 70 = .ok (.aload_n 0, 1) := by decide +kernel
theorem dX8_reasonFor_71 : decode cX8_reasonFor 71 = .ok (.iload 4, 2) := by decide +kernel
theorem dX8_reasonFor_73 : decode cX8_reasonFor 73 = .ok (.iconst 2, 1) := by decide +kernel
theorem dX8_reasonFor_74 : decode cX8_reasonFor 74 = .ok (.invokevirtual 48, 3) := by decide +kernel
theorem dX8_reasonFor_77 : decode cX8_reasonFor 77 = .ok (.iconst 1, 1) := by decide +kernel
theorem dX8_reasonFor_78 : decode cX8_reasonFor 78 = .ok (.isub, 1) := by decide +kernel
theorem dX8_reasonFor_79 : decode cX8_reasonFor 79 = .ok (.bipush (-5), 2) := by decide +kernel
theorem dX8_reasonFor_81 : decode cX8_reasonFor 81 = .ok (.invokevirtual 62, 3) := by decide +kernel
theorem dX8_reasonFor_84 : decode cX8_reasonFor 84 = .ok (.bipush (-5), 2) := by decide +kernel
theorem dX8_reasonFor_86 : decode cX8_reasonFor 86 = .ok (.if_icmp .eq 5, 3) := by decide +kernel
theorem dX8_reasonFor_89 : decode cX8_reasonFor 89 = .ok (.iconst 3, 1) := by decide +kernel
theorem dX8_reasonFor_90 : decode cX8_reasonFor 90 = .ok (.ireturn, 1) := by decide +kernel
theorem dX8_reasonFor_91 : decode cX8_reasonFor 91 = .ok (.iconst 0, 1) := by decide +kernel
theorem dX8_reasonFor_92 : decode cX8_reasonFor 92 = .ok (.istore 5, 2) := by decide +kernel
theorem dX8_reasonFor_94 : decode cX8_reasonFor 94 = .ok (.iload 5, 2) := by decide +kernel
theorem dX8_reasonFor_96 : decode cX8_reasonFor 96 = .ok (.aload_n 0, 1) := by decide +kernel
theorem dX8_reasonFor_97 : decode cX8_reasonFor 97 = .ok (.getfield 7, 3) := by decide +kernel
theorem dX8_reasonFor_100 : decode cX8_reasonFor 100 = .ok (.iconst 0, 1) := by decide +kernel
theorem dX8_reasonFor_101 : decode cX8_reasonFor 101 = .ok (.iaload, 1) := by decide +kernel
theorem dX8_reasonFor_102 : decode cX8_reasonFor 102 = .ok (.if_icmp .ge 61, 3) := by decide +kernel
theorem dX8_reasonFor_105 : decode cX8_reasonFor 105 = .ok (.aload_n 0, 1) := by decide +kernel
theorem dX8_reasonFor_106 : decode cX8_reasonFor 106 = .ok (.aload_n 0, 1) := by decide +kernel
theorem dX8_reasonFor_107 : decode cX8_reasonFor 107 = .ok (.iload 5, 2) := by decide +kernel
theorem dX8_reasonFor_109 : decode cX8_reasonFor 109 = .ok (.iconst 1, 1) := by decide +kernel
theorem dX8_reasonFor_110 : decode cX8_reasonFor 110 = .ok (.invokevirtual 48, 3) := by decide +kernel
theorem dX8_reasonFor_113 : decode cX8_reasonFor 113 = .ok (.aload_n 0, 1) := by decide +kernel
theorem dX8_reasonFor_114 : decode cX8_reasonFor 114 = .ok (.iload_n 3, 1) := by decide +kernel
theorem dX8_reasonFor_115 : decode cX8_reasonFor 115 = .ok (.iconst 1, 1) := by decide +kernel
theorem dX8_reasonFor_116 : decode cX8_reasonFor 116 = .ok (.invokevirtual 48, 3) := by decide +kernel
theorem dX8_reasonFor_119 : decode cX8_reasonFor 119 = .ok (.aload_n 0, 1) := by decide +kernel
theorem dX8_reasonFor_120 : decode cX8_reasonFor 120 = .ok (.iload 4, 2) := by decide +kernel
theorem dX8_reasonFor_122 : decode cX8_reasonFor 122 = .ok (.iconst 1, 1) := by decide +kernel
theorem dX8_reasonFor_123 : decode cX8_reasonFor 123 = .ok (.invokevirtual 48, 3) := by decide +kernel
theorem dX8_reasonFor_126 : decode cX8_reasonFor 126 = .ok (.invokevirtual 83, 3) := by decide +kernel
theorem dX8_reasonFor_129 : decode cX8_reasonFor 129 = .ok (.ifCond .eq 28, 3) := by decide +kernel
theorem dX8_reasonFor_132 : decode cX8_reasonFor 132 = .ok (.aload_n 0, 1) := by decide +kernel
theorem dX8_reasonFor_133 : decode cX8_reasonFor 133 = .ok (.iload 5, 2) := by decide +kernel
theorem dX8_reasonFor_135 : decode cX8_reasonFor 135 = .ok (.iconst 2, 1) := by decide +kernel
theorem dX8_reasonFor_136 : decode cX8_reasonFor 136 = .ok (.invokevirtual 48, 3) := by decide +kernel
theorem dX8_reasonFor_139 : decode cX8_reasonFor 139 = .ok (.iload_n 2, 1) := by decide +kernel
theorem dX8_reasonFor_140 : decode cX8_reasonFor 140 = .ok (.iconst 1, 1) := by decide +kernel
theorem dX8_reasonFor_141 : decode cX8_reasonFor 141 = .ok (.isub, 1) := by decide +kernel
theorem dX8_reasonFor_142 : decode cX8_reasonFor 142 = .ok (.if_icmp .gt 15, 3) := by decide +kernel
theorem dX8_reasonFor_145 : decode cX8_reasonFor 145 = .ok (.aload_n 0, 1) := by decide +kernel
theorem dX8_reasonFor_146 : decode cX8_reasonFor 146 = .ok (.iload 5, 2) := by decide +kernel
theorem dX8_reasonFor_148 : decode cX8_reasonFor 148 = .ok (.invokevirtual 56, 3) := by decide +kernel
theorem dX8_reasonFor_151 : decode cX8_reasonFor 151 = .ok (.iload_n 2, 1) := by decide +kernel
theorem dX8_reasonFor_152 : decode cX8_reasonFor 152 = .ok (.if_icmp .le 5, 3) := by decide +kernel
theorem dX8_reasonFor_155 : decode cX8_reasonFor 155 = .ok (.iconst 4, 1) := by decide +kernel
theorem dX8_reasonFor_156 : decode cX8_reasonFor 156 = .ok (.ireturn, 1) := by decide +kernel
theorem dX8_reasonFor_157 : decode cX8_reasonFor 157 = .ok (.iinc 5 1, 3) := by decide +kernel
theorem dX8_reasonFor_160 : decode cX8_reasonFor 160 = .ok (.goto (-66), 3) := by decide +kernel
theorem dX8_reasonFor_163 : decode cX8_reasonFor 163 = .ok (.iconst 0, 1) := by decide +kernel
theorem dX8_reasonFor_164 : decode cX8_reasonFor 164 = .ok (.ireturn, 1) := by decide +kernel
theorem dX8_freeBends_0 : decode cX8_freeBends 0 = .ok (.iconst 0, 1) := by decide +kernel
theorem dX8_freeBends_1 : decode cX8_freeBends 1 = .ok (.istore_n 2, 1) := by decide +kernel
theorem dX8_freeBends_2 : decode cX8_freeBends 2 = .ok (.aload_n 0, 1) := by decide +kernel
theorem dX8_freeBends_3 : decode cX8_freeBends 3 = .ok (.aload_n 0, 1) := by decide +kernel
theorem dX8_freeBends_4 : decode cX8_freeBends 4 = .ok (.iload_n 1, 1) := by decide +kernel
theorem dX8_freeBends_5 : decode cX8_freeBends 5 = .ok (.invokevirtual 70, 3) := by decide +kernel
theorem dX8_freeBends_8 : decode cX8_freeBends 8 = .ok (.invokevirtual 56, 3) := by decide +kernel
theorem dX8_freeBends_11 : decode cX8_freeBends 11 = .ok (.istore_n 3, 1) := by decide +kernel
theorem dX8_freeBends_12 : decode cX8_freeBends 12 = .ok (.iload_n 3, 1) := by decide +kernel
theorem dX8_freeBends_13 : decode cX8_freeBends 13 = .ok (.aload_n 0, 1) := by decide +kernel
theorem dX8_freeBends_14 : decode cX8_freeBends 14 = .ok (.aload_n 0, 1) := by decide +kernel
theorem dX8_freeBends_15 : decode cX8_freeBends 15 = .ok (.iload_n 1, 1) := by decide +kernel
theorem dX8_freeBends_16 : decode cX8_freeBends 16 = .ok (.invokevirtual 73, 3) := by decide +kernel
theorem dX8_freeBends_19 : decode cX8_freeBends 19 = .ok (.iconst 2, 1) := by decide +kernel
theorem dX8_freeBends_20 : decode cX8_freeBends 20 = .ok (.invokevirtual 48, 3) := by decide +kernel
theorem dX8_freeBends_23 : decode cX8_freeBends 23 = .ok (.if_icmp .gt 26, 3) := by decide +kernel
theorem dX8_freeBends_26 : decode cX8_freeBends 26 = .ok (.iload_n 2, 1) := by decide +kernel
theorem dX8_freeBends_27 : decode cX8_freeBends 27 = .ok (.aload_n 0, 1) := by decide +kernel
theorem dX8_freeBends_28 : decode cX8_freeBends 28 = .ok (.iload_n 1, 1) := by decide +kernel
theorem dX8_freeBends_29 : decode cX8_freeBends 29 = .ok (.iload_n 3, 1) := by decide +kernel
theorem dX8_freeBends_30 : decode cX8_freeBends 30 = .ok (.invokevirtual 86, 3) := by decide +kernel
theorem dX8_freeBends_33 : decode cX8_freeBends 33 = .ok (.ifCond .ne 7, 3) := by decide +kernel
theorem dX8_freeBends_36 : decode cX8_freeBends 36 = .ok (.iconst 1, 1) := by decide +kernel
theorem dX8_freeBends_37 : decode cX8_freeBends 37 = .ok (.goto 4, 3) := by decide +kernel
theorem dX8_freeBends_40 : decode cX8_freeBends 40 = .ok (.iconst 0, 1) := by decide +kernel
theorem dX8_freeBends_41 : decode cX8_freeBends 41 = .ok (.iadd, 1) := by decide +kernel
theorem dX8_freeBends_42 : decode cX8_freeBends 42 = .ok (.istore_n 2, 1) := by decide +kernel
theorem dX8_freeBends_43 : decode cX8_freeBends 43 = .ok (.iinc 3 1, 3) := by decide +kernel
theorem dX8_freeBends_46 : decode cX8_freeBends 46 = .ok (.goto (-34), 3) := by decide +kernel
theorem dX8_freeBends_49 : decode cX8_freeBends 49 = .ok (.iload_n 2, 1) := by decide +kernel
theorem dX8_freeBends_50 : decode cX8_freeBends 50 = .ok (.ireturn, 1) := by decide +kernel
theorem dX8_worth_0 : decode cX8_worth 0 = .ok (.iload_n 2, 1) := by decide +kernel
theorem dX8_worth_1 : decode cX8_worth 1 = .ok (.aload_n 0, 1) := by decide +kernel
theorem dX8_worth_2 : decode cX8_worth 2 = .ok (.aload_n 0, 1) := by decide +kernel
theorem dX8_worth_3 : decode cX8_worth 3 = .ok (.iload_n 1, 1) := by decide +kernel
theorem dX8_worth_4 : decode cX8_worth 4 = .ok (.invokevirtual 70, 3) := by decide +kernel
theorem dX8_worth_7 : decode cX8_worth 7 = .ok (.invokevirtual 56, 3) := by decide +kernel
theorem dX8_worth_10 : decode cX8_worth 10 = .ok (.isub, 1) := by decide +kernel
theorem dX8_worth_11 : decode cX8_worth 11 = .ok (.istore_n 3, 1) := by decide +kernel
theorem dX8_worth_12 : decode cX8_worth 12 = .ok (.aload_n 0, 1) := by decide +kernel
theorem dX8_worth_13 : decode cX8_worth 13 = .ok (.aload_n 0, 1) := by decide +kernel
theorem dX8_worth_14 : decode cX8_worth 14 = .ok (.iload_n 1, 1) := by decide +kernel
theorem dX8_worth_15 : decode cX8_worth 15 = .ok (.invokevirtual 73, 3) := by decide +kernel
theorem dX8_worth_18 : decode cX8_worth 18 = .ok (.iconst 2, 1) := by decide +kernel
theorem dX8_worth_19 : decode cX8_worth 19 = .ok (.invokevirtual 48, 3) := by decide +kernel
theorem dX8_worth_22 : decode cX8_worth 22 = .ok (.iload_n 2, 1) := by decide +kernel
theorem dX8_worth_23 : decode cX8_worth 23 = .ok (.isub, 1) := by decide +kernel
theorem dX8_worth_24 : decode cX8_worth 24 = .ok (.istore 4, 2) := by decide +kernel
theorem dX8_worth_26 : decode cX8_worth 26 = .ok (.aload_n 0, 1) := by decide +kernel
theorem dX8_worth_27 : decode cX8_worth 27 = .ok (.getfield 7, 3) := by decide +kernel
theorem dX8_worth_30 : decode cX8_worth 30 = .ok (.sipush 442, 3) := by decide +kernel
theorem dX8_worth_33 : decode cX8_worth 33 = .ok (.iaload, 1) := by decide +kernel
theorem dX8_worth_34 : decode cX8_worth 34 = .ok (.ifCond .ne 7, 3) := by decide +kernel
theorem dX8_worth_37 : decode cX8_worth 37 = .ok (.iload_n 3, 1) := by decide +kernel
theorem dX8_worth_38 : decode cX8_worth 38 = .ok (.goto 37, 3) := by decide +kernel
theorem dX8_worth_41 : decode cX8_worth 41 = .ok (.aload_n 0, 1) := by decide +kernel
theorem dX8_worth_42 : decode cX8_worth 42 = .ok (.getfield 7, 3) := by decide +kernel
theorem dX8_worth_45 : decode cX8_worth 45 = .ok (.sipush 442, 3) := by decide +kernel
theorem dX8_worth_48 : decode cX8_worth 48 = .ok (.iaload, 1) := by decide +kernel
theorem dX8_worth_49 : decode cX8_worth 49 = .ok (.iconst 1, 1) := by decide +kernel
theorem dX8_worth_50 : decode cX8_worth 50 = .ok (.if_icmp .ne 8, 3) := by decide +kernel
theorem dX8_worth_53 : decode cX8_worth 53 = .ok (.iload 4, 2) := by decide +kernel
theorem dX8_worth_55 : decode cX8_worth 55 = .ok (.goto 20, 3) := by decide +kernel
theorem dX8_worth_58 : decode cX8_worth 58 = .ok (.iload_n 3, 1) := by decide +kernel
theorem dX8_worth_59 : decode cX8_worth 59 = .ok (.iload 4, 2) := by decide +kernel
theorem dX8_worth_61 : decode cX8_worth 61 = .ok (.if_icmp .ge 10, 3) := by decide +kernel
theorem dX8_worth_64 : decode cX8_worth 64 = .ok (.iload 4, 2) := by decide +kernel
theorem dX8_worth_66 : decode cX8_worth 66 = .ok (.iload_n 3, 1) := by decide +kernel
theorem dX8_worth_67 : decode cX8_worth 67 = .ok (.isub, 1) := by decide +kernel
theorem dX8_worth_68 : decode cX8_worth 68 = .ok (.goto 7, 3) := by decide +kernel
theorem dX8_worth_71 : decode cX8_worth 71 = .ok (.iload_n 3, 1) := by decide +kernel
theorem dX8_worth_72 : decode cX8_worth 72 = .ok (.iload 4, 2) := by decide +kernel
theorem dX8_worth_74 : decode cX8_worth 74 = .ok (.isub, 1) := by decide +kernel
theorem dX8_worth_75 : decode cX8_worth 75 = .ok (.ireturn, 1) := by decide +kernel
theorem dX8_bend_0 : decode cX8_bend 0 = .ok (.bipush (-5), 2) := by decide +kernel
theorem dX8_bend_2 : decode cX8_bend 2 = .ok (.istore_n 2, 1) := by decide +kernel
theorem dX8_bend_3 : decode cX8_bend 3 = .ok (.aload_n 0, 1) := by decide +kernel
theorem dX8_bend_4 : decode cX8_bend 4 = .ok (.aload_n 0, 1) := by decide +kernel
theorem dX8_bend_5 : decode cX8_bend 5 = .ok (.iload_n 1, 1) := by decide +kernel
theorem dX8_bend_6 : decode cX8_bend 6 = .ok (.invokevirtual 73, 3) := by decide +kernel
theorem dX8_bend_9 : decode cX8_bend 9 = .ok (.iconst 2, 1) := by decide +kernel
theorem dX8_bend_10 : decode cX8_bend 10 = .ok (.invokevirtual 48, 3) := by decide +kernel
theorem dX8_bend_13 : decode cX8_bend 13 = .ok (.istore_n 3, 1) := by decide +kernel
theorem dX8_bend_14 : decode cX8_bend 14 = .ok (.aload_n 0, 1) := by decide +kernel
theorem dX8_bend_15 : decode cX8_bend 15 = .ok (.aload_n 0, 1) := by decide +kernel
theorem dX8_bend_16 : decode cX8_bend 16 = .ok (.iload_n 1, 1) := by decide +kernel
theorem dX8_bend_17 : decode cX8_bend 17 = .ok (.invokevirtual 70, 3) := by decide +kernel
theorem dX8_bend_20 : decode cX8_bend 20 = .ok (.invokevirtual 56, 3) := by decide +kernel
theorem dX8_bend_23 : decode cX8_bend 23 = .ok (.istore 4, 2) := by decide +kernel
theorem dX8_bend_25 : decode cX8_bend 25 = .ok (.iload 4, 2) := by decide +kernel
theorem dX8_bend_27 : decode cX8_bend 27 = .ok (.iload_n 3, 1) := by decide +kernel
theorem dX8_bend_28 : decode cX8_bend 28 = .ok (.if_icmp .gt 60, 3) := by decide +kernel
theorem dX8_bend_31 : decode cX8_bend 31 = .ok (.aload_n 0, 1) := by decide +kernel
theorem dX8_bend_32 : decode cX8_bend 32 = .ok (.iload_n 1, 1) := by decide +kernel
theorem dX8_bend_33 : decode cX8_bend 33 = .ok (.iload 4, 2) := by decide +kernel
theorem dX8_bend_35 : decode cX8_bend 35 = .ok (.invokevirtual 86, 3) := by decide +kernel
theorem dX8_bend_38 : decode cX8_bend 38 = .ok (.ifCond .ne 29, 3) := by decide +kernel
theorem dX8_bend_41 : decode cX8_bend 41 = .ok (.iload_n 2, 1) := by decide +kernel
theorem dX8_bend_42 : decode cX8_bend 42 = .ok (.bipush (-5), 2) := by decide +kernel
theorem dX8_bend_44 : decode cX8_bend 44 = .ok (.if_icmp .eq 19, 3) := by decide +kernel
theorem dX8_bend_47 : decode cX8_bend 47 = .ok (.aload_n 0, 1) := by decide +kernel
theorem dX8_bend_48 : decode cX8_bend 48 = .ok (.iload_n 1, 1) := by decide +kernel
theorem dX8_bend_49 : decode cX8_bend 49 = .ok (.iload 4, 2) := by decide +kernel
theorem dX8_bend_51 : decode cX8_bend 51 = .ok (.invokevirtual 89, 3) := by decide +kernel
theorem dX8_bend_54 : decode cX8_bend 54 = .ok (.aload_n 0, 1) := by decide +kernel
theorem dX8_bend_55 : decode cX8_bend 55 = .ok (.iload_n 1, 1) := by decide +kernel
theorem dX8_bend_56 : decode cX8_bend 56 = .ok (.iload_n 2, 1) := by decide +kernel
theorem dX8_bend_57 : decode cX8_bend 57 = .ok (.invokevirtual 89, 3) := by decide +kernel
theorem dX8_bend_60 : decode cX8_bend 60 = .ok (.if_icmp .ge 7, 3) := by decide +kernel
theorem dX8_bend_63 : decode cX8_bend 63 = .ok (.iconst 1, 1) := by decide +kernel
theorem dX8_bend_64 : decode cX8_bend 64 = .ok (.goto 4, 3) := by decide +kernel
theorem dX8_bend_67 : decode cX8_bend 67 = .ok (.iconst 0, 1) := by decide +kernel
theorem dX8_bend_68 : decode cX8_bend 68 = .ok (.istore 5, 2) := by decide +kernel
theorem dX8_bend_70 : decode cX8_bend 70 = .ok (.iload 5, 2) := by decide +kernel
theorem dX8_bend_72 : decode cX8_bend 72 = .ok (.ifCond .eq 8, 3) := by decide +kernel
theorem dX8_bend_75 : decode cX8_bend 75 = .ok (.iload 4, 2) := by decide +kernel
theorem dX8_bend_77 : decode cX8_bend 77 = .ok (.goto 4, 3) := by decide +kernel
theorem dX8_bend_80 : decode cX8_bend 80 = .ok (.iload_n 2, 1) := by decide +kernel
theorem dX8_bend_81 : decode cX8_bend 81 = .ok (.istore_n 2, 1) := by decide +kernel
theorem dX8_bend_82 : decode cX8_bend 82 = .ok (.iinc 4 1, 3) := by decide +kernel
theorem dX8_bend_85 : decode cX8_bend 85 = .ok (.goto (-60), 3) := by decide +kernel
theorem dX8_bend_88 : decode cX8_bend 88 = .ok (.iload_n 2, 1) := by decide +kernel
theorem dX8_bend_89 : decode cX8_bend 89 = .ok (.ireturn, 1) := by decide +kernel
theorem dX8_layBends_0 : decode cX8_layBends 0 = .ok (.iconst 0, 1) := by decide +kernel
theorem dX8_layBends_1 : decode cX8_layBends 1 = .ok (.istore_n 1, 1) := by decide +kernel
theorem dX8_layBends_2 : decode cX8_layBends 2 = .ok (.iload_n 1, 1) := by decide +kernel
theorem dX8_layBends_3 : decode cX8_layBends 3 = .ok (.aload_n 0, 1) := by decide +kernel
theorem dX8_layBends_4 : decode cX8_layBends 4 = .ok (.getfield 7, 3) := by decide +kernel
theorem dX8_layBends_7 : decode cX8_layBends 7 = .ok (.bipush 121, 2) := by decide +kernel
theorem dX8_layBends_9 : decode cX8_layBends 9 = .ok (.iaload, 1) := by decide +kernel
theorem dX8_layBends_10 : decode cX8_layBends 10 = .ok (.if_icmp .ge 20, 3) := by decide +kernel
theorem dX8_layBends_13 : decode cX8_layBends 13 = .ok (.aload_n 0, 1) := by decide +kernel
theorem dX8_layBends_14 : decode cX8_layBends 14 = .ok (.getfield 25, 3) := by decide +kernel
theorem dX8_layBends_17 : decode cX8_layBends 17 = .ok (.iload_n 1, 1) := by decide +kernel
theorem dX8_layBends_18 : decode cX8_layBends 18 = .ok (.aload_n 0, 1) := by decide +kernel
theorem dX8_layBends_19 : decode cX8_layBends 19 = .ok (.iload_n 1, 1) := by decide +kernel
theorem dX8_layBends_20 : decode cX8_layBends 20 = .ok (.invokevirtual 92, 3) := by decide +kernel
theorem dX8_layBends_23 : decode cX8_layBends 23 = .ok (.iastore, 1) := by decide +kernel
theorem dX8_layBends_24 : decode cX8_layBends 24 = .ok (.iinc 1 1, 3) := by decide +kernel
theorem dX8_layBends_27 : decode cX8_layBends 27 = .ok (.goto (-25), 3) := by decide +kernel
theorem dX8_layBends_30 : decode cX8_layBends 30 = .ok (.return_, 1) := by decide +kernel
theorem dX8_goesAlong_0 : decode cX8_goesAlong 0 = .ok (.aload_n 0, 1) := by decide +kernel
theorem dX8_goesAlong_1 : decode cX8_goesAlong 1 = .ok (.aload_n 0, 1) := by decide +kernel
theorem dX8_goesAlong_2 : decode cX8_goesAlong 2 = .ok (.iload_n 1, 1) := by decide +kernel
theorem dX8_goesAlong_3 : decode cX8_goesAlong 3 = .ok (.invokevirtual 70, 3) := by decide +kernel
theorem dX8_goesAlong_6 : decode cX8_goesAlong 6 = .ok (.invokevirtual 56, 3) := by decide +kernel
theorem dX8_goesAlong_9 : decode cX8_goesAlong 9 = .ok (.istore 4, 2) := by decide +kernel
theorem dX8_goesAlong_11 : decode cX8_goesAlong 11 = .ok (.aload_n 0, 1) := by decide +kernel
theorem dX8_goesAlong_12 : decode cX8_goesAlong 12 = .ok (.aload_n 0, 1) := by decide +kernel
theorem dX8_goesAlong_13 : decode cX8_goesAlong 13 = .ok (.iload_n 1, 1) := by decide +kernel
theorem dX8_goesAlong_14 : decode cX8_goesAlong 14 = .ok (.invokevirtual 73, 3) := by decide +kernel
theorem dX8_goesAlong_17 : decode cX8_goesAlong 17 = .ok (.iconst 2, 1) := by decide +kernel
theorem dX8_goesAlong_18 : decode cX8_goesAlong 18 = .ok (.invokevirtual 48, 3) := by decide +kernel
theorem dX8_goesAlong_21 : decode cX8_goesAlong 21 = .ok (.iconst 1, 1) := by decide +kernel
theorem dX8_goesAlong_22 : decode cX8_goesAlong 22 = .ok (.isub, 1) := by decide +kernel
theorem dX8_goesAlong_23 : decode cX8_goesAlong 23 = .ok (.istore 5, 2) := by decide +kernel
theorem dX8_goesAlong_25 : decode cX8_goesAlong 25 = .ok (.aload_n 0, 1) := by decide +kernel
theorem dX8_goesAlong_26 : decode cX8_goesAlong 26 = .ok (.getfield 25, 3) := by decide +kernel
theorem dX8_goesAlong_29 : decode cX8_goesAlong 29 = .ok (.iload_n 1, 1) := by decide +kernel
theorem dX8_goesAlong_30 : decode cX8_goesAlong 30 = .ok (.iaload, 1) := by decide +kernel
theorem dX8_goesAlong_31 : decode cX8_goesAlong 31 = .ok (.istore 6, 2) := by decide +kernel
theorem dX8_goesAlong_33 : decode cX8_goesAlong 33 = .ok (.aload_n 0, 1) := by decide +kernel
theorem dX8_goesAlong_34 : decode cX8_goesAlong 34 = .ok (.aload_n 0, 1) := by decide +kernel
theorem dX8_goesAlong_35 : decode cX8_goesAlong 35 = .ok (.iload_n 1, 1) := by decide +kernel
theorem dX8_goesAlong_36 : decode cX8_goesAlong 36 = .ok (.invokevirtual 70, 3) := by decide +kernel
theorem dX8_goesAlong_39 : decode cX8_goesAlong 39 = .ok (.iconst 1, 1) := by decide +kernel
theorem dX8_goesAlong_40 : decode cX8_goesAlong 40 = .ok (.invokevirtual 48, 3) := by decide +kernel
theorem dX8_goesAlong_43 : decode cX8_goesAlong 43 = .ok (.iload_n 2, 1) := by decide +kernel
theorem dX8_goesAlong_44 : decode cX8_goesAlong 44 = .ok (.if_icmp .ne 7, 3) := by decide +kernel
theorem dX8_goesAlong_47 : decode cX8_goesAlong 47 = .ok (.iconst 1, 1) := by decide +kernel
theorem dX8_goesAlong_48 : decode cX8_goesAlong 48 = .ok (.goto 4, 3) := by decide +kernel
theorem dX8_goesAlong_51 : decode cX8_goesAlong 51 = .ok (.iconst 0, 1) := by decide +kernel
theorem dX8_goesAlong_52 : decode cX8_goesAlong 52 = .ok (.istore 7, 2) := by decide +kernel
theorem dX8_goesAlong_54 : decode cX8_goesAlong 54 = .ok (.aload_n 0, 1) := by decide +kernel
theorem dX8_goesAlong_55 : decode cX8_goesAlong 55 = .ok (.aload_n 0, 1) := by decide +kernel
theorem dX8_goesAlong_56 : decode cX8_goesAlong 56 = .ok (.iload_n 1, 1) := by decide +kernel
theorem dX8_goesAlong_57 : decode cX8_goesAlong 57 = .ok (.invokevirtual 73, 3) := by decide +kernel
theorem dX8_goesAlong_60 : decode cX8_goesAlong 60 = .ok (.iconst 1, 1) := by decide +kernel
theorem dX8_goesAlong_61 : decode cX8_goesAlong 61 = .ok (.invokevirtual 48, 3) := by decide +kernel
theorem dX8_goesAlong_64 : decode cX8_goesAlong 64 = .ok (.iload_n 2, 1) := by decide +kernel
theorem dX8_goesAlong_65 : decode cX8_goesAlong 65 = .ok (.if_icmp .ne 7, 3) := by decide +kernel
theorem dX8_goesAlong_68 : decode cX8_goesAlong 68 = .ok (.iconst 1, 1) := by decide +kernel
theorem dX8_goesAlong_69 : decode cX8_goesAlong 69 = .ok (.goto 4, 3) := by decide +kernel
theorem dX8_goesAlong_72 : decode cX8_goesAlong 72 = .ok (.iconst 0, 1) := by decide +kernel
theorem dX8_goesAlong_73 : decode cX8_goesAlong 73 = .ok (.istore 8, 2) := by decide +kernel
theorem dX8_goesAlong_75 : decode cX8_goesAlong 75 = .ok (.iload 7, 2) := by decide +kernel
theorem dX8_goesAlong_77 : decode cX8_goesAlong 77 = .ok (.ifCond .eq 8, 3) := by decide +kernel
theorem dX8_goesAlong_80 : decode cX8_goesAlong 80 = .ok (.iload 4, 2) := by decide +kernel
theorem dX8_goesAlong_82 : decode cX8_goesAlong 82 = .ok (.goto 5, 3) := by decide +kernel
theorem dX8_goesAlong_85 : decode cX8_goesAlong 85 = .ok (.iload 6, 2) := by decide +kernel
theorem dX8_goesAlong_87 : decode cX8_goesAlong 87 = .ok (.istore 9, 2) := by decide +kernel
theorem dX8_goesAlong_89 : decode cX8_goesAlong 89 = .ok (.iload 8, 2) := by decide +kernel
theorem dX8_goesAlong_91 : decode cX8_goesAlong 91 = .ok (.ifCond .eq 8, 3) := by decide +kernel
theorem dX8_goesAlong_94 : decode cX8_goesAlong 94 = .ok (.iload 5, 2) := by decide +kernel
theorem dX8_goesAlong_96 : decode cX8_goesAlong 96 = .ok (.goto 7, 3) := by decide +kernel
theorem dX8_goesAlong_99 : decode cX8_goesAlong 99 = .ok (.iload 6, 2) := by decide +kernel
theorem dX8_goesAlong_101 : decode cX8_goesAlong 101 = .ok (.iconst 1, 1) := by decide +kernel
theorem dX8_goesAlong_102 : decode cX8_goesAlong 102 = .ok (.isub, 1) := by decide +kernel
theorem dX8_goesAlong_103 : decode cX8_goesAlong 103 = .ok (.istore 10, 2) := by decide +kernel
theorem dX8_goesAlong_105 : decode cX8_goesAlong 105 = .ok (.iload 7, 2) := by decide +kernel
theorem dX8_goesAlong_107 : decode cX8_goesAlong 107 = .ok (.ifCond .ne 8, 3) := by decide +kernel
theorem dX8_goesAlong_110 : decode cX8_goesAlong 110 = .ok (.iload 8, 2) := by decide +kernel
theorem dX8_goesAlong_112 : decode cX8_goesAlong 112 = .ok (.ifCond .eq 21, 3) := by decide +kernel
theorem dX8_goesAlong_115 : decode cX8_goesAlong 115 = .ok (.iload_n 3, 1) := by decide +kernel
theorem dX8_goesAlong_116 : decode cX8_goesAlong 116 = .ok (.iload 9, 2) := by decide +kernel
theorem dX8_goesAlong_118 : decode cX8_goesAlong 118 = .ok (.if_icmp .lt 15, 3) := by decide +kernel
theorem dX8_goesAlong_121 : decode cX8_goesAlong 121 = .ok (.iload_n 3, 1) := by decide +kernel
theorem dX8_goesAlong_122 : decode cX8_goesAlong 122 = .ok (.iconst 1, 1) := by decide +kernel
theorem dX8_goesAlong_123 : decode cX8_goesAlong 123 = .ok (.iadd, 1) := by decide +kernel
theorem dX8_goesAlong_124 : decode cX8_goesAlong 124 = .ok (.iload 10, 2) := by decide +kernel
theorem dX8_goesAlong_126 : decode cX8_goesAlong 126 = .ok (.if_icmp .gt 7, 3) := by decide +kernel
theorem dX8_goesAlong_129 : decode cX8_goesAlong 129 = .ok (.iconst 1, 1) := by decide +kernel
theorem dX8_goesAlong_130 : decode cX8_goesAlong 130 = .ok (.goto 4, 3) := by decide +kernel
theorem dX8_goesAlong_133 : decode cX8_goesAlong 133 = .ok (.iconst 0, 1) := by decide +kernel
theorem dX8_goesAlong_134 : decode cX8_goesAlong 134 = .ok (.ireturn, 1) := by decide +kernel
theorem dX8_points_0 : decode cX8_points 0 = .ok (.iconst 0, 1) := by decide +kernel
theorem dX8_points_1 : decode cX8_points 1 = .ok (.istore_n 3, 1) := by decide +kernel
theorem dX8_points_2 : decode cX8_points 2 = .ok (.iconst 0, 1) := by decide +kernel
theorem dX8_points_3 : decode cX8_points 3 = .ok (.istore 4, 2) := by decide +kernel
theorem dX8_points_5 : decode cX8_points 5 = .ok (.iload 4, 2) := by decide +kernel
theorem dX8_points_7 : decode cX8_points 7 = .ok (.bipush 12, 2) := by decide +kernel
theorem dX8_points_9 : decode cX8_points 9 = .ok (.if_icmp .ge 103, 3) := by decide +kernel
theorem dX8_points_12 : decode cX8_points 12 = .ok (.iload_n 1, 1) := by decide +kernel
theorem dX8_points_13 : decode cX8_points 13 = .ok (.iload_n 2, 1) := by decide +kernel
theorem dX8_points_14 : decode cX8_points 14 = .ok (.if_icmp .eq 98, 3) := by decide +kernel
theorem dX8_points_17 : decode cX8_points 17 = .ok (.aload_n 0, 1) := by decide +kernel
theorem dX8_points_18 : decode cX8_points 18 = .ok (.getfield 25, 3) := by decide +kernel
theorem dX8_points_21 : decode cX8_points 21 = .ok (.iload_n 1, 1) := by decide +kernel
theorem dX8_points_22 : decode cX8_points 22 = .ok (.iaload, 1) := by decide +kernel
theorem dX8_points_23 : decode cX8_points 23 = .ok (.bipush (-5), 2) := by decide +kernel
theorem dX8_points_25 : decode cX8_points 25 = .ok (.if_icmp .eq 87, 3) := by decide +kernel
theorem dX8_points_28 : decode cX8_points 28 = .ok (.aload_n 0, 1) := by decide +kernel
theorem dX8_points_29 : decode cX8_points 29 = .ok (.getfield 25, 3) := by decide +kernel
theorem dX8_points_32 : decode cX8_points 32 = .ok (.iload_n 2, 1) := by decide +kernel
theorem dX8_points_33 : decode cX8_points 33 = .ok (.iaload, 1) := by decide +kernel
theorem dX8_points_34 : decode cX8_points 34 = .ok (.bipush (-5), 2) := by decide +kernel
theorem dX8_points_36 : decode cX8_points 36 = .ok (.if_icmp .eq 76, 3) := by decide +kernel
theorem dX8_points_39 : decode cX8_points 39 = .ok (.aload_n 0, 1) := by decide +kernel
theorem dX8_points_40 : decode cX8_points 40 = .ok (.iload 4, 2) := by decide +kernel
theorem dX8_points_42 : decode cX8_points 42 = .ok (.aload_n 0, 1) := by decide +kernel
theorem dX8_points_43 : decode cX8_points 43 = .ok (.aload_n 0, 1) := by decide +kernel
theorem dX8_points_44 : decode cX8_points 44 = .ok (.iload_n 1, 1) := by decide +kernel
theorem dX8_points_45 : decode cX8_points 45 = .ok (.invokevirtual 70, 3) := by decide +kernel
theorem dX8_points_48 : decode cX8_points 48 = .ok (.iconst 1, 1) := by decide +kernel
theorem dX8_points_49 : decode cX8_points 49 = .ok (.invokevirtual 48, 3) := by decide +kernel
theorem dX8_points_52 : decode cX8_points 52 = .ok (.aload_n 0, 1) := by decide +kernel
theorem dX8_points_53 : decode cX8_points 53 = .ok (.aload_n 0, 1) := by decide +kernel
theorem dX8_points_54 : decode cX8_points 54 = .ok (.iload_n 1, 1) := by decide +kernel
theorem dX8_points_55 : decode cX8_points 55 = .ok (.invokevirtual 73, 3) := by decide +kernel
theorem dX8_points_58 : decode cX8_points 58 = .ok (.iconst 1, 1) := by decide +kernel
theorem dX8_points_59 : decode cX8_points 59 = .ok (.invokevirtual 48, 3) := by decide +kernel
theorem dX8_points_62 : decode cX8_points 62 = .ok (.invokevirtual 83, 3) := by decide +kernel
theorem dX8_points_65 : decode cX8_points 65 = .ok (.ifCond .eq 25, 3) := by decide +kernel
theorem dX8_points_68 : decode cX8_points 68 = .ok (.aload_n 0, 1) := by decide +kernel
theorem dX8_points_69 : decode cX8_points 69 = .ok (.iload_n 2, 1) := by decide +kernel
theorem dX8_points_70 : decode cX8_points 70 = .ok (.iload 4, 2) := by decide +kernel
theorem dX8_points_72 : decode cX8_points 72 = .ok (.aload_n 0, 1) := by decide +kernel
theorem dX8_points_73 : decode cX8_points 73 = .ok (.getfield 25, 3) := by decide +kernel
theorem dX8_points_76 : decode cX8_points 76 = .ok (.iload_n 1, 1) := by decide +kernel
theorem dX8_points_77 : decode cX8_points 77 = .ok (.iaload, 1) := by decide +kernel
theorem dX8_points_78 : decode cX8_points 78 = .ok (.iconst 1, 1) := by decide +kernel
theorem dX8_points_79 : decode cX8_points 79 = .ok (.isub, 1) := by decide +kernel
theorem dX8_points_80 : decode cX8_points 80 = .ok (.invokevirtual 95, 3) := by decide +kernel
theorem dX8_points_83 : decode cX8_points 83 = .ok (.ifCond .eq 7, 3) := by decide +kernel
theorem dX8_points_86 : decode cX8_points 86 = .ok (.iconst 1, 1) := by decide +kernel
theorem dX8_points_87 : decode cX8_points 87 = .ok (.goto 4, 3) := by decide +kernel
theorem dX8_points_90 : decode cX8_points 90 = .ok (.iconst 0, 1) := by decide +kernel
theorem dX8_points_91 : decode cX8_points 91 = .ok (.istore 5, 2) := by decide +kernel
theorem dX8_points_93 : decode cX8_points 93 = .ok (.iload_n 3, 1) := by decide +kernel
theorem dX8_points_94 : decode cX8_points 94 = .ok (.iload 5, 2) := by decide +kernel
theorem dX8_points_96 : decode cX8_points 96 = .ok (.ifCond .eq 7, 3) := by decide +kernel
theorem dX8_points_99 : decode cX8_points 99 = .ok (.iconst 1, 1) := by decide +kernel
theorem dX8_points_100 : decode cX8_points 100 = .ok (.goto 4, 3) := by decide +kernel
theorem dX8_points_103 : decode cX8_points 103 = .ok (.iconst 0, 1) := by decide +kernel
theorem dX8_points_104 : decode cX8_points 104 = .ok (.iadd, 1) := by decide +kernel
theorem dX8_points_105 : decode cX8_points 105 = .ok (.istore_n 3, 1) := by decide +kernel
theorem dX8_points_106 : decode cX8_points 106 = .ok (.iinc 4 1, 3) := by decide +kernel
theorem dX8_points_109 : decode cX8_points 109 = .ok (.goto (-104), 3) := by decide +kernel
theorem dX8_points_112 : decode cX8_points 112 = .ok (.iload_n 3, 1) := by decide +kernel
theorem dX8_points_113 : decode cX8_points 113 = .ok (.ireturn, 1) := by decide +kernel
theorem dX8_allPoints_0 : decode cX8_allPoints 0 = .ok (.aload_n 0, 1) := by decide +kernel
theorem dX8_allPoints_1 : decode cX8_allPoints 1 = .ok (.invokevirtual 98, 3) := by decide +kernel
theorem dX8_allPoints_4 : decode cX8_allPoints 4 = .ok (.iconst 0, 1) := by decide +kernel
theorem dX8_allPoints_5 : decode cX8_allPoints 5 = .ok (.istore_n 1, 1) := by decide +kernel
theorem dX8_allPoints_6 : decode cX8_allPoints 6 = .ok (.iconst 0, 1) := by decide +kernel
theorem dX8_allPoints_7 : decode cX8_allPoints 7 = .ok (.istore_n 2, 1) := by decide +kernel
theorem dX8_allPoints_8 : decode cX8_allPoints 8 = .ok (.iload_n 2, 1) := by decide +kernel
theorem dX8_allPoints_9 : decode cX8_allPoints 9 = .ok (.aload_n 0, 1) := by decide +kernel
theorem dX8_allPoints_10 : decode cX8_allPoints 10 = .ok (.getfield 7, 3) := by decide +kernel
theorem dX8_allPoints_13 : decode cX8_allPoints 13 = .ok (.bipush 121, 2) := by decide +kernel
theorem dX8_allPoints_15 : decode cX8_allPoints 15 = .ok (.iaload, 1) := by decide +kernel
theorem dX8_allPoints_16 : decode cX8_allPoints 16 = .ok (.aload_n 0, 1) := by decide +kernel
theorem dX8_allPoints_17 : decode cX8_allPoints 17 = .ok (.getfield 7, 3) := by decide +kernel
theorem dX8_allPoints_20 : decode cX8_allPoints 20 = .ok (.bipush 121, 2) := by decide +kernel
theorem dX8_allPoints_22 : decode cX8_allPoints 22 = .ok (.iaload, 1) := by decide +kernel
theorem dX8_allPoints_23 : decode cX8_allPoints 23 = .ok (.imul, 1) := by decide +kernel
theorem dX8_allPoints_24 : decode cX8_allPoints 24 = .ok (.if_icmp .ge 34, 3) := by decide +kernel
theorem dX8_allPoints_27 : decode cX8_allPoints 27 = .ok (.iload_n 1, 1) := by decide +kernel
theorem dX8_allPoints_28 : decode cX8_allPoints 28 = .ok (.aload_n 0, 1) := by decide +kernel
theorem dX8_allPoints_29 : decode cX8_allPoints 29 = .ok (.iload_n 2, 1) := by decide +kernel
theorem dX8_allPoints_30 : decode cX8_allPoints 30 = .ok (.aload_n 0, 1) := by decide +kernel
theorem dX8_allPoints_31 : decode cX8_allPoints 31 = .ok (.getfield 7, 3) := by decide +kernel
theorem dX8_allPoints_34 : decode cX8_allPoints 34 = .ok (.bipush 121, 2) := by decide +kernel
theorem dX8_allPoints_36 : decode cX8_allPoints 36 = .ok (.iaload, 1) := by decide +kernel
theorem dX8_allPoints_37 : decode cX8_allPoints 37 = .ok (.idiv, 1) := by decide +kernel
theorem dX8_allPoints_38 : decode cX8_allPoints 38 = .ok (.iload_n 2, 1) := by decide +kernel
theorem dX8_allPoints_39 : decode cX8_allPoints 39 = .ok (.aload_n 0, 1) := by decide +kernel
theorem dX8_allPoints_40 : decode cX8_allPoints 40 = .ok (.getfield 7, 3) := by decide +kernel
theorem dX8_allPoints_43 : decode cX8_allPoints 43 = .ok (.bipush 121, 2) := by decide +kernel
theorem dX8_allPoints_45 : decode cX8_allPoints 45 = .ok (.iaload, 1) := by decide +kernel
theorem dX8_allPoints_46 : decode cX8_allPoints 46 = .ok (.irem, 1) := by decide +kernel
theorem dX8_allPoints_47 : decode cX8_allPoints 47 = .ok (.invokevirtual 101, 3) := by decide +kernel
theorem dX8_allPoints_50 : decode cX8_allPoints 50 = .ok (.iadd, 1) := by decide +kernel
theorem dX8_allPoints_51 : decode cX8_allPoints 51 = .ok (.istore_n 1, 1) := by decide +kernel
theorem dX8_allPoints_52 : decode cX8_allPoints 52 = .ok (.iinc 2 1, 3) := by decide +kernel
theorem dX8_allPoints_55 : decode cX8_allPoints 55 = .ok (.goto (-47), 3) := by decide +kernel
theorem dX8_allPoints_58 : decode cX8_allPoints 58 = .ok (.iload_n 1, 1) := by decide +kernel
theorem dX8_allPoints_59 : decode cX8_allPoints 59 = .ok (.ireturn, 1) := by decide +kernel
theorem dX8_pointsOf_0 : decode cX8_pointsOf 0 = .ok (.aload_n 0, 1) := by decide +kernel
theorem dX8_pointsOf_1 : decode cX8_pointsOf 1 = .ok (.invokevirtual 98, 3) := by decide +kernel
theorem dX8_pointsOf_4 : decode cX8_pointsOf 4 = .ok (.iconst 0, 1) := by decide +kernel
theorem dX8_pointsOf_5 : decode cX8_pointsOf 5 = .ok (.istore_n 2, 1) := by decide +kernel
theorem dX8_pointsOf_6 : decode cX8_pointsOf 6 = .ok (.iconst 0, 1) := by decide +kernel
theorem dX8_pointsOf_7 : decode cX8_pointsOf 7 = .ok (.istore_n 3, 1) := by decide +kernel
theorem dX8_pointsOf_8 : decode cX8_pointsOf 8 = .ok (.iload_n 3, 1) := by decide +kernel
theorem dX8_pointsOf_9 : decode cX8_pointsOf 9 = .ok (.aload_n 0, 1) := by decide +kernel
theorem dX8_pointsOf_10 : decode cX8_pointsOf 10 = .ok (.getfield 7, 3) := by decide +kernel
theorem dX8_pointsOf_13 : decode cX8_pointsOf 13 = .ok (.bipush 121, 2) := by decide +kernel
theorem dX8_pointsOf_15 : decode cX8_pointsOf 15 = .ok (.iaload, 1) := by decide +kernel
theorem dX8_pointsOf_16 : decode cX8_pointsOf 16 = .ok (.if_icmp .ge 25, 3) := by decide +kernel
theorem dX8_pointsOf_19 : decode cX8_pointsOf 19 = .ok (.iload_n 2, 1) := by decide +kernel
theorem dX8_pointsOf_20 : decode cX8_pointsOf 20 = .ok (.aload_n 0, 1) := by decide +kernel
theorem dX8_pointsOf_21 : decode cX8_pointsOf 21 = .ok (.iload_n 1, 1) := by decide +kernel
theorem dX8_pointsOf_22 : decode cX8_pointsOf 22 = .ok (.iload_n 3, 1) := by decide +kernel
theorem dX8_pointsOf_23 : decode cX8_pointsOf 23 = .ok (.invokevirtual 101, 3) := by decide +kernel
theorem dX8_pointsOf_26 : decode cX8_pointsOf 26 = .ok (.aload_n 0, 1) := by decide +kernel
theorem dX8_pointsOf_27 : decode cX8_pointsOf 27 = .ok (.iload_n 3, 1) := by decide +kernel
theorem dX8_pointsOf_28 : decode cX8_pointsOf 28 = .ok (.iload_n 1, 1) := by decide +kernel
theorem dX8_pointsOf_29 : decode cX8_pointsOf 29 = .ok (.invokevirtual 101, 3) := by decide +kernel
theorem dX8_pointsOf_32 : decode cX8_pointsOf 32 = .ok (.iadd, 1) := by decide +kernel
theorem dX8_pointsOf_33 : decode cX8_pointsOf 33 = .ok (.iadd, 1) := by decide +kernel
theorem dX8_pointsOf_34 : decode cX8_pointsOf 34 = .ok (.istore_n 2, 1) := by decide +kernel
theorem dX8_pointsOf_35 : decode cX8_pointsOf 35 = .ok (.iinc 3 1, 3) := by decide +kernel
theorem dX8_pointsOf_38 : decode cX8_pointsOf 38 = .ok (.goto (-30), 3) := by decide +kernel
theorem dX8_pointsOf_41 : decode cX8_pointsOf 41 = .ok (.iload_n 2, 1) := by decide +kernel
theorem dX8_pointsOf_42 : decode cX8_pointsOf 42 = .ok (.ireturn, 1) := by decide +kernel
theorem dX8_arrowsThat_0 : decode cX8_arrowsThat 0 = .ok (.iconst 0, 1) := by decide +kernel
theorem dX8_arrowsThat_1 : decode cX8_arrowsThat 1 = .ok (.istore_n 2, 1) := by decide +kernel
theorem dX8_arrowsThat_2 : decode cX8_arrowsThat 2 = .ok (.iconst 0, 1) := by decide +kernel
theorem dX8_arrowsThat_3 : decode cX8_arrowsThat 3 = .ok (.istore_n 3, 1) := by decide +kernel
theorem dX8_arrowsThat_4 : decode cX8_arrowsThat 4 = .ok (.iload_n 3, 1) := by decide +kernel
theorem dX8_arrowsThat_5 : decode cX8_arrowsThat 5 = .ok (.aload_n 0, 1) := by decide +kernel
theorem dX8_arrowsThat_6 : decode cX8_arrowsThat 6 = .ok (.getfield 7, 3) := by decide +kernel
theorem dX8_arrowsThat_9 : decode cX8_arrowsThat 9 = .ok (.bipush 121, 2) := by decide +kernel
theorem dX8_arrowsThat_11 : decode cX8_arrowsThat 11 = .ok (.iaload, 1) := by decide +kernel
theorem dX8_arrowsThat_12 : decode cX8_arrowsThat 12 = .ok (.if_icmp .ge 42, 3) := by decide +kernel
theorem dX8_arrowsThat_15 : decode cX8_arrowsThat 15 = .ok (.iload_n 2, 1) := by decide +kernel
theorem dX8_arrowsThat_16 : decode cX8_arrowsThat 16 = .ok (.iload_n 1, 1) := by decide +kernel
theorem dX8_arrowsThat_17 : decode cX8_arrowsThat 17 = .ok (.ifCond .eq 14, 3) := by decide +kernel
theorem dX8_arrowsThat_20 : decode cX8_arrowsThat 20 = .ok (.aload_n 0, 1) := by decide +kernel
theorem dX8_arrowsThat_21 : decode cX8_arrowsThat 21 = .ok (.iload_n 3, 1) := by decide +kernel
theorem dX8_arrowsThat_22 : decode cX8_arrowsThat 22 = .ok (.invokevirtual 104, 3) := by decide +kernel
theorem dX8_arrowsThat_25 : decode cX8_arrowsThat 25 = .ok (.ifCond .le 20, 3) := by decide +kernel
theorem dX8_arrowsThat_28 : decode cX8_arrowsThat 28 = .ok (.goto 13, 3) := by decide +kernel
theorem dX8_arrowsThat_31 : decode cX8_arrowsThat 31 = .ok (.aload_n 0, 1) := by decide +kernel
theorem dX8_arrowsThat_32 : decode cX8_arrowsThat 32 = .ok (.iload_n 3, 1) := by decide +kernel
theorem dX8_arrowsThat_33 : decode cX8_arrowsThat 33 = .ok (.invokevirtual 92, 3) := by decide +kernel
theorem dX8_arrowsThat_36 : decode cX8_arrowsThat 36 = .ok (.bipush (-5), 2) := by decide +kernel
theorem dX8_arrowsThat_38 : decode cX8_arrowsThat 38 = .ok (.if_icmp .ne 7, 3) := by decide +kernel
theorem dX8_arrowsThat_41 : decode cX8_arrowsThat 41 = .ok (.iconst 1, 1) := by decide +kernel
theorem dX8_arrowsThat_42 : decode cX8_arrowsThat 42 = .ok (.goto 4, 3) := by decide +kernel
theorem dX8_arrowsThat_45 : decode cX8_arrowsThat 45 = .ok (.iconst 0, 1) := by decide +kernel
theorem dX8_arrowsThat_46 : decode cX8_arrowsThat 46 = .ok (.iadd, 1) := by decide +kernel
theorem dX8_arrowsThat_47 : decode cX8_arrowsThat 47 = .ok (.istore_n 2, 1) := by decide +kernel
theorem dX8_arrowsThat_48 : decode cX8_arrowsThat 48 = .ok (.iinc 3 1, 3) := by decide +kernel
theorem dX8_arrowsThat_51 : decode cX8_arrowsThat 51 = .ok (.goto (-47), 3) := by decide +kernel
theorem dX8_arrowsThat_54 : decode cX8_arrowsThat 54 = .ok (.iload_n 2, 1) := by decide +kernel
theorem dX8_arrowsThat_55 : decode cX8_arrowsThat 55 = .ok (.ireturn, 1) := by decide +kernel
theorem dX8_notDrawn_0 : decode cX8_notDrawn 0 = .ok (.aload_n 0, 1) := by decide +kernel
theorem dX8_notDrawn_1 : decode cX8_notDrawn 1 = .ok (.iconst 0, 1) := by decide +kernel
theorem dX8_notDrawn_2 : decode cX8_notDrawn 2 = .ok (.invokevirtual 107, 3) := by decide +kernel
theorem dX8_notDrawn_5 : decode cX8_notDrawn 5 = .ok (.ireturn, 1) := by decide +kernel
theorem dX8_widthOf_0 : decode cX8_widthOf 0 = .ok (.iconst 0, 1) := by decide +kernel
theorem dX8_widthOf_1 : decode cX8_widthOf 1 = .ok (.istore_n 3, 1) := by decide +kernel
theorem dX8_widthOf_2 : decode cX8_widthOf 2 = .ok (.iload_n 1, 1) := by decide +kernel
theorem dX8_widthOf_3 : decode cX8_widthOf 3 = .ok (.istore 4, 2) := by decide +kernel
theorem dX8_widthOf_5 : decode cX8_widthOf 5 = .ok (.iload 4, 2) := by decide +kernel
theorem dX8_widthOf_7 : decode cX8_widthOf 7 = .ok (.iload_n 2, 1) := by decide +kernel
theorem dX8_widthOf_8 : decode cX8_widthOf 8 = .ok (.if_icmp .ge 23, 3) := by decide +kernel
theorem dX8_widthOf_11 : decode cX8_widthOf 11 = .ok (.iload_n 3, 1) := by decide +kernel
theorem dX8_widthOf_12 : decode cX8_widthOf 12 = .ok (.aload_n 0, 1) := by decide +kernel
theorem dX8_widthOf_13 : decode cX8_widthOf 13 = .ok (.getfield 7, 3) := by decide +kernel
theorem dX8_widthOf_16 : decode cX8_widthOf 16 = .ok (.sipush 242, 3) := by decide +kernel
theorem dX8_widthOf_19 : decode cX8_widthOf 19 = .ok (.iload 4, 2) := by decide +kernel
theorem dX8_widthOf_21 : decode cX8_widthOf 21 = .ok (.iadd, 1) := by decide +kernel
theorem dX8_widthOf_22 : decode cX8_widthOf 22 = .ok (.iaload, 1) := by decide +kernel
theorem dX8_widthOf_23 : decode cX8_widthOf 23 = .ok (.iadd, 1) := by decide +kernel
theorem dX8_widthOf_24 : decode cX8_widthOf 24 = .ok (.istore_n 3, 1) := by decide +kernel
theorem dX8_widthOf_25 : decode cX8_widthOf 25 = .ok (.iinc 4 1, 3) := by decide +kernel
theorem dX8_widthOf_28 : decode cX8_widthOf 28 = .ok (.goto (-23), 3) := by decide +kernel
theorem dX8_widthOf_31 : decode cX8_widthOf 31 = .ok (.iload_n 3, 1) := by decide +kernel
theorem dX8_widthOf_32 : decode cX8_widthOf 32 = .ok (.ireturn, 1) := by decide +kernel
theorem dX8_stripEnd_0 : decode cX8_stripEnd 0 = .ok (.aload_n 0, 1) := by decide +kernel
theorem dX8_stripEnd_1 : decode cX8_stripEnd 1 = .ok (.invokevirtual 111, 3) := by decide +kernel
theorem dX8_stripEnd_4 : decode cX8_stripEnd 4 = .ok (.istore_n 2, 1) := by decide +kernel
theorem dX8_stripEnd_5 : decode cX8_stripEnd 5 = .ok (.iload_n 1, 1) := by decide +kernel
theorem dX8_stripEnd_6 : decode cX8_stripEnd 6 = .ok (.iconst 1, 1) := by decide +kernel
theorem dX8_stripEnd_7 : decode cX8_stripEnd 7 = .ok (.iadd, 1) := by decide +kernel
theorem dX8_stripEnd_8 : decode cX8_stripEnd 8 = .ok (.istore_n 3, 1) := by decide +kernel
theorem dX8_stripEnd_9 : decode cX8_stripEnd 9 = .ok (.iload_n 3, 1) := by decide +kernel
theorem dX8_stripEnd_10 : decode cX8_stripEnd 10 = .ok (.iload_n 2, 1) := by decide +kernel
theorem dX8_stripEnd_11 : decode cX8_stripEnd 11 = .ok (.if_icmp .ge 28, 3) := by decide +kernel
theorem dX8_stripEnd_14 : decode cX8_stripEnd 14 = .ok (.aload_n 0, 1) := by decide +kernel
theorem dX8_stripEnd_15 : decode cX8_stripEnd 15 = .ok (.iload_n 1, 1) := by decide +kernel
theorem dX8_stripEnd_16 : decode cX8_stripEnd 16 = .ok (.iload_n 3, 1) := by decide +kernel
theorem dX8_stripEnd_17 : decode cX8_stripEnd 17 = .ok (.iconst 1, 1) := by decide +kernel
theorem dX8_stripEnd_18 : decode cX8_stripEnd 18 = .ok (.iadd, 1) := by decide +kernel
theorem dX8_stripEnd_19 : decode cX8_stripEnd 19 = .ok (.invokevirtual 115, 3) := by decide +kernel
theorem dX8_stripEnd_22 : decode cX8_stripEnd 22 = .ok (.aload_n 0, 1) := by decide +kernel
theorem dX8_stripEnd_23 : decode cX8_stripEnd 23 = .ok (.getfield 7, 3) := by decide +kernel
theorem dX8_stripEnd_26 : decode cX8_stripEnd 26 = .ok (.sipush 443, 3) := by decide +kernel
theorem dX8_stripEnd_29 : decode cX8_stripEnd 29 = .ok (.iaload, 1) := by decide +kernel
theorem dX8_stripEnd_30 : decode cX8_stripEnd 30 = .ok (.if_icmp .gt 9, 3) := by decide +kernel
theorem dX8_stripEnd_33 : decode cX8_stripEnd 33 = .ok (.iinc 3 1, 3) := by decide +kernel
theorem dX8_stripEnd_36 : decode cX8_stripEnd 36 = .ok (.goto (-27), 3) := by decide +kernel
theorem dX8_stripEnd_39 : decode cX8_stripEnd 39 = .ok (.iload_n 3, 1) := by decide +kernel
theorem dX8_stripEnd_40 : decode cX8_stripEnd 40 = .ok (.ireturn, 1) := by decide +kernel
theorem dX8_stripStart_0 : decode cX8_stripStart 0 = .ok (.iconst 0, 1) := by decide +kernel
theorem dX8_stripStart_1 : decode cX8_stripStart 1 = .ok (.istore_n 2, 1) := by decide +kernel
theorem dX8_stripStart_2 : decode cX8_stripStart 2 = .ok (.iconst 0, 1) := by decide +kernel
theorem dX8_stripStart_3 : decode cX8_stripStart 3 = .ok (.istore_n 3, 1) := by decide +kernel
theorem dX8_stripStart_4 : decode cX8_stripStart 4 = .ok (.iload_n 3, 1) := by decide +kernel
theorem dX8_stripStart_5 : decode cX8_stripStart 5 = .ok (.iload_n 1, 1) := by decide +kernel
theorem dX8_stripStart_6 : decode cX8_stripStart 6 = .ok (.if_icmp .ge 23, 3) := by decide +kernel
theorem dX8_stripStart_9 : decode cX8_stripStart 9 = .ok (.iload_n 2, 1) := by decide +kernel
theorem dX8_stripStart_10 : decode cX8_stripStart 10 = .ok (.aload_n 0, 1) := by decide +kernel
theorem dX8_stripStart_11 : decode cX8_stripStart 11 = .ok (.invokevirtual 111, 3) := by decide +kernel
theorem dX8_stripStart_14 : decode cX8_stripStart 14 = .ok (.if_icmp .ge 15, 3) := by decide +kernel
theorem dX8_stripStart_17 : decode cX8_stripStart 17 = .ok (.aload_n 0, 1) := by decide +kernel
theorem dX8_stripStart_18 : decode cX8_stripStart 18 = .ok (.iload_n 2, 1) := by decide +kernel
theorem dX8_stripStart_19 : decode cX8_stripStart 19 = .ok (.invokevirtual 118, 3) := by decide +kernel
theorem dX8_stripStart_22 : decode cX8_stripStart 22 = .ok (.istore_n 2, 1) := by decide +kernel
theorem dX8_stripStart_23 : decode cX8_stripStart 23 = .ok (.iinc 3 1, 3) := by decide +kernel
theorem dX8_stripStart_26 : decode cX8_stripStart 26 = .ok (.goto (-22), 3) := by decide +kernel
theorem dX8_stripStart_29 : decode cX8_stripStart 29 = .ok (.iload_n 2, 1) := by decide +kernel
theorem dX8_stripStart_30 : decode cX8_stripStart 30 = .ok (.aload_n 0, 1) := by decide +kernel
theorem dX8_stripStart_31 : decode cX8_stripStart 31 = .ok (.invokevirtual 111, 3) := by decide +kernel
theorem dX8_stripStart_34 : decode cX8_stripStart 34 = .ok (.if_icmp .ge 7, 3) := by decide +kernel
theorem dX8_stripStart_37 : decode cX8_stripStart 37 = .ok (.iload_n 2, 1) := by decide +kernel
theorem dX8_stripStart_38 : decode cX8_stripStart 38 = .ok (.goto 5, 3) := by decide +kernel
theorem dX8_stripStart_41 : decode cX8_stripStart 41 = .ok (.bipush (-5), 2) := by decide +kernel
theorem dX8_stripStart_43 : decode cX8_stripStart 43 = .ok (.ireturn, 1) := by decide +kernel
theorem dX8_stripOf_0 : decode cX8_stripOf 0 = .ok (.iconst 0, 1) := by decide +kernel
theorem dX8_stripOf_1 : decode cX8_stripOf 1 = .ok (.istore_n 2, 1) := by decide +kernel
theorem dX8_stripOf_2 : decode cX8_stripOf 2 = .ok (.aload_n 0, 1) := by decide +kernel
theorem dX8_stripOf_3 : decode cX8_stripOf 3 = .ok (.iconst 0, 1) := by decide +kernel
theorem dX8_stripOf_4 : decode cX8_stripOf 4 = .ok (.invokevirtual 118, 3) := by decide +kernel
theorem dX8_stripOf_7 : decode cX8_stripOf 7 = .ok (.istore_n 3, 1) := by decide +kernel
theorem dX8_stripOf_8 : decode cX8_stripOf 8 = .ok (.iload_n 3, 1) := by decide +kernel
theorem dX8_stripOf_9 : decode cX8_stripOf 9 = .ok (.iload_n 1, 1) := by decide +kernel
theorem dX8_stripOf_10 : decode cX8_stripOf 10 = .ok (.if_icmp .gt 15, 3) := by decide +kernel
theorem dX8_stripOf_13 : decode cX8_stripOf 13 = .ok (.aload_n 0, 1) := by decide +kernel
theorem dX8_stripOf_14 : decode cX8_stripOf 14 = .ok (.iload_n 3, 1) := by decide +kernel
theorem dX8_stripOf_15 : decode cX8_stripOf 15 = .ok (.invokevirtual 118, 3) := by decide +kernel
theorem dX8_stripOf_18 : decode cX8_stripOf 18 = .ok (.istore_n 3, 1) := by decide +kernel
theorem dX8_stripOf_19 : decode cX8_stripOf 19 = .ok (.iinc 2 1, 3) := by decide +kernel
theorem dX8_stripOf_22 : decode cX8_stripOf 22 = .ok (.goto (-14), 3) := by decide +kernel
theorem dX8_stripOf_25 : decode cX8_stripOf 25 = .ok (.iload_n 2, 1) := by decide +kernel
theorem dX8_stripOf_26 : decode cX8_stripOf 26 = .ok (.ireturn, 1) := by decide +kernel
theorem dX8_strips_0 : decode cX8_strips 0 = .ok (.aload_n 0, 1) := by decide +kernel
theorem dX8_strips_1 : decode cX8_strips 1 = .ok (.invokevirtual 111, 3) := by decide +kernel
theorem dX8_strips_4 : decode cX8_strips 4 = .ok (.ifCond .ne 7, 3) := by decide +kernel
theorem dX8_strips_7 : decode cX8_strips 7 = .ok (.iconst 0, 1) := by decide +kernel
theorem dX8_strips_8 : decode cX8_strips 8 = .ok (.goto 15, 3) := by decide +kernel
theorem dX8_strips_11 : decode cX8_strips 11 = .ok (.aload_n 0, 1) := by decide +kernel
theorem dX8_strips_12 : decode cX8_strips 12 = .ok (.aload_n 0, 1) := by decide +kernel
theorem dX8_strips_13 : decode cX8_strips 13 = .ok (.invokevirtual 111, 3) := by decide +kernel
theorem dX8_strips_16 : decode cX8_strips 16 = .ok (.iconst 1, 1) := by decide +kernel
theorem dX8_strips_17 : decode cX8_strips 17 = .ok (.isub, 1) := by decide +kernel
theorem dX8_strips_18 : decode cX8_strips 18 = .ok (.invokevirtual 121, 3) := by decide +kernel
theorem dX8_strips_21 : decode cX8_strips 21 = .ok (.iconst 1, 1) := by decide +kernel
theorem dX8_strips_22 : decode cX8_strips 22 = .ok (.iadd, 1) := by decide +kernel
theorem dX8_strips_23 : decode cX8_strips 23 = .ok (.ireturn, 1) := by decide +kernel
theorem dX8_layPushes_0 : decode cX8_layPushes 0 = .ok (.aload_n 0, 1) := by decide +kernel
theorem dX8_layPushes_1 : decode cX8_layPushes 1 = .ok (.getfield 7, 3) := by decide +kernel
theorem dX8_layPushes_4 : decode cX8_layPushes 4 = .ok (.iconst 0, 1) := by decide +kernel
theorem dX8_layPushes_5 : decode cX8_layPushes 5 = .ok (.iaload, 1) := by decide +kernel
theorem dX8_layPushes_6 : decode cX8_layPushes 6 = .ok (.istore_n 1, 1) := by decide +kernel
theorem dX8_layPushes_7 : decode cX8_layPushes 7 = .ok (.iconst 0, 1) := by decide +kernel
theorem dX8_layPushes_8 : decode cX8_layPushes 8 = .ok (.istore_n 2, 1) := by decide +kernel
theorem dX8_layPushes_9 : decode cX8_layPushes 9 = .ok (.iload_n 2, 1) := by decide +kernel
theorem dX8_layPushes_10 : decode cX8_layPushes 10 = .ok (.iload_n 1, 1) := by decide +kernel
theorem dX8_layPushes_11 : decode cX8_layPushes 11 = .ok (.iload_n 1, 1) := by decide +kernel
theorem dX8_layPushes_12 : decode cX8_layPushes 12 = .ok (.imul, 1) := by decide +kernel
theorem dX8_layPushes_13 : decode cX8_layPushes 13 = .ok (.if_icmp .ge 67, 3) := by decide +kernel
theorem dX8_layPushes_16 : decode cX8_layPushes 16 = .ok (.iload_n 2, 1) := by decide +kernel
theorem dX8_layPushes_17 : decode cX8_layPushes 17 = .ok (.iload_n 1, 1) := by decide +kernel
theorem dX8_layPushes_18 : decode cX8_layPushes 18 = .ok (.idiv, 1) := by decide +kernel
theorem dX8_layPushes_19 : decode cX8_layPushes 19 = .ok (.istore_n 3, 1) := by decide +kernel
theorem dX8_layPushes_20 : decode cX8_layPushes 20 = .ok (.iload_n 2, 1) := by decide +kernel
theorem dX8_layPushes_21 : decode cX8_layPushes 21 = .ok (.iload_n 1, 1) := by decide +kernel
theorem dX8_layPushes_22 : decode cX8_layPushes 22 = .ok (.irem, 1) := by decide +kernel
theorem dX8_layPushes_23 : decode cX8_layPushes 23 = .ok (.istore 4, 2) := by decide +kernel
theorem dX8_layPushes_25 : decode cX8_layPushes 25 = .ok (.aload_n 0, 1) := by decide +kernel
theorem dX8_layPushes_26 : decode cX8_layPushes 26 = .ok (.getfield 28, 3) := by decide +kernel
theorem dX8_layPushes_29 : decode cX8_layPushes 29 = .ok (.bipush 30, 2) := by decide +kernel
theorem dX8_layPushes_31 : decode cX8_layPushes 31 = .ok (.iload_n 3, 1) := by decide +kernel
theorem dX8_layPushes_32 : decode cX8_layPushes 32 = .ok (.imul, 1) := by decide +kernel
theorem dX8_layPushes_33 : decode cX8_layPushes 33 = .ok (.iload 4, 2) := by decide +kernel
theorem dX8_layPushes_35 : decode cX8_layPushes 35 = .ok (.iadd, 1) := by decide +kernel
theorem dX8_layPushes_36 : decode cX8_layPushes 36 = .ok (.aload_n 0, 1) := by decide +kernel
theorem dX8_layPushes_37 : decode cX8_layPushes 37 = .ok (.iload_n 3, 1) := by decide +kernel
theorem dX8_layPushes_38 : decode cX8_layPushes 38 = .ok (.iconst 1, 1) := by decide +kernel
theorem dX8_layPushes_39 : decode cX8_layPushes 39 = .ok (.invokevirtual 48, 3) := by decide +kernel
theorem dX8_layPushes_42 : decode cX8_layPushes 42 = .ok (.aload_n 0, 1) := by decide +kernel
theorem dX8_layPushes_43 : decode cX8_layPushes 43 = .ok (.iload 4, 2) := by decide +kernel
theorem dX8_layPushes_45 : decode cX8_layPushes 45 = .ok (.iconst 1, 1) := by decide +kernel
theorem dX8_layPushes_46 : decode cX8_layPushes 46 = .ok (.invokevirtual 48, 3) := by decide +kernel
theorem dX8_layPushes_49 : decode cX8_layPushes 49 = .ok (.if_icmp .ne 23, 3) := by decide +kernel
theorem dX8_layPushes_52 : decode cX8_layPushes 52 = .ok (.aload_n 0, 1) := by decide +kernel
theorem dX8_layPushes_53 : decode cX8_layPushes 53 = .ok (.iload 4, 2) := by decide +kernel
theorem dX8_layPushes_55 : decode cX8_layPushes 55 = .ok (.iconst 2, 1) := by decide +kernel
theorem dX8_layPushes_56 : decode cX8_layPushes 56 = .ok (.invokevirtual 48, 3) := by decide +kernel
theorem dX8_layPushes_59 : decode cX8_layPushes 59 = .ok (.aload_n 0, 1) := by decide +kernel
theorem dX8_layPushes_60 : decode cX8_layPushes 60 = .ok (.iload_n 3, 1) := by decide +kernel
theorem dX8_layPushes_61 : decode cX8_layPushes 61 = .ok (.iconst 2, 1) := by decide +kernel
theorem dX8_layPushes_62 : decode cX8_layPushes 62 = .ok (.invokevirtual 48, 3) := by decide +kernel
theorem dX8_layPushes_65 : decode cX8_layPushes 65 = .ok (.if_icmp .le 7, 3) := by decide +kernel
theorem dX8_layPushes_68 : decode cX8_layPushes 68 = .ok (.iconst 1, 1) := by decide +kernel
theorem dX8_layPushes_69 : decode cX8_layPushes 69 = .ok (.goto 4, 3) := by decide +kernel
theorem dX8_layPushes_72 : decode cX8_layPushes 72 = .ok (.iconst 0, 1) := by decide +kernel
theorem dX8_layPushes_73 : decode cX8_layPushes 73 = .ok (.bastore, 1) := by decide +kernel
theorem dX8_layPushes_74 : decode cX8_layPushes 74 = .ok (.iinc 2 1, 3) := by decide +kernel
theorem dX8_layPushes_77 : decode cX8_layPushes 77 = .ok (.goto (-68), 3) := by decide +kernel
theorem dX8_layPushes_80 : decode cX8_layPushes 80 = .ok (.iconst 0, 1) := by decide +kernel
theorem dX8_layPushes_81 : decode cX8_layPushes 81 = .ok (.istore_n 2, 1) := by decide +kernel
theorem dX8_layPushes_82 : decode cX8_layPushes 82 = .ok (.iload_n 2, 1) := by decide +kernel
theorem dX8_layPushes_83 : decode cX8_layPushes 83 = .ok (.aload_n 0, 1) := by decide +kernel
theorem dX8_layPushes_84 : decode cX8_layPushes 84 = .ok (.getfield 7, 3) := by decide +kernel
theorem dX8_layPushes_87 : decode cX8_layPushes 87 = .ok (.bipush 121, 2) := by decide +kernel
theorem dX8_layPushes_89 : decode cX8_layPushes 89 = .ok (.iaload, 1) := by decide +kernel
theorem dX8_layPushes_90 : decode cX8_layPushes 90 = .ok (.if_icmp .ge 52, 3) := by decide +kernel
theorem dX8_layPushes_93 : decode cX8_layPushes 93 = .ok (.bipush 30, 2) := by decide +kernel
theorem dX8_layPushes_95 : decode cX8_layPushes 95 = .ok (.aload_n 0, 1) := by decide +kernel
theorem dX8_layPushes_96 : decode cX8_layPushes 96 = .ok (.iload_n 2, 1) := by decide +kernel
theorem dX8_layPushes_97 : decode cX8_layPushes 97 = .ok (.invokevirtual 70, 3) := by decide +kernel
theorem dX8_layPushes_100 : decode cX8_layPushes 100 = .ok (.imul, 1) := by decide +kernel
theorem dX8_layPushes_101 : decode cX8_layPushes 101 = .ok (.aload_n 0, 1) := by decide +kernel
theorem dX8_layPushes_102 : decode cX8_layPushes 102 = .ok (.iload_n 2, 1) := by decide +kernel
theorem dX8_layPushes_103 : decode cX8_layPushes 103 = .ok (.invokevirtual 73, 3) := by decide +kernel
theorem dX8_layPushes_106 : decode cX8_layPushes 106 = .ok (.iadd, 1) := by decide +kernel
theorem dX8_layPushes_107 : decode cX8_layPushes 107 = .ok (.istore_n 3, 1) := by decide +kernel
theorem dX8_layPushes_108 : decode cX8_layPushes 108 = .ok (.aload_n 0, 1) := by decide +kernel
theorem dX8_layPushes_109 : decode cX8_layPushes 109 = .ok (.getfield 28, 3) := by decide +kernel
theorem dX8_layPushes_112 : decode cX8_layPushes 112 = .ok (.iload_n 3, 1) := by decide +kernel
theorem dX8_layPushes_113 : decode cX8_layPushes 113 = .ok (.aload_n 0, 1) := by decide +kernel
theorem dX8_layPushes_114 : decode cX8_layPushes 114 = .ok (.getfield 28, 3) := by decide +kernel
theorem dX8_layPushes_117 : decode cX8_layPushes 117 = .ok (.iload_n 3, 1) := by decide +kernel
theorem dX8_layPushes_118 : decode cX8_layPushes 118 = .ok (.baload, 1) := by decide +kernel
theorem dX8_layPushes_119 : decode cX8_layPushes 119 = .ok (.ifCond .ne 11, 3) := by decide +kernel
theorem dX8_layPushes_122 : decode cX8_layPushes 122 = .ok (.aload_n 0, 1) := by decide +kernel
theorem dX8_layPushes_123 : decode cX8_layPushes 123 = .ok (.iload_n 2, 1) := by decide +kernel
theorem dX8_layPushes_124 : decode cX8_layPushes 124 = .ok (.invokevirtual 104, 3) := by decide +kernel
theorem dX8_layPushes_127 : decode cX8_layPushes 127 = .ok (.ifCond .ne 7, 3) := by decide +kernel
theorem dX8_layPushes_130 : decode cX8_layPushes 130 = .ok (.iconst 1, 1) := by decide +kernel
theorem dX8_layPushes_131 : decode cX8_layPushes 131 = .ok (.goto 4, 3) := by decide +kernel
theorem dX8_layPushes_134 : decode cX8_layPushes 134 = .ok (.iconst 0, 1) := by decide +kernel
theorem dX8_layPushes_135 : decode cX8_layPushes 135 = .ok (.bastore, 1) := by decide +kernel
theorem dX8_layPushes_136 : decode cX8_layPushes 136 = .ok (.iinc 2 1, 3) := by decide +kernel
theorem dX8_layPushes_139 : decode cX8_layPushes 139 = .ok (.goto (-57), 3) := by decide +kernel
theorem dX8_layPushes_142 : decode cX8_layPushes 142 = .ok (.return_, 1) := by decide +kernel
theorem dX8_slips_0 : decode cX8_slips 0 = .ok (.aload_n 0, 1) := by decide +kernel
theorem dX8_slips_1 : decode cX8_slips 1 = .ok (.invokevirtual 124, 3) := by decide +kernel
theorem dX8_slips_4 : decode cX8_slips 4 = .ok (.aload_n 0, 1) := by decide +kernel
theorem dX8_slips_5 : decode cX8_slips 5 = .ok (.getfield 7, 3) := by decide +kernel
theorem dX8_slips_8 : decode cX8_slips 8 = .ok (.iconst 0, 1) := by decide +kernel
theorem dX8_slips_9 : decode cX8_slips 9 = .ok (.iaload, 1) := by decide +kernel
theorem dX8_slips_10 : decode cX8_slips 10 = .ok (.istore_n 3, 1) := by decide +kernel
theorem dX8_slips_11 : decode cX8_slips 11 = .ok (.aload_n 0, 1) := by decide +kernel
theorem dX8_slips_12 : decode cX8_slips 12 = .ok (.getfield 7, 3) := by decide +kernel
theorem dX8_slips_15 : decode cX8_slips 15 = .ok (.iconst 1, 1) := by decide +kernel
theorem dX8_slips_16 : decode cX8_slips 16 = .ok (.iconst 4, 1) := by decide +kernel
theorem dX8_slips_17 : decode cX8_slips 17 = .ok (.iload_n 1, 1) := by decide +kernel
theorem dX8_slips_18 : decode cX8_slips 18 = .ok (.imul, 1) := by decide +kernel
theorem dX8_slips_19 : decode cX8_slips 19 = .ok (.iadd, 1) := by decide +kernel
theorem dX8_slips_20 : decode cX8_slips 20 = .ok (.iconst 2, 1) := by decide +kernel
theorem dX8_slips_21 : decode cX8_slips 21 = .ok (.iadd, 1) := by decide +kernel
theorem dX8_slips_22 : decode cX8_slips 22 = .ok (.dup2, 1) := by decide +kernel
theorem dX8_slips_23 : decode cX8_slips 23 = .ok (.iaload, 1) := by decide +kernel
theorem dX8_slips_24 : decode cX8_slips 24 = .ok (.iload_n 2, 1) := by decide +kernel
theorem dX8_slips_25 : decode cX8_slips 25 = .ok (.iadd, 1) := by decide +kernel
theorem dX8_slips_26 : decode cX8_slips 26 = .ok (.iastore, 1) := by decide +kernel
theorem dX8_slips_27 : decode cX8_slips 27 = .ok (.iconst 1, 1) := by decide +kernel
theorem dX8_slips_28 : decode cX8_slips 28 = .ok (.istore 4, 2) := by decide +kernel
theorem dX8_slips_30 : decode cX8_slips 30 = .ok (.iload 4, 2) := by decide +kernel
theorem dX8_slips_32 : decode cX8_slips 32 = .ok (.ifCond .eq 92, 3) := by decide +kernel
theorem dX8_slips_35 : decode cX8_slips 35 = .ok (.iconst 0, 1) := by decide +kernel
theorem dX8_slips_36 : decode cX8_slips 36 = .ok (.istore 4, 2) := by decide +kernel
theorem dX8_slips_38 : decode cX8_slips 38 = .ok (.iconst 0, 1) := by decide +kernel
theorem dX8_slips_39 : decode cX8_slips 39 = .ok (.istore 5, 2) := by decide +kernel
theorem dX8_slips_41 : decode cX8_slips 41 = .ok (.iload 5, 2) := by decide +kernel
theorem dX8_slips_43 : decode cX8_slips 43 = .ok (.iload_n 3, 1) := by decide +kernel
theorem dX8_slips_44 : decode cX8_slips 44 = .ok (.iload_n 3, 1) := by decide +kernel
theorem dX8_slips_45 : decode cX8_slips 45 = .ok (.imul, 1) := by decide +kernel
theorem dX8_slips_46 : decode cX8_slips 46 = .ok (.if_icmp .ge 75, 3) := by decide +kernel
theorem dX8_slips_49 : decode cX8_slips 49 = .ok (.iload 5, 2) := by decide +kernel
theorem dX8_slips_51 : decode cX8_slips 51 = .ok (.iload_n 3, 1) := by decide +kernel
theorem dX8_slips_52 : decode cX8_slips 52 = .ok (.irem, 1) := by decide +kernel
theorem dX8_slips_53 : decode cX8_slips 53 = .ok (.istore 6, 2) := by decide +kernel
theorem dX8_slips_55 : decode cX8_slips 55 = .ok (.aload_n 0, 1) := by decide +kernel
theorem dX8_slips_56 : decode cX8_slips 56 = .ok (.getfield 28, 3) := by decide +kernel
theorem dX8_slips_59 : decode cX8_slips 59 = .ok (.bipush 30, 2) := by decide +kernel
theorem dX8_slips_61 : decode cX8_slips 61 = .ok (.iload 5, 2) := by decide +kernel
theorem dX8_slips_63 : decode cX8_slips 63 = .ok (.iload_n 3, 1) := by decide +kernel
theorem dX8_slips_64 : decode cX8_slips 64 = .ok (.idiv, 1) := by decide +kernel
theorem dX8_slips_65 : decode cX8_slips 65 = .ok (.imul, 1) := by decide +kernel
theorem dX8_slips_66 : decode cX8_slips 66 = .ok (.iload 6, 2) := by decide +kernel
theorem dX8_slips_68 : decode cX8_slips 68 = .ok (.iadd, 1) := by decide +kernel
theorem dX8_slips_69 : decode cX8_slips 69 = .ok (.baload, 1) := by decide +kernel
theorem dX8_slips_70 : decode cX8_slips 70 = .ok (.ifCond .eq 45, 3) := by decide +kernel
theorem dX8_slips_73 : decode cX8_slips 73 = .ok (.aload_n 0, 1) := by decide +kernel
theorem dX8_slips_74 : decode cX8_slips 74 = .ok (.iload 6, 2) := by decide +kernel
theorem dX8_slips_76 : decode cX8_slips 76 = .ok (.iconst 2, 1) := by decide +kernel
theorem dX8_slips_77 : decode cX8_slips 77 = .ok (.invokevirtual 48, 3) := by decide +kernel
theorem dX8_slips_80 : decode cX8_slips 80 = .ok (.aload_n 0, 1) := by decide +kernel
theorem dX8_slips_81 : decode cX8_slips 81 = .ok (.iload 5, 2) := by decide +kernel
theorem dX8_slips_83 : decode cX8_slips 83 = .ok (.iload_n 3, 1) := by decide +kernel
theorem dX8_slips_84 : decode cX8_slips 84 = .ok (.idiv, 1) := by decide +kernel
theorem dX8_slips_85 : decode cX8_slips 85 = .ok (.invokevirtual 56, 3) := by decide +kernel
theorem dX8_slips_88 : decode cX8_slips 88 = .ok (.if_icmp .ge 27, 3) := by decide +kernel
theorem dX8_slips_91 : decode cX8_slips 91 = .ok (.aload_n 0, 1) := by decide +kernel
theorem dX8_slips_92 : decode cX8_slips 92 = .ok (.getfield 7, 3) := by decide +kernel
theorem dX8_slips_95 : decode cX8_slips 95 = .ok (.iconst 1, 1) := by decide +kernel
theorem dX8_slips_96 : decode cX8_slips 96 = .ok (.iconst 4, 1) := by decide +kernel
theorem dX8_slips_97 : decode cX8_slips 97 = .ok (.iload 6, 2) := by decide +kernel
theorem dX8_slips_99 : decode cX8_slips 99 = .ok (.imul, 1) := by decide +kernel
theorem dX8_slips_100 : decode cX8_slips 100 = .ok (.iadd, 1) := by decide +kernel
theorem dX8_slips_101 : decode cX8_slips 101 = .ok (.iconst 2, 1) := by decide +kernel
theorem dX8_slips_102 : decode cX8_slips 102 = .ok (.iadd, 1) := by decide +kernel
theorem dX8_slips_103 : decode cX8_slips 103 = .ok (.aload_n 0, 1) := by decide +kernel
theorem dX8_slips_104 : decode cX8_slips 104 = .ok (.iload 5, 2) := by decide +kernel
theorem dX8_slips_106 : decode cX8_slips 106 = .ok (.iload_n 3, 1) := by decide +kernel
theorem dX8_slips_107 : decode cX8_slips 107 = .ok (.idiv, 1) := by decide +kernel
theorem dX8_slips_108 : decode cX8_slips 108 = .ok (.invokevirtual 56, 3) := by decide +kernel
theorem dX8_slips_111 : decode cX8_slips 111 = .ok (.iastore, 1) := by decide +kernel
theorem dX8_slips_112 : decode cX8_slips 112 = .ok (.iconst 1, 1) := by decide +kernel
theorem dX8_slips_113 : decode cX8_slips 113 = .ok (.istore 4, 2) := by decide +kernel
theorem dX8_slips_115 : decode cX8_slips 115 = .ok (.iinc 5 1, 3) := by decide +kernel
theorem dX8_slips_118 : decode cX8_slips 118 = .ok (.goto (-77), 3) := by decide +kernel
theorem dX8_slips_121 : decode cX8_slips 121 = .ok (.goto (-91), 3) := by decide +kernel
theorem dX8_slips_124 : decode cX8_slips 124 = .ok (.iconst 0, 1) := by decide +kernel
theorem dX8_slips_125 : decode cX8_slips 125 = .ok (.istore 5, 2) := by decide +kernel
theorem dX8_slips_127 : decode cX8_slips 127 = .ok (.iconst 0, 1) := by decide +kernel
theorem dX8_slips_128 : decode cX8_slips 128 = .ok (.istore 6, 2) := by decide +kernel
theorem dX8_slips_130 : decode cX8_slips 130 = .ok (.iload 6, 2) := by decide +kernel
theorem dX8_slips_132 : decode cX8_slips 132 = .ok (.iload_n 3, 1) := by decide +kernel
theorem dX8_slips_133 : decode cX8_slips 133 = .ok (.if_icmp .ge 74, 3) := by decide +kernel
theorem dX8_slips_136 : decode cX8_slips 136 = .ok (.iload 5, 2) := by decide +kernel
theorem dX8_slips_138 : decode cX8_slips 138 = .ok (.aload_n 0, 1) := by decide +kernel
theorem dX8_slips_139 : decode cX8_slips 139 = .ok (.iload 6, 2) := by decide +kernel
theorem dX8_slips_141 : decode cX8_slips 141 = .ok (.iconst 2, 1) := by decide +kernel
theorem dX8_slips_142 : decode cX8_slips 142 = .ok (.invokevirtual 48, 3) := by decide +kernel
theorem dX8_slips_145 : decode cX8_slips 145 = .ok (.aload_n 0, 1) := by decide +kernel
theorem dX8_slips_146 : decode cX8_slips 146 = .ok (.getfield 13, 3) := by decide +kernel
theorem dX8_slips_149 : decode cX8_slips 149 = .ok (.iconst 1, 1) := by decide +kernel
theorem dX8_slips_150 : decode cX8_slips 150 = .ok (.iconst 4, 1) := by decide +kernel
theorem dX8_slips_151 : decode cX8_slips 151 = .ok (.iload 6, 2) := by decide +kernel
theorem dX8_slips_153 : decode cX8_slips 153 = .ok (.imul, 1) := by decide +kernel
theorem dX8_slips_154 : decode cX8_slips 154 = .ok (.iadd, 1) := by decide +kernel
theorem dX8_slips_155 : decode cX8_slips 155 = .ok (.iconst 2, 1) := by decide +kernel
theorem dX8_slips_156 : decode cX8_slips 156 = .ok (.iadd, 1) := by decide +kernel
theorem dX8_slips_157 : decode cX8_slips 157 = .ok (.iaload, 1) := by decide +kernel
theorem dX8_slips_158 : decode cX8_slips 158 = .ok (.if_icmp .ne 7, 3) := by decide +kernel
theorem dX8_slips_161 : decode cX8_slips 161 = .ok (.iconst 0, 1) := by decide +kernel
theorem dX8_slips_162 : decode cX8_slips 162 = .ok (.goto 4, 3) := by decide +kernel
theorem dX8_slips_165 : decode cX8_slips 165 = .ok (.iconst 1, 1) := by decide +kernel
theorem dX8_slips_166 : decode cX8_slips 166 = .ok (.iadd, 1) := by decide +kernel
theorem dX8_slips_167 : decode cX8_slips 167 = .ok (.istore 5, 2) := by decide +kernel
theorem dX8_slips_169 : decode cX8_slips 169 = .ok (.aload_n 0, 1) := by decide +kernel
theorem dX8_slips_170 : decode cX8_slips 170 = .ok (.getfield 7, 3) := by decide +kernel
theorem dX8_slips_173 : decode cX8_slips 173 = .ok (.sipush 446, 3) := by decide +kernel
theorem dX8_slips_176 : decode cX8_slips 176 = .ok (.dup2, 1) := by decide +kernel
theorem dX8_slips_177 : decode cX8_slips 177 = .ok (.iaload, 1) := by decide +kernel
theorem dX8_slips_178 : decode cX8_slips 178 = .ok (.aload_n 0, 1) := by decide +kernel
theorem dX8_slips_179 : decode cX8_slips 179 = .ok (.iload 6, 2) := by decide +kernel
theorem dX8_slips_181 : decode cX8_slips 181 = .ok (.iconst 2, 1) := by decide +kernel
theorem dX8_slips_182 : decode cX8_slips 182 = .ok (.invokevirtual 48, 3) := by decide +kernel
theorem dX8_slips_185 : decode cX8_slips 185 = .ok (.aload_n 0, 1) := by decide +kernel
theorem dX8_slips_186 : decode cX8_slips 186 = .ok (.getfield 13, 3) := by decide +kernel
theorem dX8_slips_189 : decode cX8_slips 189 = .ok (.iconst 1, 1) := by decide +kernel
theorem dX8_slips_190 : decode cX8_slips 190 = .ok (.iconst 4, 1) := by decide +kernel
theorem dX8_slips_191 : decode cX8_slips 191 = .ok (.iload 6, 2) := by decide +kernel
theorem dX8_slips_193 : decode cX8_slips 193 = .ok (.imul, 1) := by decide +kernel
theorem dX8_slips_194 : decode cX8_slips 194 = .ok (.iadd, 1) := by decide +kernel
theorem dX8_slips_195 : decode cX8_slips 195 = .ok (.iconst 2, 1) := by decide +kernel
theorem dX8_slips_196 : decode cX8_slips 196 = .ok (.iadd, 1) := by decide +kernel
theorem dX8_slips_197 : decode cX8_slips 197 = .ok (.iaload, 1) := by decide +kernel
theorem dX8_slips_198 : decode cX8_slips 198 = .ok (.isub, 1) := by decide +kernel
theorem dX8_slips_199 : decode cX8_slips 199 = .ok (.iadd, 1) := by decide +kernel
theorem dX8_slips_200 : decode cX8_slips 200 = .ok (.iastore, 1) := by decide +kernel
theorem dX8_slips_201 : decode cX8_slips 201 = .ok (.iinc 6 1, 3) := by decide +kernel
theorem dX8_slips_204 : decode cX8_slips 204 = .ok (.goto (-74), 3) := by decide +kernel
theorem dX8_slips_207 : decode cX8_slips 207 = .ok (.iload 5, 2) := by decide +kernel
theorem dX8_slips_209 : decode cX8_slips 209 = .ok (.ireturn, 1) := by decide +kernel
theorem dX8_layLatest_0 : decode cX8_layLatest 0 = .ok (.aload_n 0, 1) := by decide +kernel
theorem dX8_layLatest_1 : decode cX8_layLatest 1 = .ok (.invokevirtual 124, 3) := by decide +kernel
theorem dX8_layLatest_4 : decode cX8_layLatest 4 = .ok (.aload_n 0, 1) := by decide +kernel
theorem dX8_layLatest_5 : decode cX8_layLatest 5 = .ok (.getfield 7, 3) := by decide +kernel
theorem dX8_layLatest_8 : decode cX8_layLatest 8 = .ok (.iconst 0, 1) := by decide +kernel
theorem dX8_layLatest_9 : decode cX8_layLatest 9 = .ok (.iaload, 1) := by decide +kernel
theorem dX8_layLatest_10 : decode cX8_layLatest 10 = .ok (.istore_n 1, 1) := by decide +kernel
theorem dX8_layLatest_11 : decode cX8_layLatest 11 = .ok (.aload_n 0, 1) := by decide +kernel
theorem dX8_layLatest_12 : decode cX8_layLatest 12 = .ok (.invokevirtual 111, 3) := by decide +kernel
theorem dX8_layLatest_15 : decode cX8_layLatest 15 = .ok (.istore_n 2, 1) := by decide +kernel
theorem dX8_layLatest_16 : decode cX8_layLatest 16 = .ok (.iconst 0, 1) := by decide +kernel
theorem dX8_layLatest_17 : decode cX8_layLatest 17 = .ok (.istore_n 3, 1) := by decide +kernel
theorem dX8_layLatest_18 : decode cX8_layLatest 18 = .ok (.iload_n 3, 1) := by decide +kernel
theorem dX8_layLatest_19 : decode cX8_layLatest 19 = .ok (.iload_n 1, 1) := by decide +kernel
theorem dX8_layLatest_20 : decode cX8_layLatest 20 = .ok (.if_icmp .ge 23, 3) := by decide +kernel
theorem dX8_layLatest_23 : decode cX8_layLatest 23 = .ok (.aload_n 0, 1) := by decide +kernel
theorem dX8_layLatest_24 : decode cX8_layLatest 24 = .ok (.getfield 32, 3) := by decide +kernel
theorem dX8_layLatest_27 : decode cX8_layLatest 27 = .ok (.iload_n 3, 1) := by decide +kernel
theorem dX8_layLatest_28 : decode cX8_layLatest 28 = .ok (.iload_n 2, 1) := by decide +kernel
theorem dX8_layLatest_29 : decode cX8_layLatest 29 = .ok (.aload_n 0, 1) := by decide +kernel
theorem dX8_layLatest_30 : decode cX8_layLatest 30 = .ok (.iload_n 3, 1) := by decide +kernel
theorem dX8_layLatest_31 : decode cX8_layLatest 31 = .ok (.iconst 3, 1) := by decide +kernel
theorem dX8_layLatest_32 : decode cX8_layLatest 32 = .ok (.invokevirtual 48, 3) := by decide +kernel
theorem dX8_layLatest_35 : decode cX8_layLatest 35 = .ok (.isub, 1) := by decide +kernel
theorem dX8_layLatest_36 : decode cX8_layLatest 36 = .ok (.iastore, 1) := by decide +kernel
theorem dX8_layLatest_37 : decode cX8_layLatest 37 = .ok (.iinc 3 1, 3) := by decide +kernel
theorem dX8_layLatest_40 : decode cX8_layLatest 40 = .ok (.goto (-22), 3) := by decide +kernel
theorem dX8_layLatest_43 : decode cX8_layLatest 43 = .ok (.iconst 1, 1) := by decide +kernel
theorem dX8_layLatest_44 : decode cX8_layLatest 44 = .ok (.istore_n 3, 1) := by decide +kernel
theorem dX8_layLatest_45 : decode cX8_layLatest 45 = .ok (.iload_n 3, 1) := by decide +kernel
theorem dX8_layLatest_46 : decode cX8_layLatest 46 = .ok (.ifCond .eq 91, 3) := by decide +kernel
theorem dX8_layLatest_49 : decode cX8_layLatest 49 = .ok (.iconst 0, 1) := by decide +kernel
theorem dX8_layLatest_50 : decode cX8_layLatest 50 = .ok (.istore_n 3, 1) := by decide +kernel
theorem dX8_layLatest_51 : decode cX8_layLatest 51 = .ok (.iconst 0, 1) := by decide +kernel
theorem dX8_layLatest_52 : decode cX8_layLatest 52 = .ok (.istore 4, 2) := by decide +kernel
theorem dX8_layLatest_54 : decode cX8_layLatest 54 = .ok (.iload 4, 2) := by decide +kernel
theorem dX8_layLatest_56 : decode cX8_layLatest 56 = .ok (.iload_n 1, 1) := by decide +kernel
theorem dX8_layLatest_57 : decode cX8_layLatest 57 = .ok (.iload_n 1, 1) := by decide +kernel
theorem dX8_layLatest_58 : decode cX8_layLatest 58 = .ok (.imul, 1) := by decide +kernel
theorem dX8_layLatest_59 : decode cX8_layLatest 59 = .ok (.if_icmp .ge 75, 3) := by decide +kernel
theorem dX8_layLatest_62 : decode cX8_layLatest 62 = .ok (.iload 4, 2) := by decide +kernel
theorem dX8_layLatest_64 : decode cX8_layLatest 64 = .ok (.iload_n 1, 1) := by decide +kernel
theorem dX8_layLatest_65 : decode cX8_layLatest 65 = .ok (.idiv, 1) := by decide +kernel
theorem dX8_layLatest_66 : decode cX8_layLatest 66 = .ok (.istore 5, 2) := by decide +kernel
theorem dX8_layLatest_68 : decode cX8_layLatest 68 = .ok (.aload_n 0, 1) := by decide +kernel
theorem dX8_layLatest_69 : decode cX8_layLatest 69 = .ok (.getfield 32, 3) := by decide +kernel
theorem dX8_layLatest_72 : decode cX8_layLatest 72 = .ok (.iload 4, 2) := by decide +kernel
theorem dX8_layLatest_74 : decode cX8_layLatest 74 = .ok (.iload_n 1, 1) := by decide +kernel
theorem dX8_layLatest_75 : decode cX8_layLatest 75 = .ok (.irem, 1) := by decide +kernel
theorem dX8_layLatest_76 : decode cX8_layLatest 76 = .ok (.iaload, 1) := by decide +kernel
theorem dX8_layLatest_77 : decode cX8_layLatest 77 = .ok (.aload_n 0, 1) := by decide +kernel
theorem dX8_layLatest_78 : decode cX8_layLatest 78 = .ok (.iload 5, 2) := by decide +kernel
theorem dX8_layLatest_80 : decode cX8_layLatest 80 = .ok (.iconst 3, 1) := by decide +kernel
theorem dX8_layLatest_81 : decode cX8_layLatest 81 = .ok (.invokevirtual 48, 3) := by decide +kernel
theorem dX8_layLatest_84 : decode cX8_layLatest 84 = .ok (.isub, 1) := by decide +kernel
theorem dX8_layLatest_85 : decode cX8_layLatest 85 = .ok (.istore 6, 2) := by decide +kernel
theorem dX8_layLatest_87 : decode cX8_layLatest 87 = .ok (.aload_n 0, 1) := by decide +kernel
theorem dX8_layLatest_88 : decode cX8_layLatest 88 = .ok (.getfield 28, 3) := by decide +kernel
theorem dX8_layLatest_91 : decode cX8_layLatest 91 = .ok (.bipush 30, 2) := by decide +kernel
theorem dX8_layLatest_93 : decode cX8_layLatest 93 = .ok (.iload 5, 2) := by decide +kernel
theorem dX8_layLatest_95 : decode cX8_layLatest 95 = .ok (.imul, 1) := by decide +kernel
theorem dX8_layLatest_96 : decode cX8_layLatest 96 = .ok (.iload 4, 2) := by decide +kernel
theorem dX8_layLatest_98 : decode cX8_layLatest 98 = .ok (.iload_n 1, 1) := by decide +kernel
theorem dX8_layLatest_99 : decode cX8_layLatest 99 = .ok (.irem, 1) := by decide +kernel
theorem dX8_layLatest_100 : decode cX8_layLatest 100 = .ok (.iadd, 1) := by decide +kernel
theorem dX8_layLatest_101 : decode cX8_layLatest 101 = .ok (.baload, 1) := by decide +kernel
theorem dX8_layLatest_102 : decode cX8_layLatest 102 = .ok (.ifCond .eq 26, 3) := by decide +kernel
theorem dX8_layLatest_105 : decode cX8_layLatest 105 = .ok (.iload 6, 2) := by decide +kernel
theorem dX8_layLatest_107 : decode cX8_layLatest 107 = .ok (.aload_n 0, 1) := by decide +kernel
theorem dX8_layLatest_108 : decode cX8_layLatest 108 = .ok (.getfield 32, 3) := by decide +kernel
theorem dX8_layLatest_111 : decode cX8_layLatest 111 = .ok (.iload 5, 2) := by decide +kernel
theorem dX8_layLatest_113 : decode cX8_layLatest 113 = .ok (.iaload, 1) := by decide +kernel
theorem dX8_layLatest_114 : decode cX8_layLatest 114 = .ok (.if_icmp .ge 14, 3) := by decide +kernel
theorem dX8_layLatest_117 : decode cX8_layLatest 117 = .ok (.aload_n 0, 1) := by decide +kernel
theorem dX8_layLatest_118 : decode cX8_layLatest 118 = .ok (.getfield 32, 3) := by decide +kernel
theorem dX8_layLatest_121 : decode cX8_layLatest 121 = .ok (.iload 5, 2) := by decide +kernel
theorem dX8_layLatest_123 : decode cX8_layLatest 123 = .ok (.iload 6, 2) := by decide +kernel
theorem dX8_layLatest_125 : decode cX8_layLatest 125 = .ok (.iastore, 1) := by decide +kernel
theorem dX8_layLatest_126 : decode cX8_layLatest 126 = .ok (.iconst 1, 1) := by decide +kernel
theorem dX8_layLatest_127 : decode cX8_layLatest 127 = .ok (.istore_n 3, 1) := by decide +kernel
theorem dX8_layLatest_128 : decode cX8_layLatest 128 = .ok (.iinc 4 1, 3) := by decide +kernel
theorem dX8_layLatest_131 : decode cX8_layLatest 131 = .ok (.goto (-77), 3) := by decide +kernel
theorem dX8_layLatest_134 : decode cX8_layLatest 134 = .ok (.goto (-89), 3) := by decide +kernel
theorem dX8_layLatest_137 : decode cX8_layLatest 137 = .ok (.return_, 1) := by decide +kernel
theorem dX8_slack_0 : decode cX8_slack 0 = .ok (.aload_n 0, 1) := by decide +kernel
theorem dX8_slack_1 : decode cX8_slack 1 = .ok (.invokevirtual 127, 3) := by decide +kernel
theorem dX8_slack_4 : decode cX8_slack 4 = .ok (.aload_n 0, 1) := by decide +kernel
theorem dX8_slack_5 : decode cX8_slack 5 = .ok (.getfield 32, 3) := by decide +kernel
theorem dX8_slack_8 : decode cX8_slack 8 = .ok (.iload_n 1, 1) := by decide +kernel
theorem dX8_slack_9 : decode cX8_slack 9 = .ok (.iaload, 1) := by decide +kernel
theorem dX8_slack_10 : decode cX8_slack 10 = .ok (.aload_n 0, 1) := by decide +kernel
theorem dX8_slack_11 : decode cX8_slack 11 = .ok (.iload_n 1, 1) := by decide +kernel
theorem dX8_slack_12 : decode cX8_slack 12 = .ok (.iconst 2, 1) := by decide +kernel
theorem dX8_slack_13 : decode cX8_slack 13 = .ok (.invokevirtual 48, 3) := by decide +kernel
theorem dX8_slack_16 : decode cX8_slack 16 = .ok (.isub, 1) := by decide +kernel
theorem dX8_slack_17 : decode cX8_slack 17 = .ok (.ireturn, 1) := by decide +kernel
theorem dX8_critical_0 : decode cX8_critical 0 = .ok (.aload_n 0, 1) := by decide +kernel
theorem dX8_critical_1 : decode cX8_critical 1 = .ok (.invokevirtual 127, 3) := by decide +kernel
theorem dX8_critical_4 : decode cX8_critical 4 = .ok (.iconst 0, 1) := by decide +kernel
theorem dX8_critical_5 : decode cX8_critical 5 = .ok (.istore_n 1, 1) := by decide +kernel
theorem dX8_critical_6 : decode cX8_critical 6 = .ok (.iconst 0, 1) := by decide +kernel
theorem dX8_critical_7 : decode cX8_critical 7 = .ok (.istore_n 2, 1) := by decide +kernel
theorem dX8_critical_8 : decode cX8_critical 8 = .ok (.iload_n 2, 1) := by decide +kernel
theorem dX8_critical_9 : decode cX8_critical 9 = .ok (.aload_n 0, 1) := by decide +kernel
theorem dX8_critical_10 : decode cX8_critical 10 = .ok (.getfield 7, 3) := by decide +kernel
theorem dX8_critical_13 : decode cX8_critical 13 = .ok (.iconst 0, 1) := by decide +kernel
theorem dX8_critical_14 : decode cX8_critical 14 = .ok (.iaload, 1) := by decide +kernel
theorem dX8_critical_15 : decode cX8_critical 15 = .ok (.if_icmp .ge 32, 3) := by decide +kernel
theorem dX8_critical_18 : decode cX8_critical 18 = .ok (.iload_n 1, 1) := by decide +kernel
theorem dX8_critical_19 : decode cX8_critical 19 = .ok (.aload_n 0, 1) := by decide +kernel
theorem dX8_critical_20 : decode cX8_critical 20 = .ok (.getfield 32, 3) := by decide +kernel
theorem dX8_critical_23 : decode cX8_critical 23 = .ok (.iload_n 2, 1) := by decide +kernel
theorem dX8_critical_24 : decode cX8_critical 24 = .ok (.iaload, 1) := by decide +kernel
theorem dX8_critical_25 : decode cX8_critical 25 = .ok (.aload_n 0, 1) := by decide +kernel
theorem dX8_critical_26 : decode cX8_critical 26 = .ok (.iload_n 2, 1) := by decide +kernel
theorem dX8_critical_27 : decode cX8_critical 27 = .ok (.iconst 2, 1) := by decide +kernel
theorem dX8_critical_28 : decode cX8_critical 28 = .ok (.invokevirtual 48, 3) := by decide +kernel
theorem dX8_critical_31 : decode cX8_critical 31 = .ok (.if_icmp .ne 7, 3) := by decide +kernel
theorem dX8_critical_34 : decode cX8_critical 34 = .ok (.iconst 1, 1) := by decide +kernel
theorem dX8_critical_35 : decode cX8_critical 35 = .ok (.goto 4, 3) := by decide +kernel
theorem dX8_critical_38 : decode cX8_critical 38 = .ok (.iconst 0, 1) := by decide +kernel
theorem dX8_critical_39 : decode cX8_critical 39 = .ok (.iadd, 1) := by decide +kernel
theorem dX8_critical_40 : decode cX8_critical 40 = .ok (.istore_n 1, 1) := by decide +kernel
theorem dX8_critical_41 : decode cX8_critical 41 = .ok (.iinc 2 1, 3) := by decide +kernel
theorem dX8_critical_44 : decode cX8_critical 44 = .ok (.goto (-36), 3) := by decide +kernel
theorem dX8_critical_47 : decode cX8_critical 47 = .ok (.iload_n 1, 1) := by decide +kernel
theorem dX8_critical_48 : decode cX8_critical 48 = .ok (.ireturn, 1) := by decide +kernel
theorem dX8_isLane_0 : decode cX8_isLane 0 = .ok (.iload_n 0, 1) := by decide +kernel
theorem dX8_isLane_1 : decode cX8_isLane 1 = .ok (.iconst 0, 1) := by decide +kernel
theorem dX8_isLane_2 : decode cX8_isLane 2 = .ok (.bipush 11, 2) := by decide +kernel
theorem dX8_isLane_4 : decode cX8_isLane 4 = .ok (.invokestatic 79, 3) := by decide +kernel
theorem dX8_isLane_7 : decode cX8_isLane 7 = .ok (.ireturn, 1) := by decide +kernel
theorem dX8_addsBar_0 : decode cX8_addsBar 0 = .ok (.iload_n 1, 1) := by decide +kernel
theorem dX8_addsBar_1 : decode cX8_addsBar 1 = .ok (.invokestatic 130, 3) := by decide +kernel
theorem dX8_addsBar_4 : decode cX8_addsBar 4 = .ok (.ifCond .ne 5, 3) := by decide +kernel
theorem dX8_addsBar_7 : decode cX8_addsBar 7 = .ok (.iconst (-1), 1) := by decide +kernel
theorem dX8_addsBar_8 : decode cX8_addsBar 8 = .ok (.ireturn, 1) := by decide +kernel
theorem dX8_addsBar_9 : decode cX8_addsBar 9 = .ok (.iload_n 2, 1) := by decide +kernel
theorem dX8_addsBar_10 : decode cX8_addsBar 10 = .ok (.iconst 0, 1) := by decide +kernel
theorem dX8_addsBar_11 : decode cX8_addsBar 11 = .ok (.sipush 199, 3) := by decide +kernel
theorem dX8_addsBar_14 : decode cX8_addsBar 14 = .ok (.invokestatic 79, 3) := by decide +kernel
theorem dX8_addsBar_17 : decode cX8_addsBar 17 = .ok (.ifCond .eq 22, 3) := by decide +kernel
theorem dX8_addsBar_20 : decode cX8_addsBar 20 = .ok (.iload_n 3, 1) := by decide +kernel
theorem dX8_addsBar_21 : decode cX8_addsBar 21 = .ok (.iconst 1, 1) := by decide +kernel
theorem dX8_addsBar_22 : decode cX8_addsBar 22 = .ok (.bipush 30, 2) := by decide +kernel
theorem dX8_addsBar_24 : decode cX8_addsBar 24 = .ok (.invokestatic 79, 3) := by decide +kernel
theorem dX8_addsBar_27 : decode cX8_addsBar 27 = .ok (.ifCond .eq 12, 3) := by decide +kernel
theorem dX8_addsBar_30 : decode cX8_addsBar 30 = .ok (.iload_n 2, 1) := by decide +kernel
theorem dX8_addsBar_31 : decode cX8_addsBar 31 = .ok (.iload_n 3, 1) := by decide +kernel
theorem dX8_addsBar_32 : decode cX8_addsBar 32 = .ok (.iadd, 1) := by decide +kernel
theorem dX8_addsBar_33 : decode cX8_addsBar 33 = .ok (.sipush 200, 3) := by decide +kernel
theorem dX8_addsBar_36 : decode cX8_addsBar 36 = .ok (.if_icmp .le 6, 3) := by decide +kernel
theorem dX8_addsBar_39 : decode cX8_addsBar 39 = .ok (.bipush (-2), 2) := by decide +kernel
theorem dX8_addsBar_41 : decode cX8_addsBar 41 = .ok (.ireturn, 1) := by decide +kernel
theorem dX8_addsBar_42 : decode cX8_addsBar 42 = .ok (.aload_n 0, 1) := by decide +kernel
theorem dX8_addsBar_43 : decode cX8_addsBar 43 = .ok (.iload_n 1, 1) := by decide +kernel
theorem dX8_addsBar_44 : decode cX8_addsBar 44 = .ok (.iload_n 2, 1) := by decide +kernel
theorem dX8_addsBar_45 : decode cX8_addsBar 45 = .ok (.iload_n 2, 1) := by decide +kernel
theorem dX8_addsBar_46 : decode cX8_addsBar 46 = .ok (.iload_n 3, 1) := by decide +kernel
theorem dX8_addsBar_47 : decode cX8_addsBar 47 = .ok (.iadd, 1) := by decide +kernel
theorem dX8_addsBar_48 : decode cX8_addsBar 48 = .ok (.iconst 1, 1) := by decide +kernel
theorem dX8_addsBar_49 : decode cX8_addsBar 49 = .ok (.isub, 1) := by decide +kernel
theorem dX8_addsBar_50 : decode cX8_addsBar 50 = .ok (.bipush (-5), 2) := by decide +kernel
theorem dX8_addsBar_52 : decode cX8_addsBar 52 = .ok (.invokevirtual 62, 3) := by decide +kernel
theorem dX8_addsBar_55 : decode cX8_addsBar 55 = .ok (.bipush (-5), 2) := by decide +kernel
theorem dX8_addsBar_57 : decode cX8_addsBar 57 = .ok (.if_icmp .eq 6, 3) := by decide +kernel
theorem dX8_addsBar_60 : decode cX8_addsBar 60 = .ok (.bipush (-4), 2) := by decide +kernel
theorem dX8_addsBar_62 : decode cX8_addsBar 62 = .ok (.ireturn, 1) := by decide +kernel
theorem dX8_addsBar_63 : decode cX8_addsBar 63 = .ok (.aload_n 0, 1) := by decide +kernel
theorem dX8_addsBar_64 : decode cX8_addsBar 64 = .ok (.getfield 7, 3) := by decide +kernel
theorem dX8_addsBar_67 : decode cX8_addsBar 67 = .ok (.iconst 0, 1) := by decide +kernel
theorem dX8_addsBar_68 : decode cX8_addsBar 68 = .ok (.iaload, 1) := by decide +kernel
theorem dX8_addsBar_69 : decode cX8_addsBar 69 = .ok (.bipush 30, 2) := by decide +kernel
theorem dX8_addsBar_71 : decode cX8_addsBar 71 = .ok (.if_icmp .eq 16, 3) := by decide +kernel
theorem dX8_addsBar_74 : decode cX8_addsBar 74 = .ok (.aload_n 0, 1) := by decide +kernel
theorem dX8_addsBar_75 : decode cX8_addsBar 75 = .ok (.getfield 7, 3) := by decide +kernel
theorem dX8_addsBar_78 : decode cX8_addsBar 78 = .ok (.sipush 444, 3) := by decide +kernel
theorem dX8_addsBar_81 : decode cX8_addsBar 81 = .ok (.iaload, 1) := by decide +kernel
theorem dX8_addsBar_82 : decode cX8_addsBar 82 = .ok (.bipush 90, 2) := by decide +kernel
theorem dX8_addsBar_84 : decode cX8_addsBar 84 = .ok (.if_icmp .ne 6, 3) := by decide +kernel
theorem dX8_addsBar_87 : decode cX8_addsBar 87 = .ok (.bipush (-3), 2) := by decide +kernel
theorem dX8_addsBar_89 : decode cX8_addsBar 89 = .ok (.ireturn, 1) := by decide +kernel
theorem dX8_addsBar_90 : decode cX8_addsBar 90 = .ok (.iconst 1, 1) := by decide +kernel
theorem dX8_addsBar_91 : decode cX8_addsBar 91 = .ok (.iconst 4, 1) := by decide +kernel
theorem dX8_addsBar_92 : decode cX8_addsBar 92 = .ok (.aload_n 0, 1) := by decide +kernel
theorem dX8_addsBar_93 : decode cX8_addsBar 93 = .ok (.getfield 7, 3) := by decide +kernel
theorem dX8_addsBar_96 : decode cX8_addsBar 96 = .ok (.iconst 0, 1) := by decide +kernel
theorem dX8_addsBar_97 : decode cX8_addsBar 97 = .ok (.iaload, 1) := by decide +kernel
theorem dX8_addsBar_98 : decode cX8_addsBar 98 = .ok (.imul, 1) := by decide +kernel
theorem dX8_addsBar_99 : decode cX8_addsBar 99 = .ok (.iadd, 1) := by decide +kernel
theorem dX8_addsBar_100 : decode cX8_addsBar 100 = .ok (.istore 4, 2) := by decide +kernel
theorem dX8_addsBar_102 : decode cX8_addsBar 102 = .ok (.aload_n 0, 1) := by decide +kernel
theorem dX8_addsBar_103 : decode cX8_addsBar 103 = .ok (.getfield 7, 3) := by decide +kernel
theorem dX8_addsBar_106 : decode cX8_addsBar 106 = .ok (.iload 4, 2) := by decide +kernel
theorem dX8_addsBar_108 : decode cX8_addsBar 108 = .ok (.aload_n 0, 1) := by decide +kernel
theorem dX8_addsBar_109 : decode cX8_addsBar 109 = .ok (.getfield 7, 3) := by decide +kernel
theorem dX8_addsBar_112 : decode cX8_addsBar 112 = .ok (.sipush 444, 3) := by decide +kernel
theorem dX8_addsBar_115 : decode cX8_addsBar 115 = .ok (.iaload, 1) := by decide +kernel
theorem dX8_addsBar_116 : decode cX8_addsBar 116 = .ok (.iastore, 1) := by decide +kernel
theorem dX8_addsBar_117 : decode cX8_addsBar 117 = .ok (.aload_n 0, 1) := by decide +kernel
theorem dX8_addsBar_118 : decode cX8_addsBar 118 = .ok (.getfield 7, 3) := by decide +kernel
theorem dX8_addsBar_121 : decode cX8_addsBar 121 = .ok (.iload 4, 2) := by decide +kernel
theorem dX8_addsBar_123 : decode cX8_addsBar 123 = .ok (.iconst 1, 1) := by decide +kernel
theorem dX8_addsBar_124 : decode cX8_addsBar 124 = .ok (.iadd, 1) := by decide +kernel
theorem dX8_addsBar_125 : decode cX8_addsBar 125 = .ok (.iload_n 1, 1) := by decide +kernel
theorem dX8_addsBar_126 : decode cX8_addsBar 126 = .ok (.iastore, 1) := by decide +kernel
theorem dX8_addsBar_127 : decode cX8_addsBar 127 = .ok (.aload_n 0, 1) := by decide +kernel
theorem dX8_addsBar_128 : decode cX8_addsBar 128 = .ok (.getfield 7, 3) := by decide +kernel
theorem dX8_addsBar_131 : decode cX8_addsBar 131 = .ok (.iload 4, 2) := by decide +kernel
theorem dX8_addsBar_133 : decode cX8_addsBar 133 = .ok (.iconst 2, 1) := by decide +kernel
theorem dX8_addsBar_134 : decode cX8_addsBar 134 = .ok (.iadd, 1) := by decide +kernel
theorem dX8_addsBar_135 : decode cX8_addsBar 135 = .ok (.iload_n 2, 1) := by decide +kernel
theorem dX8_addsBar_136 : decode cX8_addsBar 136 = .ok (.iastore, 1) := by decide +kernel
theorem dX8_addsBar_137 : decode cX8_addsBar 137 = .ok (.aload_n 0, 1) := by decide +kernel
theorem dX8_addsBar_138 : decode cX8_addsBar 138 = .ok (.getfield 7, 3) := by decide +kernel
theorem dX8_addsBar_141 : decode cX8_addsBar 141 = .ok (.iload 4, 2) := by decide +kernel
theorem dX8_addsBar_143 : decode cX8_addsBar 143 = .ok (.iconst 3, 1) := by decide +kernel
theorem dX8_addsBar_144 : decode cX8_addsBar 144 = .ok (.iadd, 1) := by decide +kernel
theorem dX8_addsBar_145 : decode cX8_addsBar 145 = .ok (.iload_n 3, 1) := by decide +kernel
theorem dX8_addsBar_146 : decode cX8_addsBar 146 = .ok (.iastore, 1) := by decide +kernel
theorem dX8_addsBar_147 : decode cX8_addsBar 147 = .ok (.aload_n 0, 1) := by decide +kernel
theorem dX8_addsBar_148 : decode cX8_addsBar 148 = .ok (.getfield 7, 3) := by decide +kernel
theorem dX8_addsBar_151 : decode cX8_addsBar 151 = .ok (.iconst 0, 1) := by decide +kernel
theorem dX8_addsBar_152 : decode cX8_addsBar 152 = .ok (.dup2, 1) := by decide +kernel
theorem dX8_addsBar_153 : decode cX8_addsBar 153 = .ok (.iaload, 1) := by decide +kernel
theorem dX8_addsBar_154 : decode cX8_addsBar 154 = .ok (.iconst 1, 1) := by decide +kernel
theorem dX8_addsBar_155 : decode cX8_addsBar 155 = .ok (.iadd, 1) := by decide +kernel
theorem dX8_addsBar_156 : decode cX8_addsBar 156 = .ok (.iastore, 1) := by decide +kernel
theorem dX8_addsBar_157 : decode cX8_addsBar 157 = .ok (.aload_n 0, 1) := by decide +kernel
theorem dX8_addsBar_158 : decode cX8_addsBar 158 = .ok (.getfield 7, 3) := by decide +kernel
theorem dX8_addsBar_161 : decode cX8_addsBar 161 = .ok (.sipush 444, 3) := by decide +kernel
theorem dX8_addsBar_164 : decode cX8_addsBar 164 = .ok (.dup2, 1) := by decide +kernel
theorem dX8_addsBar_165 : decode cX8_addsBar 165 = .ok (.iaload, 1) := by decide +kernel
theorem dX8_addsBar_166 : decode cX8_addsBar 166 = .ok (.iconst 1, 1) := by decide +kernel
theorem dX8_addsBar_167 : decode cX8_addsBar 167 = .ok (.iadd, 1) := by decide +kernel
theorem dX8_addsBar_168 : decode cX8_addsBar 168 = .ok (.iastore, 1) := by decide +kernel
theorem dX8_addsBar_169 : decode cX8_addsBar 169 = .ok (.aload_n 0, 1) := by decide +kernel
theorem dX8_addsBar_170 : decode cX8_addsBar 170 = .ok (.getfield 7, 3) := by decide +kernel
theorem dX8_addsBar_173 : decode cX8_addsBar 173 = .ok (.sipush 444, 3) := by decide +kernel
theorem dX8_addsBar_176 : decode cX8_addsBar 176 = .ok (.iaload, 1) := by decide +kernel
theorem dX8_addsBar_177 : decode cX8_addsBar 177 = .ok (.iconst 1, 1) := by decide +kernel
theorem dX8_addsBar_178 : decode cX8_addsBar 178 = .ok (.isub, 1) := by decide +kernel
theorem dX8_addsBar_179 : decode cX8_addsBar 179 = .ok (.ireturn, 1) := by decide +kernel
theorem dX8_leads_0 : decode cX8_leads 0 = .ok (.iconst 0, 1) := by decide +kernel
theorem dX8_leads_1 : decode cX8_leads 1 = .ok (.istore_n 3, 1) := by decide +kernel
theorem dX8_leads_2 : decode cX8_leads 2 = .ok (.iload_n 3, 1) := by decide +kernel
theorem dX8_leads_3 : decode cX8_leads 3 = .ok (.aload_n 0, 1) := by decide +kernel
theorem dX8_leads_4 : decode cX8_leads 4 = .ok (.getfield 7, 3) := by decide +kernel
theorem dX8_leads_7 : decode cX8_leads 7 = .ok (.iconst 0, 1) := by decide +kernel
theorem dX8_leads_8 : decode cX8_leads 8 = .ok (.iaload, 1) := by decide +kernel
theorem dX8_leads_9 : decode cX8_leads 9 = .ok (.if_icmp .ge 25, 3) := by decide +kernel
theorem dX8_leads_12 : decode cX8_leads 12 = .ok (.aload_n 0, 1) := by decide +kernel
theorem dX8_leads_13 : decode cX8_leads 13 = .ok (.getfield 35, 3) := by decide +kernel
theorem dX8_leads_16 : decode cX8_leads 16 = .ok (.iload_n 3, 1) := by decide +kernel
theorem dX8_leads_17 : decode cX8_leads 17 = .ok (.iload_n 3, 1) := by decide +kernel
theorem dX8_leads_18 : decode cX8_leads 18 = .ok (.iload_n 1, 1) := by decide +kernel
theorem dX8_leads_19 : decode cX8_leads 19 = .ok (.if_icmp .ne 7, 3) := by decide +kernel
theorem dX8_leads_22 : decode cX8_leads 22 = .ok (.iconst 1, 1) := by decide +kernel
theorem dX8_leads_23 : decode cX8_leads 23 = .ok (.goto 4, 3) := by decide +kernel
theorem dX8_leads_26 : decode cX8_leads 26 = .ok (.iconst 0, 1) := by decide +kernel
theorem dX8_leads_27 : decode cX8_leads 27 = .ok (.bastore, 1) := by decide +kernel
theorem dX8_leads_28 : decode cX8_leads 28 = .ok (.iinc 3 1, 3) := by decide +kernel
theorem dX8_leads_31 : decode cX8_leads 31 = .ok (.goto (-29), 3) := by decide +kernel
theorem dX8_leads_34 : decode cX8_leads 34 = .ok (.iconst 0, 1) := by decide +kernel
theorem dX8_leads_35 : decode cX8_leads 35 = .ok (.istore_n 3, 1) := by decide +kernel
theorem dX8_leads_36 : decode cX8_leads 36 = .ok (.iload_n 3, 1) := by decide +kernel
theorem dX8_leads_37 : decode cX8_leads 37 = .ok (.aload_n 0, 1) := by decide +kernel
theorem dX8_leads_38 : decode cX8_leads 38 = .ok (.getfield 7, 3) := by decide +kernel
theorem dX8_leads_41 : decode cX8_leads 41 = .ok (.iconst 0, 1) := by decide +kernel
theorem dX8_leads_42 : decode cX8_leads 42 = .ok (.iaload, 1) := by decide +kernel
theorem dX8_leads_43 : decode cX8_leads 43 = .ok (.if_icmp .ge 74, 3) := by decide +kernel
theorem dX8_leads_46 : decode cX8_leads 46 = .ok (.iconst 0, 1) := by decide +kernel
theorem dX8_leads_47 : decode cX8_leads 47 = .ok (.istore 4, 2) := by decide +kernel
theorem dX8_leads_49 : decode cX8_leads 49 = .ok (.iload 4, 2) := by decide +kernel
theorem dX8_leads_51 : decode cX8_leads 51 = .ok (.aload_n 0, 1) := by decide +kernel
theorem dX8_leads_52 : decode cX8_leads 52 = .ok (.getfield 7, 3) := by decide +kernel
theorem dX8_leads_55 : decode cX8_leads 55 = .ok (.bipush 121, 2) := by decide +kernel
theorem dX8_leads_57 : decode cX8_leads 57 = .ok (.iaload, 1) := by decide +kernel
theorem dX8_leads_58 : decode cX8_leads 58 = .ok (.if_icmp .ge 53, 3) := by decide +kernel
theorem dX8_leads_61 : decode cX8_leads 61 = .ok (.aload_n 0, 1) := by decide +kernel
theorem dX8_leads_62 : decode cX8_leads 62 = .ok (.getfield 35, 3) := by decide +kernel
theorem dX8_leads_65 : decode cX8_leads 65 = .ok (.aload_n 0, 1) := by decide +kernel
theorem dX8_leads_66 : decode cX8_leads 66 = .ok (.iload 4, 2) := by decide +kernel
theorem dX8_leads_68 : decode cX8_leads 68 = .ok (.invokevirtual 73, 3) := by decide +kernel
theorem dX8_leads_71 : decode cX8_leads 71 = .ok (.aload_n 0, 1) := by decide +kernel
theorem dX8_leads_72 : decode cX8_leads 72 = .ok (.getfield 35, 3) := by decide +kernel
theorem dX8_leads_75 : decode cX8_leads 75 = .ok (.aload_n 0, 1) := by decide +kernel
theorem dX8_leads_76 : decode cX8_leads 76 = .ok (.iload 4, 2) := by decide +kernel
theorem dX8_leads_78 : decode cX8_leads 78 = .ok (.invokevirtual 73, 3) := by decide +kernel
theorem dX8_leads_81 : decode cX8_leads 81 = .ok (.baload, 1) := by decide +kernel
theorem dX8_leads_82 : decode cX8_leads 82 = .ok (.ifCond .ne 17, 3) := by decide +kernel
theorem dX8_leads_85 : decode cX8_leads 85 = .ok (.aload_n 0, 1) := by decide +kernel
theorem dX8_leads_86 : decode cX8_leads 86 = .ok (.getfield 35, 3) := by decide +kernel
theorem dX8_leads_89 : decode cX8_leads 89 = .ok (.aload_n 0, 1) := by decide +kernel
theorem dX8_leads_90 : decode cX8_leads 90 = .ok (.iload 4, 2) := by decide +kernel
theorem dX8_leads_92 : decode cX8_leads 92 = .ok (.invokevirtual 70, 3) := by decide +kernel
theorem dX8_leads_95 : decode cX8_leads 95 = .ok (.baload, 1) := by decide +kernel
theorem dX8_leads_96 : decode cX8_leads 96 = .ok (.ifCond .eq 7, 3) := by decide +kernel
theorem dX8_leads_99 : decode cX8_leads 99 = .ok (.iconst 1, 1) := by decide +kernel
theorem dX8_leads_100 : decode cX8_leads 100 = .ok (.goto 4, 3) := by decide +kernel
theorem dX8_leads_103 : decode cX8_leads 103 = .ok (.iconst 0, 1) := by decide +kernel
theorem dX8_leads_104 : decode cX8_leads 104 = .ok (.bastore, 1) := by decide +kernel
theorem dX8_leads_105 : decode cX8_leads 105 = .ok (.iinc 4 1, 3) := by decide +kernel
theorem dX8_leads_108 : decode cX8_leads 108 = .ok (.goto (-59), 3) := by decide +kernel
theorem dX8_leads_111 : decode cX8_leads 111 = .ok (.iinc 3 1, 3) := by decide +kernel
theorem dX8_leads_114 : decode cX8_leads 114 = .ok (.goto (-78), 3) := by decide +kernel
theorem dX8_leads_117 : decode cX8_leads 117 = .ok (.aload_n 0, 1) := by decide +kernel
theorem dX8_leads_118 : decode cX8_leads 118 = .ok (.getfield 35, 3) := by decide +kernel
theorem dX8_leads_121 : decode cX8_leads 121 = .ok (.iload_n 2, 1) := by decide +kernel
theorem dX8_leads_122 : decode cX8_leads 122 = .ok (.baload, 1) := by decide +kernel
theorem dX8_leads_123 : decode cX8_leads 123 = .ok (.ireturn, 1) := by decide +kernel
theorem dX8_hasArrow_0 : decode cX8_hasArrow 0 = .ok (.iconst 0, 1) := by decide +kernel
theorem dX8_hasArrow_1 : decode cX8_hasArrow 1 = .ok (.istore_n 3, 1) := by decide +kernel
theorem dX8_hasArrow_2 : decode cX8_hasArrow 2 = .ok (.iload_n 3, 1) := by decide +kernel
theorem dX8_hasArrow_3 : decode cX8_hasArrow 3 = .ok (.aload_n 0, 1) := by decide +kernel
theorem dX8_hasArrow_4 : decode cX8_hasArrow 4 = .ok (.getfield 7, 3) := by decide +kernel
theorem dX8_hasArrow_7 : decode cX8_hasArrow 7 = .ok (.bipush 121, 2) := by decide +kernel
theorem dX8_hasArrow_9 : decode cX8_hasArrow 9 = .ok (.iaload, 1) := by decide +kernel
theorem dX8_hasArrow_10 : decode cX8_hasArrow 10 = .ok (.if_icmp .ge 29, 3) := by decide +kernel
theorem dX8_hasArrow_13 : decode cX8_hasArrow 13 = .ok (.aload_n 0, 1) := by decide +kernel
theorem dX8_hasArrow_14 : decode cX8_hasArrow 14 = .ok (.iload_n 3, 1) := by decide +kernel
theorem dX8_hasArrow_15 : decode cX8_hasArrow 15 = .ok (.invokevirtual 70, 3) := by decide +kernel
theorem dX8_hasArrow_18 : decode cX8_hasArrow 18 = .ok (.iload_n 1, 1) := by decide +kernel
theorem dX8_hasArrow_19 : decode cX8_hasArrow 19 = .ok (.if_icmp .ne 14, 3) := by decide +kernel
theorem dX8_hasArrow_22 : decode cX8_hasArrow 22 = .ok (.aload_n 0, 1) := by decide +kernel
theorem dX8_hasArrow_23 : decode cX8_hasArrow 23 = .ok (.iload_n 3, 1) := by decide +kernel
theorem dX8_hasArrow_24 : decode cX8_hasArrow 24 = .ok (.invokevirtual 73, 3) := by decide +kernel
theorem dX8_hasArrow_27 : decode cX8_hasArrow 27 = .ok (.iload_n 2, 1) := by decide +kernel
theorem dX8_hasArrow_28 : decode cX8_hasArrow 28 = .ok (.if_icmp .ne 5, 3) := by decide +kernel
theorem dX8_hasArrow_31 : decode cX8_hasArrow 31 = .ok (.iconst 1, 1) := by decide +kernel
theorem dX8_hasArrow_32 : decode cX8_hasArrow 32 = .ok (.ireturn, 1) := by decide +kernel
theorem dX8_hasArrow_33 : decode cX8_hasArrow 33 = .ok (.iinc 3 1, 3) := by decide +kernel
theorem dX8_hasArrow_36 : decode cX8_hasArrow 36 = .ok (.goto (-34), 3) := by decide +kernel
theorem dX8_hasArrow_39 : decode cX8_hasArrow 39 = .ok (.iconst 0, 1) := by decide +kernel
theorem dX8_hasArrow_40 : decode cX8_hasArrow 40 = .ok (.ireturn, 1) := by decide +kernel
theorem dX8_addsArrow_0 : decode cX8_addsArrow 0 = .ok (.aload_n 0, 1) := by decide +kernel
theorem dX8_addsArrow_1 : decode cX8_addsArrow 1 = .ok (.iload_n 1, 1) := by decide +kernel
theorem dX8_addsArrow_2 : decode cX8_addsArrow 2 = .ok (.invokevirtual 52, 3) := by decide +kernel
theorem dX8_addsArrow_5 : decode cX8_addsArrow 5 = .ok (.istore_n 3, 1) := by decide +kernel
theorem dX8_addsArrow_6 : decode cX8_addsArrow 6 = .ok (.aload_n 0, 1) := by decide +kernel
theorem dX8_addsArrow_7 : decode cX8_addsArrow 7 = .ok (.iload_n 2, 1) := by decide +kernel
theorem dX8_addsArrow_8 : decode cX8_addsArrow 8 = .ok (.invokevirtual 52, 3) := by decide +kernel
theorem dX8_addsArrow_11 : decode cX8_addsArrow 11 = .ok (.istore 4, 2) := by decide +kernel
theorem dX8_addsArrow_13 : decode cX8_addsArrow 13 = .ok (.iload_n 3, 1) := by decide +kernel
theorem dX8_addsArrow_14 : decode cX8_addsArrow 14 = .ok (.bipush (-5), 2) := by decide +kernel
theorem dX8_addsArrow_16 : decode cX8_addsArrow 16 = .ok (.if_icmp .eq 10, 3) := by decide +kernel
theorem dX8_addsArrow_19 : decode cX8_addsArrow 19 = .ok (.iload 4, 2) := by decide +kernel
theorem dX8_addsArrow_21 : decode cX8_addsArrow 21 = .ok (.bipush (-5), 2) := by decide +kernel
theorem dX8_addsArrow_23 : decode cX8_addsArrow 23 = .ok (.if_icmp .ne 5, 3) := by decide +kernel
theorem dX8_addsArrow_26 : decode cX8_addsArrow 26 = .ok (.iconst (-1), 1) := by decide +kernel
theorem dX8_addsArrow_27 : decode cX8_addsArrow 27 = .ok (.ireturn, 1) := by decide +kernel
theorem dX8_addsArrow_28 : decode cX8_addsArrow 28 = .ok (.iload_n 3, 1) := by decide +kernel
theorem dX8_addsArrow_29 : decode cX8_addsArrow 29 = .ok (.iload 4, 2) := by decide +kernel
theorem dX8_addsArrow_31 : decode cX8_addsArrow 31 = .ok (.if_icmp .eq 23, 3) := by decide +kernel
theorem dX8_addsArrow_34 : decode cX8_addsArrow 34 = .ok (.aload_n 0, 1) := by decide +kernel
theorem dX8_addsArrow_35 : decode cX8_addsArrow 35 = .ok (.iload_n 3, 1) := by decide +kernel
theorem dX8_addsArrow_36 : decode cX8_addsArrow 36 = .ok (.iload 4, 2) := by decide +kernel
theorem dX8_addsArrow_38 : decode cX8_addsArrow 38 = .ok (.invokevirtual 133, 3) := by decide +kernel
theorem dX8_addsArrow_41 : decode cX8_addsArrow 41 = .ok (.ifCond .ne 13, 3) := by decide +kernel
theorem dX8_addsArrow_44 : decode cX8_addsArrow 44 = .ok (.aload_n 0, 1) := by decide +kernel
theorem dX8_addsArrow_45 : decode cX8_addsArrow 45 = .ok (.iload 4, 2) := by decide +kernel
theorem dX8_addsArrow_47 : decode cX8_addsArrow 47 = .ok (.iload_n 3, 1) := by decide +kernel
theorem dX8_addsArrow_48 : decode cX8_addsArrow 48 = .ok (.invokevirtual 137, 3) := by decide +kernel
theorem dX8_addsArrow_51 : decode cX8_addsArrow 51 = .ok (.ifCond .eq 6, 3) := by decide +kernel
theorem dX8_addsArrow_54 : decode cX8_addsArrow 54 = .ok (.bipush (-4), 2) := by decide +kernel
theorem dX8_addsArrow_56 : decode cX8_addsArrow 56 = .ok (.ireturn, 1) := by decide +kernel
theorem dX8_addsArrow_57 : decode cX8_addsArrow 57 = .ok (.aload_n 0, 1) := by decide +kernel
theorem dX8_addsArrow_58 : decode cX8_addsArrow 58 = .ok (.getfield 7, 3) := by decide +kernel
theorem dX8_addsArrow_61 : decode cX8_addsArrow 61 = .ok (.bipush 121, 2) := by decide +kernel
theorem dX8_addsArrow_63 : decode cX8_addsArrow 63 = .ok (.iaload, 1) := by decide +kernel
theorem dX8_addsArrow_64 : decode cX8_addsArrow 64 = .ok (.bipush 40, 2) := by decide +kernel
theorem dX8_addsArrow_66 : decode cX8_addsArrow 66 = .ok (.if_icmp .eq 17, 3) := by decide +kernel
theorem dX8_addsArrow_69 : decode cX8_addsArrow 69 = .ok (.aload_n 0, 1) := by decide +kernel
theorem dX8_addsArrow_70 : decode cX8_addsArrow 70 = .ok (.getfield 7, 3) := by decide +kernel
theorem dX8_addsArrow_73 : decode cX8_addsArrow 73 = .ok (.sipush 445, 3) := by decide +kernel
theorem dX8_addsArrow_76 : decode cX8_addsArrow 76 = .ok (.iaload, 1) := by decide +kernel
theorem dX8_addsArrow_77 : decode cX8_addsArrow 77 = .ok (.sipush 200, 3) := by decide +kernel
theorem dX8_addsArrow_80 : decode cX8_addsArrow 80 = .ok (.if_icmp .ne 6, 3) := by decide +kernel
theorem dX8_addsArrow_83 : decode cX8_addsArrow 83 = .ok (.bipush (-3), 2) := by decide +kernel
theorem dX8_addsArrow_85 : decode cX8_addsArrow 85 = .ok (.ireturn, 1) := by decide +kernel
theorem dX8_addsArrow_86 : decode cX8_addsArrow 86 = .ok (.bipush 122, 2) := by decide +kernel
theorem dX8_addsArrow_88 : decode cX8_addsArrow 88 = .ok (.iconst 3, 1) := by decide +kernel
theorem dX8_addsArrow_89 : decode cX8_addsArrow 89 = .ok (.aload_n 0, 1) := by decide +kernel
theorem dX8_addsArrow_90 : decode cX8_addsArrow 90 = .ok (.getfield 7, 3) := by decide +kernel
theorem dX8_addsArrow_93 : decode cX8_addsArrow 93 = .ok (.bipush 121, 2) := by decide +kernel
theorem dX8_addsArrow_95 : decode cX8_addsArrow 95 = .ok (.iaload, 1) := by decide +kernel
theorem dX8_addsArrow_96 : decode cX8_addsArrow 96 = .ok (.imul, 1) := by decide +kernel
theorem dX8_addsArrow_97 : decode cX8_addsArrow 97 = .ok (.iadd, 1) := by decide +kernel
theorem dX8_addsArrow_98 : decode cX8_addsArrow 98 = .ok (.istore 5, 2) := by decide +kernel
theorem dX8_addsArrow_100 : decode cX8_addsArrow 100 = .ok (.aload_n 0, 1) := by decide +kernel
theorem dX8_addsArrow_101 : decode cX8_addsArrow 101 = .ok (.getfield 7, 3) := by decide +kernel
theorem dX8_addsArrow_104 : decode cX8_addsArrow 104 = .ok (.iload 5, 2) := by decide +kernel
theorem dX8_addsArrow_106 : decode cX8_addsArrow 106 = .ok (.aload_n 0, 1) := by decide +kernel
theorem dX8_addsArrow_107 : decode cX8_addsArrow 107 = .ok (.getfield 7, 3) := by decide +kernel
theorem dX8_addsArrow_110 : decode cX8_addsArrow 110 = .ok (.sipush 445, 3) := by decide +kernel
theorem dX8_addsArrow_113 : decode cX8_addsArrow 113 = .ok (.iaload, 1) := by decide +kernel
theorem dX8_addsArrow_114 : decode cX8_addsArrow 114 = .ok (.iastore, 1) := by decide +kernel
theorem dX8_addsArrow_115 : decode cX8_addsArrow 115 = .ok (.aload_n 0, 1) := by decide +kernel
theorem dX8_addsArrow_116 : decode cX8_addsArrow 116 = .ok (.getfield 7, 3) := by decide +kernel
theorem dX8_addsArrow_119 : decode cX8_addsArrow 119 = .ok (.iload 5, 2) := by decide +kernel
theorem dX8_addsArrow_121 : decode cX8_addsArrow 121 = .ok (.iconst 1, 1) := by decide +kernel
end
section
theorem dX8_addsArrow_122 : decode cX8_addsArrow 122 = .ok (.iadd, 1) := by decide +kernel
theorem dX8_addsArrow_123 : decode cX8_addsArrow 123 = .ok (.iload_n 1, 1) := by decide +kernel
theorem dX8_addsArrow_124 : decode cX8_addsArrow 124 = .ok (.iastore, 1) := by decide +kernel
theorem dX8_addsArrow_125 : decode cX8_addsArrow 125 = .ok (.aload_n 0, 1) := by decide +kernel
theorem dX8_addsArrow_126 : decode cX8_addsArrow 126 = .ok (.getfield 7, 3) := by decide +kernel
theorem dX8_addsArrow_129 : decode cX8_addsArrow 129 = .ok (.iload 5, 2) := by decide +kernel
theorem dX8_addsArrow_131 : decode cX8_addsArrow 131 = .ok (.iconst 2, 1) := by decide +kernel
theorem dX8_addsArrow_132 : decode cX8_addsArrow 132 = .ok (.iadd, 1) := by decide +kernel
theorem dX8_addsArrow_133 : decode cX8_addsArrow 133 = .ok (.iload_n 2, 1) := by decide +kernel
theorem dX8_addsArrow_134 : decode cX8_addsArrow 134 = .ok (.iastore, 1) := by decide +kernel
theorem dX8_addsArrow_135 : decode cX8_addsArrow 135 = .ok (.aload_n 0, 1) := by decide +kernel
theorem dX8_addsArrow_136 : decode cX8_addsArrow 136 = .ok (.getfield 7, 3) := by decide +kernel
theorem dX8_addsArrow_139 : decode cX8_addsArrow 139 = .ok (.bipush 121, 2) := by decide +kernel
theorem dX8_addsArrow_141 : decode cX8_addsArrow 141 = .ok (.dup2, 1) := by decide +kernel
theorem dX8_addsArrow_142 : decode cX8_addsArrow 142 = .ok (.iaload, 1) := by decide +kernel
theorem dX8_addsArrow_143 : decode cX8_addsArrow 143 = .ok (.iconst 1, 1) := by decide +kernel
theorem dX8_addsArrow_144 : decode cX8_addsArrow 144 = .ok (.iadd, 1) := by decide +kernel
theorem dX8_addsArrow_145 : decode cX8_addsArrow 145 = .ok (.iastore, 1) := by decide +kernel
theorem dX8_addsArrow_146 : decode cX8_addsArrow 146 = .ok (.aload_n 0, 1) := by decide +kernel
theorem dX8_addsArrow_147 : decode cX8_addsArrow 147 = .ok (.getfield 7, 3) := by decide +kernel
theorem dX8_addsArrow_150 : decode cX8_addsArrow 150 = .ok (.sipush 445, 3) := by decide +kernel
theorem dX8_addsArrow_153 : decode cX8_addsArrow 153 = .ok (.dup2, 1) := by decide +kernel
theorem dX8_addsArrow_154 : decode cX8_addsArrow 154 = .ok (.iaload, 1) := by decide +kernel
theorem dX8_addsArrow_155 : decode cX8_addsArrow 155 = .ok (.iconst 1, 1) := by decide +kernel
theorem dX8_addsArrow_156 : decode cX8_addsArrow 156 = .ok (.iadd, 1) := by decide +kernel
theorem dX8_addsArrow_157 : decode cX8_addsArrow 157 = .ok (.iastore, 1) := by decide +kernel
theorem dX8_addsArrow_158 : decode cX8_addsArrow 158 = .ok (.aload_n 0, 1) := by decide +kernel
theorem dX8_addsArrow_159 : decode cX8_addsArrow 159 = .ok (.getfield 7, 3) := by decide +kernel
theorem dX8_addsArrow_162 : decode cX8_addsArrow 162 = .ok (.sipush 445, 3) := by decide +kernel
theorem dX8_addsArrow_165 : decode cX8_addsArrow 165 = .ok (.iaload, 1) := by decide +kernel
theorem dX8_addsArrow_166 : decode cX8_addsArrow 166 = .ok (.iconst 1, 1) := by decide +kernel
theorem dX8_addsArrow_167 : decode cX8_addsArrow 167 = .ok (.isub, 1) := by decide +kernel
theorem dX8_addsArrow_168 : decode cX8_addsArrow 168 = .ok (.ireturn, 1) := by decide +kernel
theorem dX8_dropArrow_0 : decode cX8_dropArrow 0 = .ok (.aload_n 0, 1) := by decide +kernel
theorem dX8_dropArrow_1 : decode cX8_dropArrow 1 = .ok (.getfield 7, 3) := by decide +kernel
theorem dX8_dropArrow_4 : decode cX8_dropArrow 4 = .ok (.bipush 121, 2) := by decide +kernel
theorem dX8_dropArrow_6 : decode cX8_dropArrow 6 = .ok (.dup2, 1) := by decide +kernel
theorem dX8_dropArrow_7 : decode cX8_dropArrow 7 = .ok (.iaload, 1) := by decide +kernel
theorem dX8_dropArrow_8 : decode cX8_dropArrow 8 = .ok (.iconst 1, 1) := by decide +kernel
theorem dX8_dropArrow_9 : decode cX8_dropArrow 9 = .ok (.isub, 1) := by decide +kernel
theorem dX8_dropArrow_10 : decode cX8_dropArrow 10 = .ok (.iastore, 1) := by decide +kernel
theorem dX8_dropArrow_11 : decode cX8_dropArrow 11 = .ok (.bipush 122, 2) := by decide +kernel
theorem dX8_dropArrow_13 : decode cX8_dropArrow 13 = .ok (.iconst 3, 1) := by decide +kernel
theorem dX8_dropArrow_14 : decode cX8_dropArrow 14 = .ok (.iload_n 1, 1) := by decide +kernel
theorem dX8_dropArrow_15 : decode cX8_dropArrow 15 = .ok (.imul, 1) := by decide +kernel
theorem dX8_dropArrow_16 : decode cX8_dropArrow 16 = .ok (.iadd, 1) := by decide +kernel
theorem dX8_dropArrow_17 : decode cX8_dropArrow 17 = .ok (.istore_n 2, 1) := by decide +kernel
theorem dX8_dropArrow_18 : decode cX8_dropArrow 18 = .ok (.iload_n 2, 1) := by decide +kernel
theorem dX8_dropArrow_19 : decode cX8_dropArrow 19 = .ok (.bipush 122, 2) := by decide +kernel
theorem dX8_dropArrow_21 : decode cX8_dropArrow 21 = .ok (.iconst 3, 1) := by decide +kernel
theorem dX8_dropArrow_22 : decode cX8_dropArrow 22 = .ok (.aload_n 0, 1) := by decide +kernel
theorem dX8_dropArrow_23 : decode cX8_dropArrow 23 = .ok (.getfield 7, 3) := by decide +kernel
theorem dX8_dropArrow_26 : decode cX8_dropArrow 26 = .ok (.bipush 121, 2) := by decide +kernel
theorem dX8_dropArrow_28 : decode cX8_dropArrow 28 = .ok (.iaload, 1) := by decide +kernel
theorem dX8_dropArrow_29 : decode cX8_dropArrow 29 = .ok (.imul, 1) := by decide +kernel
theorem dX8_dropArrow_30 : decode cX8_dropArrow 30 = .ok (.iadd, 1) := by decide +kernel
theorem dX8_dropArrow_31 : decode cX8_dropArrow 31 = .ok (.if_icmp .ge 23, 3) := by decide +kernel
theorem dX8_dropArrow_34 : decode cX8_dropArrow 34 = .ok (.aload_n 0, 1) := by decide +kernel
theorem dX8_dropArrow_35 : decode cX8_dropArrow 35 = .ok (.getfield 7, 3) := by decide +kernel
theorem dX8_dropArrow_38 : decode cX8_dropArrow 38 = .ok (.iload_n 2, 1) := by decide +kernel
theorem dX8_dropArrow_39 : decode cX8_dropArrow 39 = .ok (.aload_n 0, 1) := by decide +kernel
theorem dX8_dropArrow_40 : decode cX8_dropArrow 40 = .ok (.getfield 7, 3) := by decide +kernel
theorem dX8_dropArrow_43 : decode cX8_dropArrow 43 = .ok (.iload_n 2, 1) := by decide +kernel
theorem dX8_dropArrow_44 : decode cX8_dropArrow 44 = .ok (.iconst 3, 1) := by decide +kernel
theorem dX8_dropArrow_45 : decode cX8_dropArrow 45 = .ok (.iadd, 1) := by decide +kernel
theorem dX8_dropArrow_46 : decode cX8_dropArrow 46 = .ok (.iaload, 1) := by decide +kernel
theorem dX8_dropArrow_47 : decode cX8_dropArrow 47 = .ok (.iastore, 1) := by decide +kernel
theorem dX8_dropArrow_48 : decode cX8_dropArrow 48 = .ok (.iinc 2 1, 3) := by decide +kernel
theorem dX8_dropArrow_51 : decode cX8_dropArrow 51 = .ok (.goto (-33), 3) := by decide +kernel
theorem dX8_dropArrow_54 : decode cX8_dropArrow 54 = .ok (.iconst 0, 1) := by decide +kernel
theorem dX8_dropArrow_55 : decode cX8_dropArrow 55 = .ok (.istore_n 2, 1) := by decide +kernel
theorem dX8_dropArrow_56 : decode cX8_dropArrow 56 = .ok (.iload_n 2, 1) := by decide +kernel
theorem dX8_dropArrow_57 : decode cX8_dropArrow 57 = .ok (.iconst 3, 1) := by decide +kernel
theorem dX8_dropArrow_58 : decode cX8_dropArrow 58 = .ok (.if_icmp .ge 29, 3) := by decide +kernel
theorem dX8_dropArrow_61 : decode cX8_dropArrow 61 = .ok (.aload_n 0, 1) := by decide +kernel
theorem dX8_dropArrow_62 : decode cX8_dropArrow 62 = .ok (.getfield 7, 3) := by decide +kernel
theorem dX8_dropArrow_65 : decode cX8_dropArrow 65 = .ok (.bipush 122, 2) := by decide +kernel
theorem dX8_dropArrow_67 : decode cX8_dropArrow 67 = .ok (.iconst 3, 1) := by decide +kernel
theorem dX8_dropArrow_68 : decode cX8_dropArrow 68 = .ok (.aload_n 0, 1) := by decide +kernel
theorem dX8_dropArrow_69 : decode cX8_dropArrow 69 = .ok (.getfield 7, 3) := by decide +kernel
theorem dX8_dropArrow_72 : decode cX8_dropArrow 72 = .ok (.bipush 121, 2) := by decide +kernel
theorem dX8_dropArrow_74 : decode cX8_dropArrow 74 = .ok (.iaload, 1) := by decide +kernel
theorem dX8_dropArrow_75 : decode cX8_dropArrow 75 = .ok (.imul, 1) := by decide +kernel
theorem dX8_dropArrow_76 : decode cX8_dropArrow 76 = .ok (.iadd, 1) := by decide +kernel
theorem dX8_dropArrow_77 : decode cX8_dropArrow 77 = .ok (.iload_n 2, 1) := by decide +kernel
theorem dX8_dropArrow_78 : decode cX8_dropArrow 78 = .ok (.iadd, 1) := by decide +kernel
theorem dX8_dropArrow_79 : decode cX8_dropArrow 79 = .ok (.iconst 0, 1) := by decide +kernel
theorem dX8_dropArrow_80 : decode cX8_dropArrow 80 = .ok (.iastore, 1) := by decide +kernel
theorem dX8_dropArrow_81 : decode cX8_dropArrow 81 = .ok (.iinc 2 1, 3) := by decide +kernel
theorem dX8_dropArrow_84 : decode cX8_dropArrow 84 = .ok (.goto (-28), 3) := by decide +kernel
theorem dX8_dropArrow_87 : decode cX8_dropArrow 87 = .ok (.return_, 1) := by decide +kernel
theorem dX8_takesBar_0 : decode cX8_takesBar 0 = .ok (.aload_n 0, 1) := by decide +kernel
theorem dX8_takesBar_1 : decode cX8_takesBar 1 = .ok (.iload_n 1, 1) := by decide +kernel
theorem dX8_takesBar_2 : decode cX8_takesBar 2 = .ok (.invokevirtual 52, 3) := by decide +kernel
theorem dX8_takesBar_5 : decode cX8_takesBar 5 = .ok (.istore_n 2, 1) := by decide +kernel
theorem dX8_takesBar_6 : decode cX8_takesBar 6 = .ok (.iload_n 2, 1) := by decide +kernel
theorem dX8_takesBar_7 : decode cX8_takesBar 7 = .ok (.bipush (-5), 2) := by decide +kernel
theorem dX8_takesBar_9 : decode cX8_takesBar 9 = .ok (.if_icmp .ne 5, 3) := by decide +kernel
theorem dX8_takesBar_12 : decode cX8_takesBar 12 = .ok (.iconst (-1), 1) := by decide +kernel
theorem dX8_takesBar_13 : decode cX8_takesBar 13 = .ok (.ireturn, 1) := by decide +kernel
theorem dX8_takesBar_14 : decode cX8_takesBar 14 = .ok (.iconst 0, 1) := by decide +kernel
theorem dX8_takesBar_15 : decode cX8_takesBar 15 = .ok (.istore_n 3, 1) := by decide +kernel
theorem dX8_takesBar_16 : decode cX8_takesBar 16 = .ok (.aload_n 0, 1) := by decide +kernel
theorem dX8_takesBar_17 : decode cX8_takesBar 17 = .ok (.getfield 7, 3) := by decide +kernel
theorem dX8_takesBar_20 : decode cX8_takesBar 20 = .ok (.bipush 121, 2) := by decide +kernel
theorem dX8_takesBar_22 : decode cX8_takesBar 22 = .ok (.iaload, 1) := by decide +kernel
theorem dX8_takesBar_23 : decode cX8_takesBar 23 = .ok (.iconst 1, 1) := by decide +kernel
theorem dX8_takesBar_24 : decode cX8_takesBar 24 = .ok (.isub, 1) := by decide +kernel
theorem dX8_takesBar_25 : decode cX8_takesBar 25 = .ok (.istore 4, 2) := by decide +kernel
theorem dX8_takesBar_27 : decode cX8_takesBar 27 = .ok (.iload 4, 2) := by decide +kernel
theorem dX8_takesBar_29 : decode cX8_takesBar 29 = .ok (.ifCond .lt 38, 3) := by decide +kernel
theorem dX8_takesBar_32 : decode cX8_takesBar 32 = .ok (.aload_n 0, 1) := by decide +kernel
theorem dX8_takesBar_33 : decode cX8_takesBar 33 = .ok (.iload 4, 2) := by decide +kernel
theorem dX8_takesBar_35 : decode cX8_takesBar 35 = .ok (.invokevirtual 70, 3) := by decide +kernel
theorem dX8_takesBar_38 : decode cX8_takesBar 38 = .ok (.iload_n 2, 1) := by decide +kernel
theorem dX8_takesBar_39 : decode cX8_takesBar 39 = .ok (.if_icmp .eq 13, 3) := by decide +kernel
theorem dX8_takesBar_42 : decode cX8_takesBar 42 = .ok (.aload_n 0, 1) := by decide +kernel
theorem dX8_takesBar_43 : decode cX8_takesBar 43 = .ok (.iload 4, 2) := by decide +kernel
theorem dX8_takesBar_45 : decode cX8_takesBar 45 = .ok (.invokevirtual 73, 3) := by decide +kernel
theorem dX8_takesBar_48 : decode cX8_takesBar 48 = .ok (.iload_n 2, 1) := by decide +kernel
theorem dX8_takesBar_49 : decode cX8_takesBar 49 = .ok (.if_icmp .ne 12, 3) := by decide +kernel
theorem dX8_takesBar_52 : decode cX8_takesBar 52 = .ok (.aload_n 0, 1) := by decide +kernel
theorem dX8_takesBar_53 : decode cX8_takesBar 53 = .ok (.iload 4, 2) := by decide +kernel
theorem dX8_takesBar_55 : decode cX8_takesBar 55 = .ok (.invokevirtual 140, 3) := by decide +kernel
theorem dX8_takesBar_58 : decode cX8_takesBar 58 = .ok (.iinc 3 1, 3) := by decide +kernel
theorem dX8_takesBar_61 : decode cX8_takesBar 61 = .ok (.iinc 4 (-1), 3) := by decide +kernel
theorem dX8_takesBar_64 : decode cX8_takesBar 64 = .ok (.goto (-37), 3) := by decide +kernel
theorem dX8_takesBar_67 : decode cX8_takesBar 67 = .ok (.aload_n 0, 1) := by decide +kernel
theorem dX8_takesBar_68 : decode cX8_takesBar 68 = .ok (.getfield 7, 3) := by decide +kernel
theorem dX8_takesBar_71 : decode cX8_takesBar 71 = .ok (.iconst 0, 1) := by decide +kernel
theorem dX8_takesBar_72 : decode cX8_takesBar 72 = .ok (.dup2, 1) := by decide +kernel
theorem dX8_takesBar_73 : decode cX8_takesBar 73 = .ok (.iaload, 1) := by decide +kernel
theorem dX8_takesBar_74 : decode cX8_takesBar 74 = .ok (.iconst 1, 1) := by decide +kernel
theorem dX8_takesBar_75 : decode cX8_takesBar 75 = .ok (.isub, 1) := by decide +kernel
theorem dX8_takesBar_76 : decode cX8_takesBar 76 = .ok (.iastore, 1) := by decide +kernel
theorem dX8_takesBar_77 : decode cX8_takesBar 77 = .ok (.iconst 1, 1) := by decide +kernel
theorem dX8_takesBar_78 : decode cX8_takesBar 78 = .ok (.iconst 4, 1) := by decide +kernel
theorem dX8_takesBar_79 : decode cX8_takesBar 79 = .ok (.iload_n 2, 1) := by decide +kernel
theorem dX8_takesBar_80 : decode cX8_takesBar 80 = .ok (.imul, 1) := by decide +kernel
theorem dX8_takesBar_81 : decode cX8_takesBar 81 = .ok (.iadd, 1) := by decide +kernel
theorem dX8_takesBar_82 : decode cX8_takesBar 82 = .ok (.istore 4, 2) := by decide +kernel
theorem dX8_takesBar_84 : decode cX8_takesBar 84 = .ok (.iload 4, 2) := by decide +kernel
theorem dX8_takesBar_86 : decode cX8_takesBar 86 = .ok (.iconst 1, 1) := by decide +kernel
theorem dX8_takesBar_87 : decode cX8_takesBar 87 = .ok (.iconst 4, 1) := by decide +kernel
theorem dX8_takesBar_88 : decode cX8_takesBar 88 = .ok (.aload_n 0, 1) := by decide +kernel
theorem dX8_takesBar_89 : decode cX8_takesBar 89 = .ok (.getfield 7, 3) := by decide +kernel
theorem dX8_takesBar_92 : decode cX8_takesBar 92 = .ok (.iconst 0, 1) := by decide +kernel
theorem dX8_takesBar_93 : decode cX8_takesBar 93 = .ok (.iaload, 1) := by decide +kernel
theorem dX8_takesBar_94 : decode cX8_takesBar 94 = .ok (.imul, 1) := by decide +kernel
theorem dX8_takesBar_95 : decode cX8_takesBar 95 = .ok (.iadd, 1) := by decide +kernel
theorem dX8_takesBar_96 : decode cX8_takesBar 96 = .ok (.if_icmp .ge 25, 3) := by decide +kernel
theorem dX8_takesBar_99 : decode cX8_takesBar 99 = .ok (.aload_n 0, 1) := by decide +kernel
theorem dX8_takesBar_100 : decode cX8_takesBar 100 = .ok (.getfield 7, 3) := by decide +kernel
theorem dX8_takesBar_103 : decode cX8_takesBar 103 = .ok (.iload 4, 2) := by decide +kernel
theorem dX8_takesBar_105 : decode cX8_takesBar 105 = .ok (.aload_n 0, 1) := by decide +kernel
theorem dX8_takesBar_106 : decode cX8_takesBar 106 = .ok (.getfield 7, 3) := by decide +kernel
theorem dX8_takesBar_109 : decode cX8_takesBar 109 = .ok (.iload 4, 2) := by decide +kernel
theorem dX8_takesBar_111 : decode cX8_takesBar 111 = .ok (.iconst 4, 1) := by decide +kernel
theorem dX8_takesBar_112 : decode cX8_takesBar 112 = .ok (.iadd, 1) := by decide +kernel
theorem dX8_takesBar_113 : decode cX8_takesBar 113 = .ok (.iaload, 1) := by decide +kernel
theorem dX8_takesBar_114 : decode cX8_takesBar 114 = .ok (.iastore, 1) := by decide +kernel
theorem dX8_takesBar_115 : decode cX8_takesBar 115 = .ok (.iinc 4 1, 3) := by decide +kernel
theorem dX8_takesBar_118 : decode cX8_takesBar 118 = .ok (.goto (-34), 3) := by decide +kernel
theorem dX8_takesBar_121 : decode cX8_takesBar 121 = .ok (.iconst 0, 1) := by decide +kernel
theorem dX8_takesBar_122 : decode cX8_takesBar 122 = .ok (.istore 4, 2) := by decide +kernel
theorem dX8_takesBar_124 : decode cX8_takesBar 124 = .ok (.iload 4, 2) := by decide +kernel
theorem dX8_takesBar_126 : decode cX8_takesBar 126 = .ok (.iconst 4, 1) := by decide +kernel
theorem dX8_takesBar_127 : decode cX8_takesBar 127 = .ok (.if_icmp .ge 28, 3) := by decide +kernel
theorem dX8_takesBar_130 : decode cX8_takesBar 130 = .ok (.aload_n 0, 1) := by decide +kernel
theorem dX8_takesBar_131 : decode cX8_takesBar 131 = .ok (.getfield 7, 3) := by decide +kernel
theorem dX8_takesBar_134 : decode cX8_takesBar 134 = .ok (.iconst 1, 1) := by decide +kernel
theorem dX8_takesBar_135 : decode cX8_takesBar 135 = .ok (.iconst 4, 1) := by decide +kernel
theorem dX8_takesBar_136 : decode cX8_takesBar 136 = .ok (.aload_n 0, 1) := by decide +kernel
theorem dX8_takesBar_137 : decode cX8_takesBar 137 = .ok (.getfield 7, 3) := by decide +kernel
theorem dX8_takesBar_140 : decode cX8_takesBar 140 = .ok (.iconst 0, 1) := by decide +kernel
theorem dX8_takesBar_141 : decode cX8_takesBar 141 = .ok (.iaload, 1) := by decide +kernel
theorem dX8_takesBar_142 : decode cX8_takesBar 142 = .ok (.imul, 1) := by decide +kernel
theorem dX8_takesBar_143 : decode cX8_takesBar 143 = .ok (.iadd, 1) := by decide +kernel
theorem dX8_takesBar_144 : decode cX8_takesBar 144 = .ok (.iload 4, 2) := by decide +kernel
theorem dX8_takesBar_146 : decode cX8_takesBar 146 = .ok (.iadd, 1) := by decide +kernel
theorem dX8_takesBar_147 : decode cX8_takesBar 147 = .ok (.iconst 0, 1) := by decide +kernel
theorem dX8_takesBar_148 : decode cX8_takesBar 148 = .ok (.iastore, 1) := by decide +kernel
theorem dX8_takesBar_149 : decode cX8_takesBar 149 = .ok (.iinc 4 1, 3) := by decide +kernel
theorem dX8_takesBar_152 : decode cX8_takesBar 152 = .ok (.goto (-28), 3) := by decide +kernel
theorem dX8_takesBar_155 : decode cX8_takesBar 155 = .ok (.iload_n 3, 1) := by decide +kernel
theorem dX8_takesBar_156 : decode cX8_takesBar 156 = .ok (.ireturn, 1) := by decide +kernel
theorem dX8_takesArrow_0 : decode cX8_takesArrow 0 = .ok (.aload_n 0, 1) := by decide +kernel
theorem dX8_takesArrow_1 : decode cX8_takesArrow 1 = .ok (.iload_n 1, 1) := by decide +kernel
theorem dX8_takesArrow_2 : decode cX8_takesArrow 2 = .ok (.invokevirtual 144, 3) := by decide +kernel
theorem dX8_takesArrow_5 : decode cX8_takesArrow 5 = .ok (.istore_n 2, 1) := by decide +kernel
theorem dX8_takesArrow_6 : decode cX8_takesArrow 6 = .ok (.iload_n 2, 1) := by decide +kernel
theorem dX8_takesArrow_7 : decode cX8_takesArrow 7 = .ok (.bipush (-5), 2) := by decide +kernel
theorem dX8_takesArrow_9 : decode cX8_takesArrow 9 = .ok (.if_icmp .ne 5, 3) := by decide +kernel
theorem dX8_takesArrow_12 : decode cX8_takesArrow 12 = .ok (.iconst (-1), 1) := by decide +kernel
theorem dX8_takesArrow_13 : decode cX8_takesArrow 13 = .ok (.ireturn, 1) := by decide +kernel
theorem dX8_takesArrow_14 : decode cX8_takesArrow 14 = .ok (.aload_n 0, 1) := by decide +kernel
theorem dX8_takesArrow_15 : decode cX8_takesArrow 15 = .ok (.getfield 7, 3) := by decide +kernel
theorem dX8_takesArrow_18 : decode cX8_takesArrow 18 = .ok (.bipush 122, 2) := by decide +kernel
theorem dX8_takesArrow_20 : decode cX8_takesArrow 20 = .ok (.iconst 3, 1) := by decide +kernel
theorem dX8_takesArrow_21 : decode cX8_takesArrow 21 = .ok (.iload_n 2, 1) := by decide +kernel
theorem dX8_takesArrow_22 : decode cX8_takesArrow 22 = .ok (.imul, 1) := by decide +kernel
theorem dX8_takesArrow_23 : decode cX8_takesArrow 23 = .ok (.iadd, 1) := by decide +kernel
theorem dX8_takesArrow_24 : decode cX8_takesArrow 24 = .ok (.iconst 2, 1) := by decide +kernel
theorem dX8_takesArrow_25 : decode cX8_takesArrow 25 = .ok (.iadd, 1) := by decide +kernel
theorem dX8_takesArrow_26 : decode cX8_takesArrow 26 = .ok (.iaload, 1) := by decide +kernel
theorem dX8_takesArrow_27 : decode cX8_takesArrow 27 = .ok (.istore_n 3, 1) := by decide +kernel
theorem dX8_takesArrow_28 : decode cX8_takesArrow 28 = .ok (.aload_n 0, 1) := by decide +kernel
theorem dX8_takesArrow_29 : decode cX8_takesArrow 29 = .ok (.iload_n 2, 1) := by decide +kernel
theorem dX8_takesArrow_30 : decode cX8_takesArrow 30 = .ok (.invokevirtual 140, 3) := by decide +kernel
theorem dX8_takesArrow_33 : decode cX8_takesArrow 33 = .ok (.iload_n 3, 1) := by decide +kernel
theorem dX8_takesArrow_34 : decode cX8_takesArrow 34 = .ok (.ireturn, 1) := by decide +kernel
theorem dX8_moves_0 : decode cX8_moves 0 = .ok (.aload_n 0, 1) := by decide +kernel
theorem dX8_moves_1 : decode cX8_moves 1 = .ok (.iload_n 1, 1) := by decide +kernel
theorem dX8_moves_2 : decode cX8_moves 2 = .ok (.invokevirtual 52, 3) := by decide +kernel
theorem dX8_moves_5 : decode cX8_moves 5 = .ok (.istore 4, 2) := by decide +kernel
theorem dX8_moves_7 : decode cX8_moves 7 = .ok (.iload 4, 2) := by decide +kernel
theorem dX8_moves_9 : decode cX8_moves 9 = .ok (.bipush (-5), 2) := by decide +kernel
theorem dX8_moves_11 : decode cX8_moves 11 = .ok (.if_icmp .eq 10, 3) := by decide +kernel
theorem dX8_moves_14 : decode cX8_moves 14 = .ok (.iload_n 2, 1) := by decide +kernel
theorem dX8_moves_15 : decode cX8_moves 15 = .ok (.invokestatic 130, 3) := by decide +kernel
theorem dX8_moves_18 : decode cX8_moves 18 = .ok (.ifCond .ne 5, 3) := by decide +kernel
theorem dX8_moves_21 : decode cX8_moves 21 = .ok (.iconst (-1), 1) := by decide +kernel
theorem dX8_moves_22 : decode cX8_moves 22 = .ok (.ireturn, 1) := by decide +kernel
theorem dX8_moves_23 : decode cX8_moves 23 = .ok (.iload_n 3, 1) := by decide +kernel
theorem dX8_moves_24 : decode cX8_moves 24 = .ok (.iconst 0, 1) := by decide +kernel
theorem dX8_moves_25 : decode cX8_moves 25 = .ok (.sipush 199, 3) := by decide +kernel
theorem dX8_moves_28 : decode cX8_moves 28 = .ok (.invokestatic 79, 3) := by decide +kernel
theorem dX8_moves_31 : decode cX8_moves 31 = .ok (.ifCond .eq 18, 3) := by decide +kernel
theorem dX8_moves_34 : decode cX8_moves 34 = .ok (.iload_n 3, 1) := by decide +kernel
theorem dX8_moves_35 : decode cX8_moves 35 = .ok (.aload_n 0, 1) := by decide +kernel
theorem dX8_moves_36 : decode cX8_moves 36 = .ok (.iload 4, 2) := by decide +kernel
theorem dX8_moves_38 : decode cX8_moves 38 = .ok (.iconst 3, 1) := by decide +kernel
theorem dX8_moves_39 : decode cX8_moves 39 = .ok (.invokevirtual 48, 3) := by decide +kernel
theorem dX8_moves_42 : decode cX8_moves 42 = .ok (.iadd, 1) := by decide +kernel
theorem dX8_moves_43 : decode cX8_moves 43 = .ok (.sipush 200, 3) := by decide +kernel
theorem dX8_moves_46 : decode cX8_moves 46 = .ok (.if_icmp .le 6, 3) := by decide +kernel
theorem dX8_moves_49 : decode cX8_moves 49 = .ok (.bipush (-2), 2) := by decide +kernel
theorem dX8_moves_51 : decode cX8_moves 51 = .ok (.ireturn, 1) := by decide +kernel
theorem dX8_moves_52 : decode cX8_moves 52 = .ok (.aload_n 0, 1) := by decide +kernel
theorem dX8_moves_53 : decode cX8_moves 53 = .ok (.iload 4, 2) := by decide +kernel
theorem dX8_moves_55 : decode cX8_moves 55 = .ok (.iconst 1, 1) := by decide +kernel
theorem dX8_moves_56 : decode cX8_moves 56 = .ok (.invokevirtual 48, 3) := by decide +kernel
theorem dX8_moves_59 : decode cX8_moves 59 = .ok (.iload_n 2, 1) := by decide +kernel
theorem dX8_moves_60 : decode cX8_moves 60 = .ok (.if_icmp .ne 17, 3) := by decide +kernel
theorem dX8_moves_63 : decode cX8_moves 63 = .ok (.aload_n 0, 1) := by decide +kernel
theorem dX8_moves_64 : decode cX8_moves 64 = .ok (.iload 4, 2) := by decide +kernel
theorem dX8_moves_66 : decode cX8_moves 66 = .ok (.iconst 2, 1) := by decide +kernel
theorem dX8_moves_67 : decode cX8_moves 67 = .ok (.invokevirtual 48, 3) := by decide +kernel
theorem dX8_moves_70 : decode cX8_moves 70 = .ok (.iload_n 3, 1) := by decide +kernel
theorem dX8_moves_71 : decode cX8_moves 71 = .ok (.if_icmp .ne 6, 3) := by decide +kernel
theorem dX8_moves_74 : decode cX8_moves 74 = .ok (.bipush (-5), 2) := by decide +kernel
theorem dX8_moves_76 : decode cX8_moves 76 = .ok (.ireturn, 1) := by decide +kernel
theorem dX8_moves_77 : decode cX8_moves 77 = .ok (.aload_n 0, 1) := by decide +kernel
theorem dX8_moves_78 : decode cX8_moves 78 = .ok (.iload_n 2, 1) := by decide +kernel
theorem dX8_moves_79 : decode cX8_moves 79 = .ok (.iload_n 3, 1) := by decide +kernel
theorem dX8_moves_80 : decode cX8_moves 80 = .ok (.iload_n 3, 1) := by decide +kernel
theorem dX8_moves_81 : decode cX8_moves 81 = .ok (.aload_n 0, 1) := by decide +kernel
theorem dX8_moves_82 : decode cX8_moves 82 = .ok (.iload 4, 2) := by decide +kernel
theorem dX8_moves_84 : decode cX8_moves 84 = .ok (.iconst 3, 1) := by decide +kernel
theorem dX8_moves_85 : decode cX8_moves 85 = .ok (.invokevirtual 48, 3) := by decide +kernel
theorem dX8_moves_88 : decode cX8_moves 88 = .ok (.iadd, 1) := by decide +kernel
theorem dX8_moves_89 : decode cX8_moves 89 = .ok (.iconst 1, 1) := by decide +kernel
theorem dX8_moves_90 : decode cX8_moves 90 = .ok (.isub, 1) := by decide +kernel
theorem dX8_moves_91 : decode cX8_moves 91 = .ok (.iload 4, 2) := by decide +kernel
theorem dX8_moves_93 : decode cX8_moves 93 = .ok (.invokevirtual 62, 3) := by decide +kernel
theorem dX8_moves_96 : decode cX8_moves 96 = .ok (.bipush (-5), 2) := by decide +kernel
theorem dX8_moves_98 : decode cX8_moves 98 = .ok (.if_icmp .eq 6, 3) := by decide +kernel
theorem dX8_moves_101 : decode cX8_moves 101 = .ok (.bipush (-4), 2) := by decide +kernel
theorem dX8_moves_103 : decode cX8_moves 103 = .ok (.ireturn, 1) := by decide +kernel
theorem dX8_moves_104 : decode cX8_moves 104 = .ok (.aload_n 0, 1) := by decide +kernel
theorem dX8_moves_105 : decode cX8_moves 105 = .ok (.getfield 7, 3) := by decide +kernel
theorem dX8_moves_108 : decode cX8_moves 108 = .ok (.iconst 1, 1) := by decide +kernel
theorem dX8_moves_109 : decode cX8_moves 109 = .ok (.iconst 4, 1) := by decide +kernel
theorem dX8_moves_110 : decode cX8_moves 110 = .ok (.iload 4, 2) := by decide +kernel
theorem dX8_moves_112 : decode cX8_moves 112 = .ok (.imul, 1) := by decide +kernel
theorem dX8_moves_113 : decode cX8_moves 113 = .ok (.iadd, 1) := by decide +kernel
theorem dX8_moves_114 : decode cX8_moves 114 = .ok (.iconst 1, 1) := by decide +kernel
theorem dX8_moves_115 : decode cX8_moves 115 = .ok (.iadd, 1) := by decide +kernel
theorem dX8_moves_116 : decode cX8_moves 116 = .ok (.iload_n 2, 1) := by decide +kernel
theorem dX8_moves_117 : decode cX8_moves 117 = .ok (.iastore, 1) := by decide +kernel
theorem dX8_moves_118 : decode cX8_moves 118 = .ok (.aload_n 0, 1) := by decide +kernel
theorem dX8_moves_119 : decode cX8_moves 119 = .ok (.getfield 7, 3) := by decide +kernel
theorem dX8_moves_122 : decode cX8_moves 122 = .ok (.iconst 1, 1) := by decide +kernel
theorem dX8_moves_123 : decode cX8_moves 123 = .ok (.iconst 4, 1) := by decide +kernel
theorem dX8_moves_124 : decode cX8_moves 124 = .ok (.iload 4, 2) := by decide +kernel
theorem dX8_moves_126 : decode cX8_moves 126 = .ok (.imul, 1) := by decide +kernel
theorem dX8_moves_127 : decode cX8_moves 127 = .ok (.iadd, 1) := by decide +kernel
theorem dX8_moves_128 : decode cX8_moves 128 = .ok (.iconst 2, 1) := by decide +kernel
theorem dX8_moves_129 : decode cX8_moves 129 = .ok (.iadd, 1) := by decide +kernel
theorem dX8_moves_130 : decode cX8_moves 130 = .ok (.iload_n 3, 1) := by decide +kernel
theorem dX8_moves_131 : decode cX8_moves 131 = .ok (.iastore, 1) := by decide +kernel
theorem dX8_moves_132 : decode cX8_moves 132 = .ok (.aload_n 0, 1) := by decide +kernel
theorem dX8_moves_133 : decode cX8_moves 133 = .ok (.invokevirtual 147, 3) := by decide +kernel
theorem dX8_moves_136 : decode cX8_moves 136 = .ok (.ireturn, 1) := by decide +kernel
theorem dX8_swapLanes_0 : decode cX8_swapLanes 0 = .ok (.iconst 0, 1) := by decide +kernel
theorem dX8_swapLanes_1 : decode cX8_swapLanes 1 = .ok (.istore_n 3, 1) := by decide +kernel
theorem dX8_swapLanes_2 : decode cX8_swapLanes 2 = .ok (.iload_n 3, 1) := by decide +kernel
theorem dX8_swapLanes_3 : decode cX8_swapLanes 3 = .ok (.aload_n 0, 1) := by decide +kernel
theorem dX8_swapLanes_4 : decode cX8_swapLanes 4 = .ok (.getfield 7, 3) := by decide +kernel
theorem dX8_swapLanes_7 : decode cX8_swapLanes 7 = .ok (.iconst 0, 1) := by decide +kernel
theorem dX8_swapLanes_8 : decode cX8_swapLanes 8 = .ok (.iaload, 1) := by decide +kernel
theorem dX8_swapLanes_9 : decode cX8_swapLanes 9 = .ok (.if_icmp .ge 51, 3) := by decide +kernel
theorem dX8_swapLanes_12 : decode cX8_swapLanes 12 = .ok (.aload_n 0, 1) := by decide +kernel
theorem dX8_swapLanes_13 : decode cX8_swapLanes 13 = .ok (.iload_n 3, 1) := by decide +kernel
theorem dX8_swapLanes_14 : decode cX8_swapLanes 14 = .ok (.iconst 1, 1) := by decide +kernel
theorem dX8_swapLanes_15 : decode cX8_swapLanes 15 = .ok (.invokevirtual 48, 3) := by decide +kernel
theorem dX8_swapLanes_18 : decode cX8_swapLanes 18 = .ok (.istore 4, 2) := by decide +kernel
theorem dX8_swapLanes_20 : decode cX8_swapLanes 20 = .ok (.aload_n 0, 1) := by decide +kernel
theorem dX8_swapLanes_21 : decode cX8_swapLanes 21 = .ok (.getfield 7, 3) := by decide +kernel
theorem dX8_swapLanes_24 : decode cX8_swapLanes 24 = .ok (.iconst 1, 1) := by decide +kernel
theorem dX8_swapLanes_25 : decode cX8_swapLanes 25 = .ok (.iconst 4, 1) := by decide +kernel
theorem dX8_swapLanes_26 : decode cX8_swapLanes 26 = .ok (.iload_n 3, 1) := by decide +kernel
theorem dX8_swapLanes_27 : decode cX8_swapLanes 27 = .ok (.imul, 1) := by decide +kernel
theorem dX8_swapLanes_28 : decode cX8_swapLanes 28 = .ok (.iadd, 1) := by decide +kernel
theorem dX8_swapLanes_29 : decode cX8_swapLanes 29 = .ok (.iconst 1, 1) := by decide +kernel
theorem dX8_swapLanes_30 : decode cX8_swapLanes 30 = .ok (.iadd, 1) := by decide +kernel
theorem dX8_swapLanes_31 : decode cX8_swapLanes 31 = .ok (.iload 4, 2) := by decide +kernel
theorem dX8_swapLanes_33 : decode cX8_swapLanes 33 = .ok (.iload_n 1, 1) := by decide +kernel
theorem dX8_swapLanes_34 : decode cX8_swapLanes 34 = .ok (.if_icmp .ne 7, 3) := by decide +kernel
theorem dX8_swapLanes_37 : decode cX8_swapLanes 37 = .ok (.iload_n 2, 1) := by decide +kernel
theorem dX8_swapLanes_38 : decode cX8_swapLanes 38 = .ok (.goto 15, 3) := by decide +kernel
theorem dX8_swapLanes_41 : decode cX8_swapLanes 41 = .ok (.iload 4, 2) := by decide +kernel
theorem dX8_swapLanes_43 : decode cX8_swapLanes 43 = .ok (.iload_n 2, 1) := by decide +kernel
theorem dX8_swapLanes_44 : decode cX8_swapLanes 44 = .ok (.if_icmp .ne 7, 3) := by decide +kernel
theorem dX8_swapLanes_47 : decode cX8_swapLanes 47 = .ok (.iload_n 1, 1) := by decide +kernel
theorem dX8_swapLanes_48 : decode cX8_swapLanes 48 = .ok (.goto 5, 3) := by decide +kernel
theorem dX8_swapLanes_51 : decode cX8_swapLanes 51 = .ok (.iload 4, 2) := by decide +kernel
theorem dX8_swapLanes_53 : decode cX8_swapLanes 53 = .ok (.iastore, 1) := by decide +kernel
theorem dX8_swapLanes_54 : decode cX8_swapLanes 54 = .ok (.iinc 3 1, 3) := by decide +kernel
theorem dX8_swapLanes_57 : decode cX8_swapLanes 57 = .ok (.goto (-55), 3) := by decide +kernel
theorem dX8_swapLanes_60 : decode cX8_swapLanes 60 = .ok (.return_, 1) := by decide +kernel
theorem dX8_swaps_0 : decode cX8_swaps 0 = .ok (.iload_n 1, 1) := by decide +kernel
theorem dX8_swaps_1 : decode cX8_swaps 1 = .ok (.invokestatic 130, 3) := by decide +kernel
theorem dX8_swaps_4 : decode cX8_swaps 4 = .ok (.ifCond .eq 10, 3) := by decide +kernel
theorem dX8_swaps_7 : decode cX8_swaps 7 = .ok (.iload_n 2, 1) := by decide +kernel
theorem dX8_swaps_8 : decode cX8_swaps 8 = .ok (.invokestatic 130, 3) := by decide +kernel
theorem dX8_swaps_11 : decode cX8_swaps 11 = .ok (.ifCond .ne 5, 3) := by decide +kernel
theorem dX8_swaps_14 : decode cX8_swaps 14 = .ok (.iconst (-1), 1) := by decide +kernel
theorem dX8_swaps_15 : decode cX8_swaps 15 = .ok (.ireturn, 1) := by decide +kernel
theorem dX8_swaps_16 : decode cX8_swaps 16 = .ok (.iload_n 1, 1) := by decide +kernel
theorem dX8_swaps_17 : decode cX8_swaps 17 = .ok (.iload_n 2, 1) := by decide +kernel
theorem dX8_swaps_18 : decode cX8_swaps 18 = .ok (.if_icmp .eq 19, 3) := by decide +kernel
theorem dX8_swaps_21 : decode cX8_swaps 21 = .ok (.aload_n 0, 1) := by decide +kernel
theorem dX8_swaps_22 : decode cX8_swaps 22 = .ok (.iload_n 1, 1) := by decide +kernel
theorem dX8_swaps_23 : decode cX8_swaps 23 = .ok (.invokevirtual 66, 3) := by decide +kernel
theorem dX8_swaps_26 : decode cX8_swaps 26 = .ok (.ifCond .ne 14, 3) := by decide +kernel
theorem dX8_swaps_29 : decode cX8_swaps 29 = .ok (.aload_n 0, 1) := by decide +kernel
theorem dX8_swaps_30 : decode cX8_swaps 30 = .ok (.iload_n 2, 1) := by decide +kernel
theorem dX8_swaps_31 : decode cX8_swaps 31 = .ok (.invokevirtual 66, 3) := by decide +kernel
theorem dX8_swaps_34 : decode cX8_swaps 34 = .ok (.ifCond .ne 6, 3) := by decide +kernel
theorem dX8_swaps_37 : decode cX8_swaps 37 = .ok (.bipush (-5), 2) := by decide +kernel
theorem dX8_swaps_39 : decode cX8_swaps 39 = .ok (.ireturn, 1) := by decide +kernel
theorem dX8_swaps_40 : decode cX8_swaps 40 = .ok (.aload_n 0, 1) := by decide +kernel
theorem dX8_swaps_41 : decode cX8_swaps 41 = .ok (.iload_n 1, 1) := by decide +kernel
theorem dX8_swaps_42 : decode cX8_swaps 42 = .ok (.iload_n 2, 1) := by decide +kernel
theorem dX8_swaps_43 : decode cX8_swaps 43 = .ok (.invokevirtual 150, 3) := by decide +kernel
theorem dX8_swaps_46 : decode cX8_swaps 46 = .ok (.aload_n 0, 1) := by decide +kernel
theorem dX8_swaps_47 : decode cX8_swaps 47 = .ok (.invokevirtual 147, 3) := by decide +kernel
theorem dX8_swaps_50 : decode cX8_swaps 50 = .ok (.ireturn, 1) := by decide +kernel
theorem dX8_nextByDay_0 : decode cX8_nextByDay 0 = .ok (.bipush (-5), 2) := by decide +kernel
theorem dX8_nextByDay_2 : decode cX8_nextByDay 2 = .ok (.istore_n 2, 1) := by decide +kernel
theorem dX8_nextByDay_3 : decode cX8_nextByDay 3 = .ok (.iconst 0, 1) := by decide +kernel
theorem dX8_nextByDay_4 : decode cX8_nextByDay 4 = .ok (.istore_n 3, 1) := by decide +kernel
theorem dX8_nextByDay_5 : decode cX8_nextByDay 5 = .ok (.iload_n 3, 1) := by decide +kernel
theorem dX8_nextByDay_6 : decode cX8_nextByDay 6 = .ok (.aload_n 0, 1) := by decide +kernel
theorem dX8_nextByDay_7 : decode cX8_nextByDay 7 = .ok (.getfield 7, 3) := by decide +kernel
theorem dX8_nextByDay_10 : decode cX8_nextByDay 10 = .ok (.iconst 0, 1) := by decide +kernel
theorem dX8_nextByDay_11 : decode cX8_nextByDay 11 = .ok (.iaload, 1) := by decide +kernel
theorem dX8_nextByDay_12 : decode cX8_nextByDay 12 = .ok (.if_icmp .ge 101, 3) := by decide +kernel
theorem dX8_nextByDay_15 : decode cX8_nextByDay 15 = .ok (.iload_n 1, 1) := by decide +kernel
theorem dX8_nextByDay_16 : decode cX8_nextByDay 16 = .ok (.bipush (-5), 2) := by decide +kernel
theorem dX8_nextByDay_18 : decode cX8_nextByDay 18 = .ok (.if_icmp .eq 38, 3) := by decide +kernel
theorem dX8_nextByDay_21 : decode cX8_nextByDay 21 = .ok (.aload_n 0, 1) := by decide +kernel
theorem dX8_nextByDay_22 : decode cX8_nextByDay 22 = .ok (.iload_n 3, 1) := by decide +kernel
theorem dX8_nextByDay_23 : decode cX8_nextByDay 23 = .ok (.iconst 2, 1) := by decide +kernel
theorem dX8_nextByDay_24 : decode cX8_nextByDay 24 = .ok (.invokevirtual 48, 3) := by decide +kernel
theorem dX8_nextByDay_27 : decode cX8_nextByDay 27 = .ok (.aload_n 0, 1) := by decide +kernel
theorem dX8_nextByDay_28 : decode cX8_nextByDay 28 = .ok (.iload_n 1, 1) := by decide +kernel
theorem dX8_nextByDay_29 : decode cX8_nextByDay 29 = .ok (.iconst 2, 1) := by decide +kernel
theorem dX8_nextByDay_30 : decode cX8_nextByDay 30 = .ok (.invokevirtual 48, 3) := by decide +kernel
theorem dX8_nextByDay_33 : decode cX8_nextByDay 33 = .ok (.if_icmp .gt 23, 3) := by decide +kernel
theorem dX8_nextByDay_36 : decode cX8_nextByDay 36 = .ok (.aload_n 0, 1) := by decide +kernel
theorem dX8_nextByDay_37 : decode cX8_nextByDay 37 = .ok (.iload_n 3, 1) := by decide +kernel
theorem dX8_nextByDay_38 : decode cX8_nextByDay 38 = .ok (.iconst 2, 1) := by decide +kernel
theorem dX8_nextByDay_39 : decode cX8_nextByDay 39 = .ok (.invokevirtual 48, 3) := by decide +kernel
theorem dX8_nextByDay_42 : decode cX8_nextByDay 42 = .ok (.aload_n 0, 1) := by decide +kernel
theorem dX8_nextByDay_43 : decode cX8_nextByDay 43 = .ok (.iload_n 1, 1) := by decide +kernel
theorem dX8_nextByDay_44 : decode cX8_nextByDay 44 = .ok (.iconst 2, 1) := by decide +kernel
theorem dX8_nextByDay_45 : decode cX8_nextByDay 45 = .ok (.invokevirtual 48, 3) := by decide +kernel
theorem dX8_nextByDay_48 : decode cX8_nextByDay 48 = .ok (.if_icmp .ne 12, 3) := by decide +kernel
theorem dX8_nextByDay_51 : decode cX8_nextByDay 51 = .ok (.iload_n 3, 1) := by decide +kernel
theorem dX8_nextByDay_52 : decode cX8_nextByDay 52 = .ok (.iload_n 1, 1) := by decide +kernel
theorem dX8_nextByDay_53 : decode cX8_nextByDay 53 = .ok (.if_icmp .le 7, 3) := by decide +kernel
theorem dX8_nextByDay_56 : decode cX8_nextByDay 56 = .ok (.iconst 1, 1) := by decide +kernel
theorem dX8_nextByDay_57 : decode cX8_nextByDay 57 = .ok (.goto 4, 3) := by decide +kernel
theorem dX8_nextByDay_60 : decode cX8_nextByDay 60 = .ok (.iconst 0, 1) := by decide +kernel
theorem dX8_nextByDay_61 : decode cX8_nextByDay 61 = .ok (.istore 4, 2) := by decide +kernel
theorem dX8_nextByDay_63 : decode cX8_nextByDay 63 = .ok (.iload_n 2, 1) := by decide +kernel
theorem dX8_nextByDay_64 : decode cX8_nextByDay 64 = .ok (.bipush (-5), 2) := by decide +kernel
theorem dX8_nextByDay_66 : decode cX8_nextByDay 66 = .ok (.if_icmp .eq 18, 3) := by decide +kernel
theorem dX8_nextByDay_69 : decode cX8_nextByDay 69 = .ok (.aload_n 0, 1) := by decide +kernel
theorem dX8_nextByDay_70 : decode cX8_nextByDay 70 = .ok (.iload_n 3, 1) := by decide +kernel
theorem dX8_nextByDay_71 : decode cX8_nextByDay 71 = .ok (.iconst 2, 1) := by decide +kernel
theorem dX8_nextByDay_72 : decode cX8_nextByDay 72 = .ok (.invokevirtual 48, 3) := by decide +kernel
theorem dX8_nextByDay_75 : decode cX8_nextByDay 75 = .ok (.aload_n 0, 1) := by decide +kernel
theorem dX8_nextByDay_76 : decode cX8_nextByDay 76 = .ok (.iload_n 2, 1) := by decide +kernel
theorem dX8_nextByDay_77 : decode cX8_nextByDay 77 = .ok (.iconst 2, 1) := by decide +kernel
theorem dX8_nextByDay_78 : decode cX8_nextByDay 78 = .ok (.invokevirtual 48, 3) := by decide +kernel
theorem dX8_nextByDay_81 : decode cX8_nextByDay 81 = .ok (.if_icmp .ge 7, 3) := by decide +kernel
theorem dX8_nextByDay_84 : decode cX8_nextByDay 84 = .ok (.iconst 1, 1) := by decide +kernel
theorem dX8_nextByDay_85 : decode cX8_nextByDay 85 = .ok (.goto 4, 3) := by decide +kernel
theorem dX8_nextByDay_88 : decode cX8_nextByDay 88 = .ok (.iconst 0, 1) := by decide +kernel
theorem dX8_nextByDay_89 : decode cX8_nextByDay 89 = .ok (.istore 5, 2) := by decide +kernel
theorem dX8_nextByDay_91 : decode cX8_nextByDay 91 = .ok (.iload 4, 2) := by decide +kernel
theorem dX8_nextByDay_93 : decode cX8_nextByDay 93 = .ok (.ifCond .eq 12, 3) := by decide +kernel
theorem dX8_nextByDay_96 : decode cX8_nextByDay 96 = .ok (.iload 5, 2) := by decide +kernel
theorem dX8_nextByDay_98 : decode cX8_nextByDay 98 = .ok (.ifCond .eq 7, 3) := by decide +kernel
theorem dX8_nextByDay_101 : decode cX8_nextByDay 101 = .ok (.iload_n 3, 1) := by decide +kernel
theorem dX8_nextByDay_102 : decode cX8_nextByDay 102 = .ok (.goto 4, 3) := by decide +kernel
theorem dX8_nextByDay_105 : decode cX8_nextByDay 105 = .ok (.iload_n 2, 1) := by decide +kernel
theorem dX8_nextByDay_106 : decode cX8_nextByDay 106 = .ok (.istore_n 2, 1) := by decide +kernel
theorem dX8_nextByDay_107 : decode cX8_nextByDay 107 = .ok (.iinc 3 1, 3) := by decide +kernel
theorem dX8_nextByDay_110 : decode cX8_nextByDay 110 = .ok (.goto (-105), 3) := by decide +kernel
theorem dX8_nextByDay_113 : decode cX8_nextByDay 113 = .ok (.iload_n 2, 1) := by decide +kernel
theorem dX8_nextByDay_114 : decode cX8_nextByDay 114 = .ok (.ireturn, 1) := by decide +kernel
theorem dX8_packs_0 : decode cX8_packs 0 = .ok (.iconst 0, 1) := by decide +kernel
theorem dX8_packs_1 : decode cX8_packs 1 = .ok (.istore_n 1, 1) := by decide +kernel
theorem dX8_packs_2 : decode cX8_packs 2 = .ok (.iload_n 1, 1) := by decide +kernel
theorem dX8_packs_3 : decode cX8_packs 3 = .ok (.aload_n 0, 1) := by decide +kernel
theorem dX8_packs_4 : decode cX8_packs 4 = .ok (.getfield 7, 3) := by decide +kernel
theorem dX8_packs_7 : decode cX8_packs 7 = .ok (.iconst 0, 1) := by decide +kernel
theorem dX8_packs_8 : decode cX8_packs 8 = .ok (.iaload, 1) := by decide +kernel
theorem dX8_packs_9 : decode cX8_packs 9 = .ok (.if_icmp .ge 22, 3) := by decide +kernel
theorem dX8_packs_12 : decode cX8_packs 12 = .ok (.aload_n 0, 1) := by decide +kernel
theorem dX8_packs_13 : decode cX8_packs 13 = .ok (.getfield 7, 3) := by decide +kernel
theorem dX8_packs_16 : decode cX8_packs 16 = .ok (.iconst 1, 1) := by decide +kernel
theorem dX8_packs_17 : decode cX8_packs 17 = .ok (.iconst 4, 1) := by decide +kernel
theorem dX8_packs_18 : decode cX8_packs 18 = .ok (.iload_n 1, 1) := by decide +kernel
theorem dX8_packs_19 : decode cX8_packs 19 = .ok (.imul, 1) := by decide +kernel
theorem dX8_packs_20 : decode cX8_packs 20 = .ok (.iadd, 1) := by decide +kernel
theorem dX8_packs_21 : decode cX8_packs 21 = .ok (.iconst 1, 1) := by decide +kernel
theorem dX8_packs_22 : decode cX8_packs 22 = .ok (.iadd, 1) := by decide +kernel
theorem dX8_packs_23 : decode cX8_packs 23 = .ok (.iconst (-1), 1) := by decide +kernel
theorem dX8_packs_24 : decode cX8_packs 24 = .ok (.iastore, 1) := by decide +kernel
theorem dX8_packs_25 : decode cX8_packs 25 = .ok (.iinc 1 1, 3) := by decide +kernel
theorem dX8_packs_28 : decode cX8_packs 28 = .ok (.goto (-26), 3) := by decide +kernel
theorem dX8_packs_31 : decode cX8_packs 31 = .ok (.aload_n 0, 1) := by decide +kernel
theorem dX8_packs_32 : decode cX8_packs 32 = .ok (.bipush (-5), 2) := by decide +kernel
theorem dX8_packs_34 : decode cX8_packs 34 = .ok (.invokevirtual 154, 3) := by decide +kernel
theorem dX8_packs_37 : decode cX8_packs 37 = .ok (.istore_n 1, 1) := by decide +kernel
theorem dX8_packs_38 : decode cX8_packs 38 = .ok (.iload_n 1, 1) := by decide +kernel
theorem dX8_packs_39 : decode cX8_packs 39 = .ok (.bipush (-5), 2) := by decide +kernel
theorem dX8_packs_41 : decode cX8_packs 41 = .ok (.if_icmp .eq 73, 3) := by decide +kernel
theorem dX8_packs_44 : decode cX8_packs 44 = .ok (.iconst 0, 1) := by decide +kernel
theorem dX8_packs_45 : decode cX8_packs 45 = .ok (.istore_n 2, 1) := by decide +kernel
theorem dX8_packs_46 : decode cX8_packs 46 = .ok (.iload_n 2, 1) := by decide +kernel
theorem dX8_packs_47 : decode cX8_packs 47 = .ok (.bipush 12, 2) := by decide +kernel
theorem dX8_packs_49 : decode cX8_packs 49 = .ok (.if_icmp .ge 34, 3) := by decide +kernel
theorem dX8_packs_52 : decode cX8_packs 52 = .ok (.aload_n 0, 1) := by decide +kernel
theorem dX8_packs_53 : decode cX8_packs 53 = .ok (.iload_n 2, 1) := by decide +kernel
theorem dX8_packs_54 : decode cX8_packs 54 = .ok (.aload_n 0, 1) := by decide +kernel
theorem dX8_packs_55 : decode cX8_packs 55 = .ok (.iload_n 1, 1) := by decide +kernel
theorem dX8_packs_56 : decode cX8_packs 56 = .ok (.iconst 2, 1) := by decide +kernel
theorem dX8_packs_57 : decode cX8_packs 57 = .ok (.invokevirtual 48, 3) := by decide +kernel
theorem dX8_packs_60 : decode cX8_packs 60 = .ok (.aload_n 0, 1) := by decide +kernel
theorem dX8_packs_61 : decode cX8_packs 61 = .ok (.iload_n 1, 1) := by decide +kernel
theorem dX8_packs_62 : decode cX8_packs 62 = .ok (.invokevirtual 56, 3) := by decide +kernel
theorem dX8_packs_65 : decode cX8_packs 65 = .ok (.iconst 1, 1) := by decide +kernel
theorem dX8_packs_66 : decode cX8_packs 66 = .ok (.isub, 1) := by decide +kernel
theorem dX8_packs_67 : decode cX8_packs 67 = .ok (.bipush (-5), 2) := by decide +kernel
theorem dX8_packs_69 : decode cX8_packs 69 = .ok (.invokevirtual 62, 3) := by decide +kernel
theorem dX8_packs_72 : decode cX8_packs 72 = .ok (.bipush (-5), 2) := by decide +kernel
theorem dX8_packs_74 : decode cX8_packs 74 = .ok (.if_icmp .eq 9, 3) := by decide +kernel
theorem dX8_packs_77 : decode cX8_packs 77 = .ok (.iinc 2 1, 3) := by decide +kernel
theorem dX8_packs_80 : decode cX8_packs 80 = .ok (.goto (-34), 3) := by decide +kernel
theorem dX8_packs_83 : decode cX8_packs 83 = .ok (.iload_n 2, 1) := by decide +kernel
theorem dX8_packs_84 : decode cX8_packs 84 = .ok (.bipush 12, 2) := by decide +kernel
theorem dX8_packs_86 : decode cX8_packs 86 = .ok (.if_icmp .ne 6, 3) := by decide +kernel
theorem dX8_packs_89 : decode cX8_packs 89 = .ok (.bipush (-4), 2) := by decide +kernel
theorem dX8_packs_91 : decode cX8_packs 91 = .ok (.ireturn, 1) := by decide +kernel
theorem dX8_packs_92 : decode cX8_packs 92 = .ok (.aload_n 0, 1) := by decide +kernel
theorem dX8_packs_93 : decode cX8_packs 93 = .ok (.getfield 7, 3) := by decide +kernel
theorem dX8_packs_96 : decode cX8_packs 96 = .ok (.iconst 1, 1) := by decide +kernel
theorem dX8_packs_97 : decode cX8_packs 97 = .ok (.iconst 4, 1) := by decide +kernel
theorem dX8_packs_98 : decode cX8_packs 98 = .ok (.iload_n 1, 1) := by decide +kernel
theorem dX8_packs_99 : decode cX8_packs 99 = .ok (.imul, 1) := by decide +kernel
theorem dX8_packs_100 : decode cX8_packs 100 = .ok (.iadd, 1) := by decide +kernel
theorem dX8_packs_101 : decode cX8_packs 101 = .ok (.iconst 1, 1) := by decide +kernel
theorem dX8_packs_102 : decode cX8_packs 102 = .ok (.iadd, 1) := by decide +kernel
theorem dX8_packs_103 : decode cX8_packs 103 = .ok (.iload_n 2, 1) := by decide +kernel
theorem dX8_packs_104 : decode cX8_packs 104 = .ok (.iastore, 1) := by decide +kernel
theorem dX8_packs_105 : decode cX8_packs 105 = .ok (.aload_n 0, 1) := by decide +kernel
theorem dX8_packs_106 : decode cX8_packs 106 = .ok (.iload_n 1, 1) := by decide +kernel
theorem dX8_packs_107 : decode cX8_packs 107 = .ok (.invokevirtual 154, 3) := by decide +kernel
theorem dX8_packs_110 : decode cX8_packs 110 = .ok (.istore_n 1, 1) := by decide +kernel
theorem dX8_packs_111 : decode cX8_packs 111 = .ok (.goto (-73), 3) := by decide +kernel
theorem dX8_packs_114 : decode cX8_packs 114 = .ok (.iconst 0, 1) := by decide +kernel
theorem dX8_packs_115 : decode cX8_packs 115 = .ok (.istore_n 1, 1) := by decide +kernel
theorem dX8_packs_116 : decode cX8_packs 116 = .ok (.iconst 0, 1) := by decide +kernel
theorem dX8_packs_117 : decode cX8_packs 117 = .ok (.istore_n 2, 1) := by decide +kernel
theorem dX8_packs_118 : decode cX8_packs 118 = .ok (.iload_n 2, 1) := by decide +kernel
theorem dX8_packs_119 : decode cX8_packs 119 = .ok (.aload_n 0, 1) := by decide +kernel
theorem dX8_packs_120 : decode cX8_packs 120 = .ok (.getfield 7, 3) := by decide +kernel
theorem dX8_packs_123 : decode cX8_packs 123 = .ok (.iconst 0, 1) := by decide +kernel
theorem dX8_packs_124 : decode cX8_packs 124 = .ok (.iaload, 1) := by decide +kernel
theorem dX8_packs_125 : decode cX8_packs 125 = .ok (.if_icmp .ge 38, 3) := by decide +kernel
theorem dX8_packs_128 : decode cX8_packs 128 = .ok (.iload_n 1, 1) := by decide +kernel
theorem dX8_packs_129 : decode cX8_packs 129 = .ok (.aload_n 0, 1) := by decide +kernel
theorem dX8_packs_130 : decode cX8_packs 130 = .ok (.iload_n 2, 1) := by decide +kernel
theorem dX8_packs_131 : decode cX8_packs 131 = .ok (.iconst 1, 1) := by decide +kernel
theorem dX8_packs_132 : decode cX8_packs 132 = .ok (.invokevirtual 48, 3) := by decide +kernel
theorem dX8_packs_135 : decode cX8_packs 135 = .ok (.aload_n 0, 1) := by decide +kernel
theorem dX8_packs_136 : decode cX8_packs 136 = .ok (.getfield 13, 3) := by decide +kernel
theorem dX8_packs_139 : decode cX8_packs 139 = .ok (.iconst 1, 1) := by decide +kernel
theorem dX8_packs_140 : decode cX8_packs 140 = .ok (.iconst 4, 1) := by decide +kernel
theorem dX8_packs_141 : decode cX8_packs 141 = .ok (.iload_n 2, 1) := by decide +kernel
theorem dX8_packs_142 : decode cX8_packs 142 = .ok (.imul, 1) := by decide +kernel
theorem dX8_packs_143 : decode cX8_packs 143 = .ok (.iadd, 1) := by decide +kernel
theorem dX8_packs_144 : decode cX8_packs 144 = .ok (.iconst 1, 1) := by decide +kernel
theorem dX8_packs_145 : decode cX8_packs 145 = .ok (.iadd, 1) := by decide +kernel
theorem dX8_packs_146 : decode cX8_packs 146 = .ok (.iaload, 1) := by decide +kernel
theorem dX8_packs_147 : decode cX8_packs 147 = .ok (.if_icmp .ne 7, 3) := by decide +kernel
theorem dX8_packs_150 : decode cX8_packs 150 = .ok (.iconst 0, 1) := by decide +kernel
theorem dX8_packs_151 : decode cX8_packs 151 = .ok (.goto 4, 3) := by decide +kernel
theorem dX8_packs_154 : decode cX8_packs 154 = .ok (.iconst 1, 1) := by decide +kernel
theorem dX8_packs_155 : decode cX8_packs 155 = .ok (.iadd, 1) := by decide +kernel
theorem dX8_packs_156 : decode cX8_packs 156 = .ok (.istore_n 1, 1) := by decide +kernel
theorem dX8_packs_157 : decode cX8_packs 157 = .ok (.iinc 2 1, 3) := by decide +kernel
theorem dX8_packs_160 : decode cX8_packs 160 = .ok (.goto (-42), 3) := by decide +kernel
theorem dX8_packs_163 : decode cX8_packs 163 = .ok (.iload_n 1, 1) := by decide +kernel
theorem dX8_packs_164 : decode cX8_packs 164 = .ok (.ifCond .ne 8, 3) := by decide +kernel
theorem dX8_packs_167 : decode cX8_packs 167 = .ok (.bipush (-5), 2) := by decide +kernel
theorem dX8_packs_169 : decode cX8_packs 169 = .ok (.goto 7, 3) := by decide +kernel
theorem dX8_packs_172 : decode cX8_packs 172 = .ok (.aload_n 0, 1) := by decide +kernel
theorem dX8_packs_173 : decode cX8_packs 173 = .ok (.invokevirtual 157, 3) := by decide +kernel
theorem dX8_packs_176 : decode cX8_packs 176 = .ok (.ireturn, 1) := by decide +kernel
theorem dX8_slipsBy_0 : decode cX8_slipsBy 0 = .ok (.aload_n 0, 1) := by decide +kernel
theorem dX8_slipsBy_1 : decode cX8_slipsBy 1 = .ok (.iload_n 1, 1) := by decide +kernel
theorem dX8_slipsBy_2 : decode cX8_slipsBy 2 = .ok (.invokevirtual 52, 3) := by decide +kernel
theorem dX8_slipsBy_5 : decode cX8_slipsBy 5 = .ok (.istore_n 3, 1) := by decide +kernel
theorem dX8_slipsBy_6 : decode cX8_slipsBy 6 = .ok (.iload_n 3, 1) := by decide +kernel
theorem dX8_slipsBy_7 : decode cX8_slipsBy 7 = .ok (.bipush (-5), 2) := by decide +kernel
theorem dX8_slipsBy_9 : decode cX8_slipsBy 9 = .ok (.if_icmp .ne 5, 3) := by decide +kernel
theorem dX8_slipsBy_12 : decode cX8_slipsBy 12 = .ok (.iconst (-1), 1) := by decide +kernel
theorem dX8_slipsBy_13 : decode cX8_slipsBy 13 = .ok (.ireturn, 1) := by decide +kernel
theorem dX8_slipsBy_14 : decode cX8_slipsBy 14 = .ok (.iload_n 2, 1) := by decide +kernel
theorem dX8_slipsBy_15 : decode cX8_slipsBy 15 = .ok (.iconst 1, 1) := by decide +kernel
theorem dX8_slipsBy_16 : decode cX8_slipsBy 16 = .ok (.bipush 30, 2) := by decide +kernel
theorem dX8_slipsBy_18 : decode cX8_slipsBy 18 = .ok (.invokestatic 79, 3) := by decide +kernel
theorem dX8_slipsBy_21 : decode cX8_slipsBy 21 = .ok (.ifCond .ne 6, 3) := by decide +kernel
theorem dX8_slipsBy_24 : decode cX8_slipsBy 24 = .ok (.bipush (-2), 2) := by decide +kernel
theorem dX8_slipsBy_26 : decode cX8_slipsBy 26 = .ok (.ireturn, 1) := by decide +kernel
theorem dX8_slipsBy_27 : decode cX8_slipsBy 27 = .ok (.aload_n 0, 1) := by decide +kernel
theorem dX8_slipsBy_28 : decode cX8_slipsBy 28 = .ok (.iload_n 3, 1) := by decide +kernel
theorem dX8_slipsBy_29 : decode cX8_slipsBy 29 = .ok (.iload_n 2, 1) := by decide +kernel
theorem dX8_slipsBy_30 : decode cX8_slipsBy 30 = .ok (.invokevirtual 160, 3) := by decide +kernel
theorem dX8_slipsBy_33 : decode cX8_slipsBy 33 = .ok (.istore 4, 2) := by decide +kernel
theorem dX8_slipsBy_35 : decode cX8_slipsBy 35 = .ok (.aload_n 0, 1) := by decide +kernel
theorem dX8_slipsBy_36 : decode cX8_slipsBy 36 = .ok (.invokevirtual 111, 3) := by decide +kernel
theorem dX8_slipsBy_39 : decode cX8_slipsBy 39 = .ok (.sipush 200, 3) := by decide +kernel
theorem dX8_slipsBy_42 : decode cX8_slipsBy 42 = .ok (.if_icmp .le 8, 3) := by decide +kernel
theorem dX8_slipsBy_45 : decode cX8_slipsBy 45 = .ok (.bipush (-4), 2) := by decide +kernel
theorem dX8_slipsBy_47 : decode cX8_slipsBy 47 = .ok (.goto 5, 3) := by decide +kernel
theorem dX8_slipsBy_50 : decode cX8_slipsBy 50 = .ok (.iload 4, 2) := by decide +kernel
theorem dX8_slipsBy_52 : decode cX8_slipsBy 52 = .ok (.ireturn, 1) := by decide +kernel
theorem dX8_pulls_0 : decode cX8_pulls 0 = .ok (.aload_n 0, 1) := by decide +kernel
theorem dX8_pulls_1 : decode cX8_pulls 1 = .ok (.iload_n 1, 1) := by decide +kernel
theorem dX8_pulls_2 : decode cX8_pulls 2 = .ok (.invokevirtual 52, 3) := by decide +kernel
theorem dX8_pulls_5 : decode cX8_pulls 5 = .ok (.istore_n 2, 1) := by decide +kernel
theorem dX8_pulls_6 : decode cX8_pulls 6 = .ok (.iload_n 2, 1) := by decide +kernel
theorem dX8_pulls_7 : decode cX8_pulls 7 = .ok (.bipush (-5), 2) := by decide +kernel
theorem dX8_pulls_9 : decode cX8_pulls 9 = .ok (.if_icmp .ne 5, 3) := by decide +kernel
theorem dX8_pulls_12 : decode cX8_pulls 12 = .ok (.iconst (-1), 1) := by decide +kernel
theorem dX8_pulls_13 : decode cX8_pulls 13 = .ok (.ireturn, 1) := by decide +kernel
theorem dX8_pulls_14 : decode cX8_pulls 14 = .ok (.aload_n 0, 1) := by decide +kernel
theorem dX8_pulls_15 : decode cX8_pulls 15 = .ok (.invokevirtual 124, 3) := by decide +kernel
theorem dX8_pulls_18 : decode cX8_pulls 18 = .ok (.iconst 0, 1) := by decide +kernel
theorem dX8_pulls_19 : decode cX8_pulls 19 = .ok (.istore_n 3, 1) := by decide +kernel
theorem dX8_pulls_20 : decode cX8_pulls 20 = .ok (.iconst 0, 1) := by decide +kernel
theorem dX8_pulls_21 : decode cX8_pulls 21 = .ok (.istore 4, 2) := by decide +kernel
theorem dX8_pulls_23 : decode cX8_pulls 23 = .ok (.iload 4, 2) := by decide +kernel
theorem dX8_pulls_25 : decode cX8_pulls 25 = .ok (.aload_n 0, 1) := by decide +kernel
theorem dX8_pulls_26 : decode cX8_pulls 26 = .ok (.getfield 7, 3) := by decide +kernel
theorem dX8_pulls_29 : decode cX8_pulls 29 = .ok (.iconst 0, 1) := by decide +kernel
theorem dX8_pulls_30 : decode cX8_pulls 30 = .ok (.iaload, 1) := by decide +kernel
theorem dX8_pulls_31 : decode cX8_pulls 31 = .ok (.if_icmp .ge 39, 3) := by decide +kernel
theorem dX8_pulls_34 : decode cX8_pulls 34 = .ok (.aload_n 0, 1) := by decide +kernel
theorem dX8_pulls_35 : decode cX8_pulls 35 = .ok (.getfield 28, 3) := by decide +kernel
theorem dX8_pulls_38 : decode cX8_pulls 38 = .ok (.bipush 30, 2) := by decide +kernel
theorem dX8_pulls_40 : decode cX8_pulls 40 = .ok (.iload 4, 2) := by decide +kernel
theorem dX8_pulls_42 : decode cX8_pulls 42 = .ok (.imul, 1) := by decide +kernel
theorem dX8_pulls_43 : decode cX8_pulls 43 = .ok (.iload_n 2, 1) := by decide +kernel
theorem dX8_pulls_44 : decode cX8_pulls 44 = .ok (.iadd, 1) := by decide +kernel
theorem dX8_pulls_45 : decode cX8_pulls 45 = .ok (.baload, 1) := by decide +kernel
theorem dX8_pulls_46 : decode cX8_pulls 46 = .ok (.ifCond .eq 16, 3) := by decide +kernel
theorem dX8_pulls_49 : decode cX8_pulls 49 = .ok (.iload_n 3, 1) := by decide +kernel
theorem dX8_pulls_50 : decode cX8_pulls 50 = .ok (.aload_n 0, 1) := by decide +kernel
theorem dX8_pulls_51 : decode cX8_pulls 51 = .ok (.iload 4, 2) := by decide +kernel
theorem dX8_pulls_53 : decode cX8_pulls 53 = .ok (.invokevirtual 56, 3) := by decide +kernel
theorem dX8_pulls_56 : decode cX8_pulls 56 = .ok (.invokestatic 59, 3) := by decide +kernel
theorem dX8_pulls_59 : decode cX8_pulls 59 = .ok (.goto 4, 3) := by decide +kernel
theorem dX8_pulls_62 : decode cX8_pulls 62 = .ok (.iload_n 3, 1) := by decide +kernel
theorem dX8_pulls_63 : decode cX8_pulls 63 = .ok (.istore_n 3, 1) := by decide +kernel
theorem dX8_pulls_64 : decode cX8_pulls 64 = .ok (.iinc 4 1, 3) := by decide +kernel
theorem dX8_pulls_67 : decode cX8_pulls 67 = .ok (.goto (-44), 3) := by decide +kernel
theorem dX8_pulls_70 : decode cX8_pulls 70 = .ok (.aload_n 0, 1) := by decide +kernel
theorem dX8_pulls_71 : decode cX8_pulls 71 = .ok (.iload_n 2, 1) := by decide +kernel
theorem dX8_pulls_72 : decode cX8_pulls 72 = .ok (.iconst 2, 1) := by decide +kernel
theorem dX8_pulls_73 : decode cX8_pulls 73 = .ok (.invokevirtual 48, 3) := by decide +kernel
theorem dX8_pulls_76 : decode cX8_pulls 76 = .ok (.iload_n 3, 1) := by decide +kernel
theorem dX8_pulls_77 : decode cX8_pulls 77 = .ok (.isub, 1) := by decide +kernel
theorem dX8_pulls_78 : decode cX8_pulls 78 = .ok (.istore 4, 2) := by decide +kernel
theorem dX8_pulls_80 : decode cX8_pulls 80 = .ok (.aload_n 0, 1) := by decide +kernel
theorem dX8_pulls_81 : decode cX8_pulls 81 = .ok (.getfield 7, 3) := by decide +kernel
theorem dX8_pulls_84 : decode cX8_pulls 84 = .ok (.iconst 1, 1) := by decide +kernel
theorem dX8_pulls_85 : decode cX8_pulls 85 = .ok (.iconst 4, 1) := by decide +kernel
theorem dX8_pulls_86 : decode cX8_pulls 86 = .ok (.iload_n 2, 1) := by decide +kernel
theorem dX8_pulls_87 : decode cX8_pulls 87 = .ok (.imul, 1) := by decide +kernel
theorem dX8_pulls_88 : decode cX8_pulls 88 = .ok (.iadd, 1) := by decide +kernel
theorem dX8_pulls_89 : decode cX8_pulls 89 = .ok (.iconst 2, 1) := by decide +kernel
theorem dX8_pulls_90 : decode cX8_pulls 90 = .ok (.iadd, 1) := by decide +kernel
theorem dX8_pulls_91 : decode cX8_pulls 91 = .ok (.iload_n 3, 1) := by decide +kernel
theorem dX8_pulls_92 : decode cX8_pulls 92 = .ok (.iastore, 1) := by decide +kernel
theorem dX8_pulls_93 : decode cX8_pulls 93 = .ok (.iload 4, 2) := by decide +kernel
theorem dX8_pulls_95 : decode cX8_pulls 95 = .ok (.ifCond .ne 8, 3) := by decide +kernel
theorem dX8_pulls_98 : decode cX8_pulls 98 = .ok (.bipush (-5), 2) := by decide +kernel
theorem dX8_pulls_100 : decode cX8_pulls 100 = .ok (.goto 5, 3) := by decide +kernel
theorem dX8_pulls_103 : decode cX8_pulls 103 = .ok (.iload 4, 2) := by decide +kernel
theorem dX8_pulls_105 : decode cX8_pulls 105 = .ok (.ireturn, 1) := by decide +kernel
theorem dX8_widens_0 : decode cX8_widens 0 = .ok (.iload_n 1, 1) := by decide +kernel
theorem dX8_widens_1 : decode cX8_widens 1 = .ok (.iconst 0, 1) := by decide +kernel
theorem dX8_widens_2 : decode cX8_widens 2 = .ok (.sipush 199, 3) := by decide +kernel
theorem dX8_widens_5 : decode cX8_widens 5 = .ok (.invokestatic 79, 3) := by decide +kernel
theorem dX8_widens_8 : decode cX8_widens 8 = .ok (.ifCond .eq 24, 3) := by decide +kernel
theorem dX8_widens_11 : decode cX8_widens 11 = .ok (.iload_n 2, 1) := by decide +kernel
theorem dX8_widens_12 : decode cX8_widens 12 = .ok (.iload_n 1, 1) := by decide +kernel
theorem dX8_widens_13 : decode cX8_widens 13 = .ok (.sipush 199, 3) := by decide +kernel
theorem dX8_widens_16 : decode cX8_widens 16 = .ok (.invokestatic 79, 3) := by decide +kernel
theorem dX8_widens_19 : decode cX8_widens 19 = .ok (.ifCond .eq 13, 3) := by decide +kernel
theorem dX8_widens_22 : decode cX8_widens 22 = .ok (.iload_n 3, 1) := by decide +kernel
theorem dX8_widens_23 : decode cX8_widens 23 = .ok (.iconst 1, 1) := by decide +kernel
theorem dX8_widens_24 : decode cX8_widens 24 = .ok (.bipush 9, 2) := by decide +kernel
theorem dX8_widens_26 : decode cX8_widens 26 = .ok (.invokestatic 79, 3) := by decide +kernel
theorem dX8_widens_29 : decode cX8_widens 29 = .ok (.ifCond .ne 6, 3) := by decide +kernel
theorem dX8_widens_32 : decode cX8_widens 32 = .ok (.bipush (-2), 2) := by decide +kernel
theorem dX8_widens_34 : decode cX8_widens 34 = .ok (.ireturn, 1) := by decide +kernel
theorem dX8_widens_35 : decode cX8_widens 35 = .ok (.iconst 0, 1) := by decide +kernel
theorem dX8_widens_36 : decode cX8_widens 36 = .ok (.istore 4, 2) := by decide +kernel
theorem dX8_widens_38 : decode cX8_widens 38 = .ok (.iload_n 1, 1) := by decide +kernel
theorem dX8_widens_39 : decode cX8_widens 39 = .ok (.istore 5, 2) := by decide +kernel
theorem dX8_widens_41 : decode cX8_widens 41 = .ok (.iload 5, 2) := by decide +kernel
theorem dX8_widens_43 : decode cX8_widens 43 = .ok (.iload_n 2, 1) := by decide +kernel
theorem dX8_widens_44 : decode cX8_widens 44 = .ok (.if_icmp .gt 46, 3) := by decide +kernel
theorem dX8_widens_47 : decode cX8_widens 47 = .ok (.iload 4, 2) := by decide +kernel
theorem dX8_widens_49 : decode cX8_widens 49 = .ok (.aload_n 0, 1) := by decide +kernel
theorem dX8_widens_50 : decode cX8_widens 50 = .ok (.getfield 7, 3) := by decide +kernel
theorem dX8_widens_53 : decode cX8_widens 53 = .ok (.sipush 242, 3) := by decide +kernel
theorem dX8_widens_56 : decode cX8_widens 56 = .ok (.iload 5, 2) := by decide +kernel
theorem dX8_widens_58 : decode cX8_widens 58 = .ok (.iadd, 1) := by decide +kernel
theorem dX8_widens_59 : decode cX8_widens 59 = .ok (.iaload, 1) := by decide +kernel
theorem dX8_widens_60 : decode cX8_widens 60 = .ok (.iload_n 3, 1) := by decide +kernel
theorem dX8_widens_61 : decode cX8_widens 61 = .ok (.if_icmp .ne 7, 3) := by decide +kernel
theorem dX8_widens_64 : decode cX8_widens 64 = .ok (.iconst 0, 1) := by decide +kernel
theorem dX8_widens_65 : decode cX8_widens 65 = .ok (.goto 4, 3) := by decide +kernel
theorem dX8_widens_68 : decode cX8_widens 68 = .ok (.iconst 1, 1) := by decide +kernel
theorem dX8_widens_69 : decode cX8_widens 69 = .ok (.iadd, 1) := by decide +kernel
theorem dX8_widens_70 : decode cX8_widens 70 = .ok (.istore 4, 2) := by decide +kernel
theorem dX8_widens_72 : decode cX8_widens 72 = .ok (.aload_n 0, 1) := by decide +kernel
theorem dX8_widens_73 : decode cX8_widens 73 = .ok (.getfield 7, 3) := by decide +kernel
theorem dX8_widens_76 : decode cX8_widens 76 = .ok (.sipush 242, 3) := by decide +kernel
theorem dX8_widens_79 : decode cX8_widens 79 = .ok (.iload 5, 2) := by decide +kernel
theorem dX8_widens_81 : decode cX8_widens 81 = .ok (.iadd, 1) := by decide +kernel
theorem dX8_widens_82 : decode cX8_widens 82 = .ok (.iload_n 3, 1) := by decide +kernel
theorem dX8_widens_83 : decode cX8_widens 83 = .ok (.iastore, 1) := by decide +kernel
theorem dX8_widens_84 : decode cX8_widens 84 = .ok (.iinc 5 1, 3) := by decide +kernel
theorem dX8_widens_87 : decode cX8_widens 87 = .ok (.goto (-46), 3) := by decide +kernel
theorem dX8_widens_90 : decode cX8_widens 90 = .ok (.iload 4, 2) := by decide +kernel
theorem dX8_widens_92 : decode cX8_widens 92 = .ok (.ifCond .ne 8, 3) := by decide +kernel
theorem dX8_widens_95 : decode cX8_widens 95 = .ok (.bipush (-5), 2) := by decide +kernel
theorem dX8_widens_97 : decode cX8_widens 97 = .ok (.goto 5, 3) := by decide +kernel
theorem dX8_widens_100 : decode cX8_widens 100 = .ok (.iload 4, 2) := by decide +kernel
theorem dX8_widens_102 : decode cX8_widens 102 = .ok (.ireturn, 1) := by decide +kernel
theorem dX8_sets_0 : decode cX8_sets 0 = .ok (.iload_n 1, 1) := by decide +kernel
theorem dX8_sets_1 : decode cX8_sets 1 = .ok (.iconst 0, 1) := by decide +kernel
theorem dX8_sets_2 : decode cX8_sets 2 = .ok (.iconst 1, 1) := by decide +kernel
theorem dX8_sets_3 : decode cX8_sets 3 = .ok (.invokestatic 79, 3) := by decide +kernel
theorem dX8_sets_6 : decode cX8_sets 6 = .ok (.ifCond .eq 31, 3) := by decide +kernel
theorem dX8_sets_9 : decode cX8_sets 9 = .ok (.iload_n 2, 1) := by decide +kernel
theorem dX8_sets_10 : decode cX8_sets 10 = .ok (.iload_n 1, 1) := by decide +kernel
theorem dX8_sets_11 : decode cX8_sets 11 = .ok (.ifCond .ne 7, 3) := by decide +kernel
theorem dX8_sets_14 : decode cX8_sets 14 = .ok (.iconst 0, 1) := by decide +kernel
theorem dX8_sets_15 : decode cX8_sets 15 = .ok (.goto 5, 3) := by decide +kernel
theorem dX8_sets_18 : decode cX8_sets 18 = .ok (.bipush 10, 2) := by decide +kernel
theorem dX8_sets_20 : decode cX8_sets 20 = .ok (.iload_n 1, 1) := by decide +kernel
theorem dX8_sets_21 : decode cX8_sets 21 = .ok (.ifCond .ne 7, 3) := by decide +kernel
theorem dX8_sets_24 : decode cX8_sets 24 = .ok (.iconst 2, 1) := by decide +kernel
theorem dX8_sets_25 : decode cX8_sets 25 = .ok (.goto 6, 3) := by decide +kernel
theorem dX8_sets_28 : decode cX8_sets 28 = .ok (.sipush 999, 3) := by decide +kernel
theorem dX8_sets_31 : decode cX8_sets 31 = .ok (.invokestatic 79, 3) := by decide +kernel
theorem dX8_sets_34 : decode cX8_sets 34 = .ok (.ifCond .ne 6, 3) := by decide +kernel
theorem dX8_sets_37 : decode cX8_sets 37 = .ok (.bipush (-2), 2) := by decide +kernel
theorem dX8_sets_39 : decode cX8_sets 39 = .ok (.ireturn, 1) := by decide +kernel
theorem dX8_sets_40 : decode cX8_sets 40 = .ok (.aload_n 0, 1) := by decide +kernel
theorem dX8_sets_41 : decode cX8_sets 41 = .ok (.getfield 7, 3) := by decide +kernel
theorem dX8_sets_44 : decode cX8_sets 44 = .ok (.sipush 442, 3) := by decide +kernel
theorem dX8_sets_47 : decode cX8_sets 47 = .ok (.iload_n 1, 1) := by decide +kernel
theorem dX8_sets_48 : decode cX8_sets 48 = .ok (.iadd, 1) := by decide +kernel
theorem dX8_sets_49 : decode cX8_sets 49 = .ok (.iaload, 1) := by decide +kernel
theorem dX8_sets_50 : decode cX8_sets 50 = .ok (.istore_n 3, 1) := by decide +kernel
theorem dX8_sets_51 : decode cX8_sets 51 = .ok (.aload_n 0, 1) := by decide +kernel
theorem dX8_sets_52 : decode cX8_sets 52 = .ok (.getfield 7, 3) := by decide +kernel
theorem dX8_sets_55 : decode cX8_sets 55 = .ok (.sipush 442, 3) := by decide +kernel
theorem dX8_sets_58 : decode cX8_sets 58 = .ok (.iload_n 1, 1) := by decide +kernel
theorem dX8_sets_59 : decode cX8_sets 59 = .ok (.iadd, 1) := by decide +kernel
theorem dX8_sets_60 : decode cX8_sets 60 = .ok (.iload_n 2, 1) := by decide +kernel
theorem dX8_sets_61 : decode cX8_sets 61 = .ok (.iastore, 1) := by decide +kernel
theorem dX8_sets_62 : decode cX8_sets 62 = .ok (.iload_n 3, 1) := by decide +kernel
theorem dX8_sets_63 : decode cX8_sets 63 = .ok (.iload_n 2, 1) := by decide +kernel
theorem dX8_sets_64 : decode cX8_sets 64 = .ok (.if_icmp .ne 8, 3) := by decide +kernel
theorem dX8_sets_67 : decode cX8_sets 67 = .ok (.bipush (-5), 2) := by decide +kernel
theorem dX8_sets_69 : decode cX8_sets 69 = .ok (.goto 4, 3) := by decide +kernel
theorem dX8_sets_72 : decode cX8_sets 72 = .ok (.iload_n 3, 1) := by decide +kernel
theorem dX8_sets_73 : decode cX8_sets 73 = .ok (.ireturn, 1) := by decide +kernel
theorem dX8_bar_0 : decode cX8_bar 0 = .ok (.aload_n 0, 1) := by decide +kernel
theorem dX8_bar_1 : decode cX8_bar 1 = .ok (.invokevirtual 163, 3) := by decide +kernel
theorem dX8_bar_4 : decode cX8_bar 4 = .ok (.aload_n 0, 1) := by decide +kernel
theorem dX8_bar_5 : decode cX8_bar 5 = .ok (.aload_n 0, 1) := by decide +kernel
theorem dX8_bar_6 : decode cX8_bar 6 = .ok (.iload_n 1, 1) := by decide +kernel
theorem dX8_bar_7 : decode cX8_bar 7 = .ok (.iload_n 2, 1) := by decide +kernel
theorem dX8_bar_8 : decode cX8_bar 8 = .ok (.iload_n 3, 1) := by decide +kernel
theorem dX8_bar_9 : decode cX8_bar 9 = .ok (.invokevirtual 166, 3) := by decide +kernel
theorem dX8_bar_12 : decode cX8_bar 12 = .ok (.invokevirtual 170, 3) := by decide +kernel
theorem dX8_bar_15 : decode cX8_bar 15 = .ok (.ireturn, 1) := by decide +kernel
theorem dX8_arrow_0 : decode cX8_arrow 0 = .ok (.aload_n 0, 1) := by decide +kernel
theorem dX8_arrow_1 : decode cX8_arrow 1 = .ok (.invokevirtual 163, 3) := by decide +kernel
theorem dX8_arrow_4 : decode cX8_arrow 4 = .ok (.aload_n 0, 1) := by decide +kernel
theorem dX8_arrow_5 : decode cX8_arrow 5 = .ok (.aload_n 0, 1) := by decide +kernel
theorem dX8_arrow_6 : decode cX8_arrow 6 = .ok (.iload_n 1, 1) := by decide +kernel
theorem dX8_arrow_7 : decode cX8_arrow 7 = .ok (.iload_n 2, 1) := by decide +kernel
theorem dX8_arrow_8 : decode cX8_arrow 8 = .ok (.invokevirtual 173, 3) := by decide +kernel
theorem dX8_arrow_11 : decode cX8_arrow 11 = .ok (.invokevirtual 170, 3) := by decide +kernel
theorem dX8_arrow_14 : decode cX8_arrow 14 = .ok (.ireturn, 1) := by decide +kernel
theorem dX8_takeBar_0 : decode cX8_takeBar 0 = .ok (.aload_n 0, 1) := by decide +kernel
theorem dX8_takeBar_1 : decode cX8_takeBar 1 = .ok (.invokevirtual 163, 3) := by decide +kernel
theorem dX8_takeBar_4 : decode cX8_takeBar 4 = .ok (.aload_n 0, 1) := by decide +kernel
theorem dX8_takeBar_5 : decode cX8_takeBar 5 = .ok (.aload_n 0, 1) := by decide +kernel
theorem dX8_takeBar_6 : decode cX8_takeBar 6 = .ok (.iload_n 1, 1) := by decide +kernel
theorem dX8_takeBar_7 : decode cX8_takeBar 7 = .ok (.invokevirtual 176, 3) := by decide +kernel
theorem dX8_takeBar_10 : decode cX8_takeBar 10 = .ok (.invokevirtual 170, 3) := by decide +kernel
theorem dX8_takeBar_13 : decode cX8_takeBar 13 = .ok (.ireturn, 1) := by decide +kernel
theorem dX8_takeArrow_0 : decode cX8_takeArrow 0 = .ok (.aload_n 0, 1) := by decide +kernel
theorem dX8_takeArrow_1 : decode cX8_takeArrow 1 = .ok (.invokevirtual 163, 3) := by decide +kernel
theorem dX8_takeArrow_4 : decode cX8_takeArrow 4 = .ok (.aload_n 0, 1) := by decide +kernel
theorem dX8_takeArrow_5 : decode cX8_takeArrow 5 = .ok (.aload_n 0, 1) := by decide +kernel
theorem dX8_takeArrow_6 : decode cX8_takeArrow 6 = .ok (.iload_n 1, 1) := by decide +kernel
theorem dX8_takeArrow_7 : decode cX8_takeArrow 7 = .ok (.invokevirtual 179, 3) := by decide +kernel
theorem dX8_takeArrow_10 : decode cX8_takeArrow 10 = .ok (.invokevirtual 170, 3) := by decide +kernel
theorem dX8_takeArrow_13 : decode cX8_takeArrow 13 = .ok (.ireturn, 1) := by decide +kernel
theorem dX8_move_0 : decode cX8_move 0 = .ok (.aload_n 0, 1) := by decide +kernel
theorem dX8_move_1 : decode cX8_move 1 = .ok (.invokevirtual 163, 3) := by decide +kernel
theorem dX8_move_4 : decode cX8_move 4 = .ok (.aload_n 0, 1) := by decide +kernel
theorem dX8_move_5 : decode cX8_move 5 = .ok (.aload_n 0, 1) := by decide +kernel
theorem dX8_move_6 : decode cX8_move 6 = .ok (.iload_n 1, 1) := by decide +kernel
theorem dX8_move_7 : decode cX8_move 7 = .ok (.iload_n 2, 1) := by decide +kernel
theorem dX8_move_8 : decode cX8_move 8 = .ok (.iload_n 3, 1) := by decide +kernel
theorem dX8_move_9 : decode cX8_move 9 = .ok (.invokevirtual 182, 3) := by decide +kernel
theorem dX8_move_12 : decode cX8_move 12 = .ok (.invokevirtual 170, 3) := by decide +kernel
theorem dX8_move_15 : decode cX8_move 15 = .ok (.ireturn, 1) := by decide +kernel
theorem dX8_swap_0 : decode cX8_swap 0 = .ok (.aload_n 0, 1) := by decide +kernel
theorem dX8_swap_1 : decode cX8_swap 1 = .ok (.invokevirtual 163, 3) := by decide +kernel
theorem dX8_swap_4 : decode cX8_swap 4 = .ok (.aload_n 0, 1) := by decide +kernel
theorem dX8_swap_5 : decode cX8_swap 5 = .ok (.aload_n 0, 1) := by decide +kernel
theorem dX8_swap_6 : decode cX8_swap 6 = .ok (.iload_n 1, 1) := by decide +kernel
theorem dX8_swap_7 : decode cX8_swap 7 = .ok (.iload_n 2, 1) := by decide +kernel
theorem dX8_swap_8 : decode cX8_swap 8 = .ok (.invokevirtual 185, 3) := by decide +kernel
theorem dX8_swap_11 : decode cX8_swap 11 = .ok (.invokevirtual 170, 3) := by decide +kernel
theorem dX8_swap_14 : decode cX8_swap 14 = .ok (.ireturn, 1) := by decide +kernel
theorem dX8_pack_0 : decode cX8_pack 0 = .ok (.aload_n 0, 1) := by decide +kernel
theorem dX8_pack_1 : decode cX8_pack 1 = .ok (.invokevirtual 163, 3) := by decide +kernel
theorem dX8_pack_4 : decode cX8_pack 4 = .ok (.aload_n 0, 1) := by decide +kernel
theorem dX8_pack_5 : decode cX8_pack 5 = .ok (.aload_n 0, 1) := by decide +kernel
theorem dX8_pack_6 : decode cX8_pack 6 = .ok (.invokevirtual 188, 3) := by decide +kernel
theorem dX8_pack_9 : decode cX8_pack 9 = .ok (.invokevirtual 170, 3) := by decide +kernel
theorem dX8_pack_12 : decode cX8_pack 12 = .ok (.ireturn, 1) := by decide +kernel
theorem dX8_slip_0 : decode cX8_slip 0 = .ok (.aload_n 0, 1) := by decide +kernel
theorem dX8_slip_1 : decode cX8_slip 1 = .ok (.invokevirtual 163, 3) := by decide +kernel
theorem dX8_slip_4 : decode cX8_slip 4 = .ok (.aload_n 0, 1) := by decide +kernel
theorem dX8_slip_5 : decode cX8_slip 5 = .ok (.aload_n 0, 1) := by decide +kernel
theorem dX8_slip_6 : decode cX8_slip 6 = .ok (.iload_n 1, 1) := by decide +kernel
theorem dX8_slip_7 : decode cX8_slip 7 = .ok (.iload_n 2, 1) := by decide +kernel
theorem dX8_slip_8 : decode cX8_slip 8 = .ok (.invokevirtual 191, 3) := by decide +kernel
theorem dX8_slip_11 : decode cX8_slip 11 = .ok (.invokevirtual 170, 3) := by decide +kernel
theorem dX8_slip_14 : decode cX8_slip 14 = .ok (.ireturn, 1) := by decide +kernel
theorem dX8_pull_0 : decode cX8_pull 0 = .ok (.aload_n 0, 1) := by decide +kernel
theorem dX8_pull_1 : decode cX8_pull 1 = .ok (.invokevirtual 163, 3) := by decide +kernel
theorem dX8_pull_4 : decode cX8_pull 4 = .ok (.aload_n 0, 1) := by decide +kernel
theorem dX8_pull_5 : decode cX8_pull 5 = .ok (.aload_n 0, 1) := by decide +kernel
theorem dX8_pull_6 : decode cX8_pull 6 = .ok (.iload_n 1, 1) := by decide +kernel
theorem dX8_pull_7 : decode cX8_pull 7 = .ok (.invokevirtual 194, 3) := by decide +kernel
theorem dX8_pull_10 : decode cX8_pull 10 = .ok (.invokevirtual 170, 3) := by decide +kernel
theorem dX8_pull_13 : decode cX8_pull 13 = .ok (.ireturn, 1) := by decide +kernel
theorem dX8_width_0 : decode cX8_width 0 = .ok (.aload_n 0, 1) := by decide +kernel
theorem dX8_width_1 : decode cX8_width 1 = .ok (.invokevirtual 163, 3) := by decide +kernel
theorem dX8_width_4 : decode cX8_width 4 = .ok (.aload_n 0, 1) := by decide +kernel
theorem dX8_width_5 : decode cX8_width 5 = .ok (.aload_n 0, 1) := by decide +kernel
theorem dX8_width_6 : decode cX8_width 6 = .ok (.iload_n 1, 1) := by decide +kernel
theorem dX8_width_7 : decode cX8_width 7 = .ok (.iload_n 2, 1) := by decide +kernel
theorem dX8_width_8 : decode cX8_width 8 = .ok (.iload_n 3, 1) := by decide +kernel
theorem dX8_width_9 : decode cX8_width 9 = .ok (.invokevirtual 197, 3) := by decide +kernel
theorem dX8_width_12 : decode cX8_width 12 = .ok (.invokevirtual 170, 3) := by decide +kernel
theorem dX8_width_15 : decode cX8_width 15 = .ok (.ireturn, 1) := by decide +kernel
theorem dX8_set_0 : decode cX8_set 0 = .ok (.aload_n 0, 1) := by decide +kernel
theorem dX8_set_1 : decode cX8_set 1 = .ok (.invokevirtual 163, 3) := by decide +kernel
theorem dX8_set_4 : decode cX8_set 4 = .ok (.aload_n 0, 1) := by decide +kernel
theorem dX8_set_5 : decode cX8_set 5 = .ok (.aload_n 0, 1) := by decide +kernel
theorem dX8_set_6 : decode cX8_set 6 = .ok (.iload_n 1, 1) := by decide +kernel
theorem dX8_set_7 : decode cX8_set 7 = .ok (.iload_n 2, 1) := by decide +kernel
theorem dX8_set_8 : decode cX8_set 8 = .ok (.invokevirtual 200, 3) := by decide +kernel
theorem dX8_set_11 : decode cX8_set 11 = .ok (.invokevirtual 170, 3) := by decide +kernel
theorem dX8_set_14 : decode cX8_set 14 = .ok (.ireturn, 1) := by decide +kernel
theorem dX8_type_0 : decode cX8_type 0 = .ok (.aload_n 0, 1) := by decide +kernel
theorem dX8_type_1 : decode cX8_type 1 = .ok (.getfield 203, 3) := by decide +kernel
theorem dX8_type_4 : decode cX8_type 4 = .ok (.bipush 60, 2) := by decide +kernel
theorem dX8_type_6 : decode cX8_type 6 = .ok (.if_icmp .ne 6, 3) := by decide +kernel
theorem dX8_type_9 : decode cX8_type 9 = .ok (.bipush (-3), 2) := by decide +kernel
theorem dX8_type_11 : decode cX8_type 11 = .ok (.ireturn, 1) := by decide +kernel
theorem dX8_type_12 : decode cX8_type 12 = .ok (.aload_n 0, 1) := by decide +kernel
theorem dX8_type_13 : decode cX8_type 13 = .ok (.getfield 22, 3) := by decide +kernel
theorem dX8_type_16 : decode cX8_type 16 = .ok (.aload_n 0, 1) := by decide +kernel
theorem dX8_type_17 : decode cX8_type 17 = .ok (.getfield 203, 3) := by decide +kernel
theorem dX8_type_20 : decode cX8_type 20 = .ok (.iload_n 1, 1) := by decide +kernel
theorem dX8_type_21 : decode cX8_type 21 = .ok (.iastore, 1) := by decide +kernel
theorem dX8_type_22 : decode cX8_type 22 = .ok (.aload_n 0, 1) := by decide +kernel
theorem dX8_type_23 : decode cX8_type 23 = .ok (.dup, 1) := by decide +kernel
theorem dX8_type_24 : decode cX8_type 24 = .ok (.getfield 203, 3) := by decide +kernel
theorem dX8_type_27 : decode cX8_type 27 = .ok (.iconst 1, 1) := by decide +kernel
theorem dX8_type_28 : decode cX8_type 28 = .ok (.iadd, 1) := by decide +kernel
theorem dX8_type_29 : decode cX8_type 29 = .ok (.putfield 203, 3) := by decide +kernel
theorem dX8_type_32 : decode cX8_type 32 = .ok (.aload_n 0, 1) := by decide +kernel
theorem dX8_type_33 : decode cX8_type 33 = .ok (.getfield 203, 3) := by decide +kernel
theorem dX8_type_36 : decode cX8_type 36 = .ok (.ireturn, 1) := by decide +kernel
theorem dX8_clearText_0 : decode cX8_clearText 0 = .ok (.aload_n 0, 1) := by decide +kernel
theorem dX8_clearText_1 : decode cX8_clearText 1 = .ok (.getfield 203, 3) := by decide +kernel
theorem dX8_clearText_4 : decode cX8_clearText 4 = .ok (.istore_n 1, 1) := by decide +kernel
theorem dX8_clearText_5 : decode cX8_clearText 5 = .ok (.aload_n 0, 1) := by decide +kernel
theorem dX8_clearText_6 : decode cX8_clearText 6 = .ok (.iconst 0, 1) := by decide +kernel
theorem dX8_clearText_7 : decode cX8_clearText 7 = .ok (.putfield 203, 3) := by decide +kernel
theorem dX8_clearText_10 : decode cX8_clearText 10 = .ok (.iload_n 1, 1) := by decide +kernel
theorem dX8_clearText_11 : decode cX8_clearText 11 = .ok (.ireturn, 1) := by decide +kernel
theorem dX8_sign_0 : decode cX8_sign 0 = .ok (.aload_n 0, 1) := by decide +kernel
theorem dX8_sign_1 : decode cX8_sign 1 = .ok (.getfield 206, 3) := by decide +kernel
theorem dX8_sign_4 : decode cX8_sign 4 = .ok (.aload_n 0, 1) := by decide +kernel
theorem dX8_sign_5 : decode cX8_sign 5 = .ok (.getfield 203, 3) := by decide +kernel
theorem dX8_sign_8 : decode cX8_sign 8 = .ok (.if_icmp .ge 15, 3) := by decide +kernel
theorem dX8_sign_11 : decode cX8_sign 11 = .ok (.aload_n 0, 1) := by decide +kernel
theorem dX8_sign_12 : decode cX8_sign 12 = .ok (.getfield 22, 3) := by decide +kernel
theorem dX8_sign_15 : decode cX8_sign 15 = .ok (.aload_n 0, 1) := by decide +kernel
theorem dX8_sign_16 : decode cX8_sign 16 = .ok (.getfield 206, 3) := by decide +kernel
theorem dX8_sign_19 : decode cX8_sign 19 = .ok (.iaload, 1) := by decide +kernel
theorem dX8_sign_20 : decode cX8_sign 20 = .ok (.goto 4, 3) := by decide +kernel
theorem dX8_sign_23 : decode cX8_sign 23 = .ok (.iconst 0, 1) := by decide +kernel
theorem dX8_sign_24 : decode cX8_sign 24 = .ok (.istore_n 3, 1) := by decide +kernel
theorem dX8_sign_25 : decode cX8_sign 25 = .ok (.aload_n 0, 1) := by decide +kernel
theorem dX8_sign_26 : decode cX8_sign 26 = .ok (.aload_n 0, 1) := by decide +kernel
theorem dX8_sign_27 : decode cX8_sign 27 = .ok (.getfield 209, 3) := by decide +kernel
theorem dX8_sign_30 : decode cX8_sign 30 = .ok (.ifCond .ne 23, 3) := by decide +kernel
theorem dX8_sign_33 : decode cX8_sign 33 = .ok (.aload_n 0, 1) := by decide +kernel
theorem dX8_sign_34 : decode cX8_sign 34 = .ok (.getfield 206, 3) := by decide +kernel
theorem dX8_sign_37 : decode cX8_sign 37 = .ok (.aload_n 0, 1) := by decide +kernel
theorem dX8_sign_38 : decode cX8_sign 38 = .ok (.getfield 203, 3) := by decide +kernel
theorem dX8_sign_41 : decode cX8_sign 41 = .ok (.if_icmp .ge 12, 3) := by decide +kernel
theorem dX8_sign_44 : decode cX8_sign 44 = .ok (.iload_n 3, 1) := by decide +kernel
theorem dX8_sign_45 : decode cX8_sign 45 = .ok (.iload_n 1, 1) := by decide +kernel
theorem dX8_sign_46 : decode cX8_sign 46 = .ok (.iload_n 2, 1) := by decide +kernel
theorem dX8_sign_47 : decode cX8_sign 47 = .ok (.invokestatic 79, 3) := by decide +kernel
theorem dX8_sign_50 : decode cX8_sign 50 = .ok (.ifCond .ne 7, 3) := by decide +kernel
theorem dX8_sign_53 : decode cX8_sign 53 = .ok (.iconst 1, 1) := by decide +kernel
theorem dX8_sign_54 : decode cX8_sign 54 = .ok (.goto 4, 3) := by decide +kernel
theorem dX8_sign_57 : decode cX8_sign 57 = .ok (.iconst 0, 1) := by decide +kernel
theorem dX8_sign_58 : decode cX8_sign 58 = .ok (.putfield 209, 3) := by decide +kernel
theorem dX8_sign_61 : decode cX8_sign 61 = .ok (.aload_n 0, 1) := by decide +kernel
theorem dX8_sign_62 : decode cX8_sign 62 = .ok (.dup, 1) := by decide +kernel
theorem dX8_sign_63 : decode cX8_sign 63 = .ok (.getfield 206, 3) := by decide +kernel
theorem dX8_sign_66 : decode cX8_sign 66 = .ok (.aload_n 0, 1) := by decide +kernel
theorem dX8_sign_67 : decode cX8_sign 67 = .ok (.getfield 209, 3) := by decide +kernel
theorem dX8_sign_70 : decode cX8_sign 70 = .ok (.ifCond .eq 7, 3) := by decide +kernel
theorem dX8_sign_73 : decode cX8_sign 73 = .ok (.iconst 0, 1) := by decide +kernel
theorem dX8_sign_74 : decode cX8_sign 74 = .ok (.goto 4, 3) := by decide +kernel
theorem dX8_sign_77 : decode cX8_sign 77 = .ok (.iconst 1, 1) := by decide +kernel
theorem dX8_sign_78 : decode cX8_sign 78 = .ok (.iadd, 1) := by decide +kernel
theorem dX8_sign_79 : decode cX8_sign 79 = .ok (.putfield 206, 3) := by decide +kernel
theorem dX8_sign_82 : decode cX8_sign 82 = .ok (.iload_n 3, 1) := by decide +kernel
theorem dX8_sign_83 : decode cX8_sign 83 = .ok (.ireturn, 1) := by decide +kernel
theorem dX8_isNext_0 : decode cX8_isNext 0 = .ok (.aload_n 0, 1) := by decide +kernel
theorem dX8_isNext_1 : decode cX8_isNext 1 = .ok (.getfield 209, 3) := by decide +kernel
theorem dX8_isNext_4 : decode cX8_isNext 4 = .ok (.ifCond .ne 31, 3) := by decide +kernel
theorem dX8_isNext_7 : decode cX8_isNext 7 = .ok (.aload_n 0, 1) := by decide +kernel
theorem dX8_isNext_8 : decode cX8_isNext 8 = .ok (.getfield 206, 3) := by decide +kernel
theorem dX8_isNext_11 : decode cX8_isNext 11 = .ok (.aload_n 0, 1) := by decide +kernel
theorem dX8_isNext_12 : decode cX8_isNext 12 = .ok (.getfield 203, 3) := by decide +kernel
theorem dX8_isNext_15 : decode cX8_isNext 15 = .ok (.if_icmp .ge 20, 3) := by decide +kernel
theorem dX8_isNext_18 : decode cX8_isNext 18 = .ok (.aload_n 0, 1) := by decide +kernel
theorem dX8_isNext_19 : decode cX8_isNext 19 = .ok (.getfield 22, 3) := by decide +kernel
theorem dX8_isNext_22 : decode cX8_isNext 22 = .ok (.aload_n 0, 1) := by decide +kernel
theorem dX8_isNext_23 : decode cX8_isNext 23 = .ok (.getfield 206, 3) := by decide +kernel
theorem dX8_isNext_26 : decode cX8_isNext 26 = .ok (.iaload, 1) := by decide +kernel
theorem dX8_isNext_27 : decode cX8_isNext 27 = .ok (.iload_n 1, 1) := by decide +kernel
theorem dX8_isNext_28 : decode cX8_isNext 28 = .ok (.if_icmp .ne 7, 3) := by decide +kernel
theorem dX8_isNext_31 : decode cX8_isNext 31 = .ok (.iconst 1, 1) := by decide +kernel
theorem dX8_isNext_32 : decode cX8_isNext 32 = .ok (.goto 4, 3) := by decide +kernel
theorem dX8_isNext_35 : decode cX8_isNext 35 = .ok (.iconst 0, 1) := by decide +kernel
theorem dX8_isNext_36 : decode cX8_isNext 36 = .ok (.ireturn, 1) := by decide +kernel
theorem dX8_number_0 : decode cX8_number 0 = .ok (.aload_n 0, 1) := by decide +kernel
theorem dX8_number_1 : decode cX8_number 1 = .ok (.bipush 48, 2) := by decide +kernel
theorem dX8_number_3 : decode cX8_number 3 = .ok (.iload_n 1, 1) := by decide +kernel
theorem dX8_number_4 : decode cX8_number 4 = .ok (.iadd, 1) := by decide +kernel
theorem dX8_number_5 : decode cX8_number 5 = .ok (.bipush 57, 2) := by decide +kernel
theorem dX8_number_7 : decode cX8_number 7 = .ok (.invokevirtual 213, 3) := by decide +kernel
theorem dX8_number_10 : decode cX8_number 10 = .ok (.bipush 48, 2) := by decide +kernel
theorem dX8_number_12 : decode cX8_number 12 = .ok (.isub, 1) := by decide +kernel
theorem dX8_number_13 : decode cX8_number 13 = .ok (.istore_n 3, 1) := by decide +kernel
theorem dX8_number_14 : decode cX8_number 14 = .ok (.iload_n 3, 1) := by decide +kernel
theorem dX8_number_15 : decode cX8_number 15 = .ok (.ifCond .le 92, 3) := by decide +kernel
theorem dX8_number_18 : decode cX8_number 18 = .ok (.aload_n 0, 1) := by decide +kernel
theorem dX8_number_19 : decode cX8_number 19 = .ok (.getfield 209, 3) := by decide +kernel
theorem dX8_number_22 : decode cX8_number 22 = .ok (.ifCond .ne 85, 3) := by decide +kernel
theorem dX8_number_25 : decode cX8_number 25 = .ok (.aload_n 0, 1) := by decide +kernel
theorem dX8_number_26 : decode cX8_number 26 = .ok (.getfield 206, 3) := by decide +kernel
theorem dX8_number_29 : decode cX8_number 29 = .ok (.aload_n 0, 1) := by decide +kernel
theorem dX8_number_30 : decode cX8_number 30 = .ok (.getfield 203, 3) := by decide +kernel
theorem dX8_number_33 : decode cX8_number 33 = .ok (.if_icmp .ge 74, 3) := by decide +kernel
theorem dX8_number_36 : decode cX8_number 36 = .ok (.aload_n 0, 1) := by decide +kernel
theorem dX8_number_37 : decode cX8_number 37 = .ok (.getfield 22, 3) := by decide +kernel
theorem dX8_number_40 : decode cX8_number 40 = .ok (.aload_n 0, 1) := by decide +kernel
theorem dX8_number_41 : decode cX8_number 41 = .ok (.getfield 206, 3) := by decide +kernel
theorem dX8_number_44 : decode cX8_number 44 = .ok (.iaload, 1) := by decide +kernel
theorem dX8_number_45 : decode cX8_number 45 = .ok (.bipush 48, 2) := by decide +kernel
theorem dX8_number_47 : decode cX8_number 47 = .ok (.bipush 57, 2) := by decide +kernel
theorem dX8_number_49 : decode cX8_number 49 = .ok (.invokestatic 79, 3) := by decide +kernel
theorem dX8_number_52 : decode cX8_number 52 = .ok (.ifCond .eq 55, 3) := by decide +kernel
theorem dX8_number_55 : decode cX8_number 55 = .ok (.bipush 10, 2) := by decide +kernel
theorem dX8_number_57 : decode cX8_number 57 = .ok (.iload_n 3, 1) := by decide +kernel
theorem dX8_number_58 : decode cX8_number 58 = .ok (.imul, 1) := by decide +kernel
theorem dX8_number_59 : decode cX8_number 59 = .ok (.aload_n 0, 1) := by decide +kernel
theorem dX8_number_60 : decode cX8_number 60 = .ok (.getfield 22, 3) := by decide +kernel
theorem dX8_number_63 : decode cX8_number 63 = .ok (.aload_n 0, 1) := by decide +kernel
theorem dX8_number_64 : decode cX8_number 64 = .ok (.getfield 206, 3) := by decide +kernel
theorem dX8_number_67 : decode cX8_number 67 = .ok (.iaload, 1) := by decide +kernel
theorem dX8_number_68 : decode cX8_number 68 = .ok (.iadd, 1) := by decide +kernel
theorem dX8_number_69 : decode cX8_number 69 = .ok (.bipush 48, 2) := by decide +kernel
theorem dX8_number_71 : decode cX8_number 71 = .ok (.isub, 1) := by decide +kernel
theorem dX8_number_72 : decode cX8_number 72 = .ok (.iload_n 2, 1) := by decide +kernel
theorem dX8_number_73 : decode cX8_number 73 = .ok (.if_icmp .gt 34, 3) := by decide +kernel
theorem dX8_number_76 : decode cX8_number 76 = .ok (.bipush 10, 2) := by decide +kernel
theorem dX8_number_78 : decode cX8_number 78 = .ok (.iload_n 3, 1) := by decide +kernel
theorem dX8_number_79 : decode cX8_number 79 = .ok (.imul, 1) := by decide +kernel
theorem dX8_number_80 : decode cX8_number 80 = .ok (.aload_n 0, 1) := by decide +kernel
theorem dX8_number_81 : decode cX8_number 81 = .ok (.getfield 22, 3) := by decide +kernel
theorem dX8_number_84 : decode cX8_number 84 = .ok (.aload_n 0, 1) := by decide +kernel
theorem dX8_number_85 : decode cX8_number 85 = .ok (.getfield 206, 3) := by decide +kernel
theorem dX8_number_88 : decode cX8_number 88 = .ok (.iaload, 1) := by decide +kernel
theorem dX8_number_89 : decode cX8_number 89 = .ok (.iadd, 1) := by decide +kernel
theorem dX8_number_90 : decode cX8_number 90 = .ok (.bipush 48, 2) := by decide +kernel
theorem dX8_number_92 : decode cX8_number 92 = .ok (.isub, 1) := by decide +kernel
theorem dX8_number_93 : decode cX8_number 93 = .ok (.istore_n 3, 1) := by decide +kernel
theorem dX8_number_94 : decode cX8_number 94 = .ok (.aload_n 0, 1) := by decide +kernel
theorem dX8_number_95 : decode cX8_number 95 = .ok (.dup, 1) := by decide +kernel
theorem dX8_number_96 : decode cX8_number 96 = .ok (.getfield 206, 3) := by decide +kernel
theorem dX8_number_99 : decode cX8_number 99 = .ok (.iconst 1, 1) := by decide +kernel
theorem dX8_number_100 : decode cX8_number 100 = .ok (.iadd, 1) := by decide +kernel
theorem dX8_number_101 : decode cX8_number 101 = .ok (.putfield 206, 3) := by decide +kernel
theorem dX8_number_104 : decode cX8_number 104 = .ok (.goto (-90), 3) := by decide +kernel
theorem dX8_number_107 : decode cX8_number 107 = .ok (.iload_n 3, 1) := by decide +kernel
theorem dX8_number_108 : decode cX8_number 108 = .ok (.ireturn, 1) := by decide +kernel
theorem dX8_part_0 : decode cX8_part 0 = .ok (.aload_n 0, 1) := by decide +kernel
theorem dX8_part_1 : decode cX8_part 1 = .ok (.iconst 0, 1) := by decide +kernel
theorem dX8_part_2 : decode cX8_part 2 = .ok (.bipush 89, 2) := by decide +kernel
theorem dX8_part_4 : decode cX8_part 4 = .ok (.invokevirtual 216, 3) := by decide +kernel
theorem dX8_part_7 : decode cX8_part 7 = .ok (.istore_n 2, 1) := by decide +kernel
theorem dX8_part_8 : decode cX8_part 8 = .ok (.iload_n 2, 1) := by decide +kernel
theorem dX8_part_9 : decode cX8_part 9 = .ok (.bipush 12, 2) := by decide +kernel
theorem dX8_part_11 : decode cX8_part 11 = .ok (.if_icmp .ge 67, 3) := by decide +kernel
theorem dX8_part_14 : decode cX8_part 14 = .ok (.aload_n 0, 1) := by decide +kernel
theorem dX8_part_15 : decode cX8_part 15 = .ok (.bipush 64, 2) := by decide +kernel
theorem dX8_part_17 : decode cX8_part 17 = .ok (.invokevirtual 219, 3) := by decide +kernel
theorem dX8_part_20 : decode cX8_part 20 = .ok (.ifCond .eq 58, 3) := by decide +kernel
theorem dX8_part_23 : decode cX8_part 23 = .ok (.aload_n 0, 1) := by decide +kernel
theorem dX8_part_24 : decode cX8_part 24 = .ok (.dup, 1) := by decide +kernel
theorem dX8_part_25 : decode cX8_part 25 = .ok (.getfield 206, 3) := by decide +kernel
theorem dX8_part_28 : decode cX8_part 28 = .ok (.iconst 1, 1) := by decide +kernel
theorem dX8_part_29 : decode cX8_part 29 = .ok (.iadd, 1) := by decide +kernel
theorem dX8_part_30 : decode cX8_part 30 = .ok (.putfield 206, 3) := by decide +kernel
theorem dX8_part_33 : decode cX8_part 33 = .ok (.aload_n 0, 1) := by decide +kernel
theorem dX8_part_34 : decode cX8_part 34 = .ok (.iconst 0, 1) := by decide +kernel
theorem dX8_part_35 : decode cX8_part 35 = .ok (.sipush 199, 3) := by decide +kernel
theorem dX8_part_38 : decode cX8_part 38 = .ok (.invokevirtual 216, 3) := by decide +kernel
theorem dX8_part_41 : decode cX8_part 41 = .ok (.istore_n 3, 1) := by decide +kernel
theorem dX8_part_42 : decode cX8_part 42 = .ok (.aload_n 0, 1) := by decide +kernel
theorem dX8_part_43 : decode cX8_part 43 = .ok (.bipush 43, 2) := by decide +kernel
theorem dX8_part_45 : decode cX8_part 45 = .ok (.bipush 43, 2) := by decide +kernel
theorem dX8_part_47 : decode cX8_part 47 = .ok (.invokevirtual 213, 3) := by decide +kernel
theorem dX8_part_50 : decode cX8_part 50 = .ok (.istore 4, 2) := by decide +kernel
theorem dX8_part_52 : decode cX8_part 52 = .ok (.aload_n 0, 1) := by decide +kernel
theorem dX8_part_53 : decode cX8_part 53 = .ok (.iconst 1, 1) := by decide +kernel
theorem dX8_part_54 : decode cX8_part 54 = .ok (.bipush 30, 2) := by decide +kernel
theorem dX8_part_56 : decode cX8_part 56 = .ok (.invokevirtual 216, 3) := by decide +kernel
theorem dX8_part_59 : decode cX8_part 59 = .ok (.istore 5, 2) := by decide +kernel
theorem dX8_part_61 : decode cX8_part 61 = .ok (.iload_n 1, 1) := by decide +kernel
theorem dX8_part_62 : decode cX8_part 62 = .ok (.ifCond .eq 14, 3) := by decide +kernel
theorem dX8_part_65 : decode cX8_part 65 = .ok (.aload_n 0, 1) := by decide +kernel
theorem dX8_part_66 : decode cX8_part 66 = .ok (.iload_n 2, 1) := by decide +kernel
theorem dX8_part_67 : decode cX8_part 67 = .ok (.iload_n 3, 1) := by decide +kernel
theorem dX8_part_68 : decode cX8_part 68 = .ok (.iload 5, 2) := by decide +kernel
theorem dX8_part_70 : decode cX8_part 70 = .ok (.invokevirtual 166, 3) := by decide +kernel
theorem dX8_part_73 : decode cX8_part 73 = .ok (.goto 4, 3) := by decide +kernel
theorem dX8_part_76 : decode cX8_part 76 = .ok (.iconst 0, 1) := by decide +kernel
theorem dX8_part_77 : decode cX8_part 77 = .ok (.ireturn, 1) := by decide +kernel
theorem dX8_part_78 : decode cX8_part 78 = .ok (.aload_n 0, 1) := by decide +kernel
theorem dX8_part_79 : decode cX8_part 79 = .ok (.bipush 62, 2) := by decide +kernel
theorem dX8_part_81 : decode cX8_part 81 = .ok (.bipush 62, 2) := by decide +kernel
theorem dX8_part_83 : decode cX8_part 83 = .ok (.invokevirtual 213, 3) := by decide +kernel
theorem dX8_part_86 : decode cX8_part 86 = .ok (.istore_n 3, 1) := by decide +kernel
theorem dX8_part_87 : decode cX8_part 87 = .ok (.aload_n 0, 1) := by decide +kernel
theorem dX8_part_88 : decode cX8_part 88 = .ok (.iconst 0, 1) := by decide +kernel
theorem dX8_part_89 : decode cX8_part 89 = .ok (.bipush 89, 2) := by decide +kernel
theorem dX8_part_91 : decode cX8_part 91 = .ok (.invokevirtual 216, 3) := by decide +kernel
theorem dX8_part_94 : decode cX8_part 94 = .ok (.istore 4, 2) := by decide +kernel
theorem dX8_part_96 : decode cX8_part 96 = .ok (.iload_n 1, 1) := by decide +kernel
theorem dX8_part_97 : decode cX8_part 97 = .ok (.ifCond .eq 13, 3) := by decide +kernel
theorem dX8_part_100 : decode cX8_part 100 = .ok (.aload_n 0, 1) := by decide +kernel
theorem dX8_part_101 : decode cX8_part 101 = .ok (.iload_n 2, 1) := by decide +kernel
theorem dX8_part_102 : decode cX8_part 102 = .ok (.iload 4, 2) := by decide +kernel
theorem dX8_part_104 : decode cX8_part 104 = .ok (.invokevirtual 173, 3) := by decide +kernel
theorem dX8_part_107 : decode cX8_part 107 = .ok (.goto 4, 3) := by decide +kernel
theorem dX8_part_110 : decode cX8_part 110 = .ok (.iconst 0, 1) := by decide +kernel
theorem dX8_part_111 : decode cX8_part 111 = .ok (.ireturn, 1) := by decide +kernel
theorem dX8_go_0 : decode cX8_go 0 = .ok (.aload_n 0, 1) := by decide +kernel
theorem dX8_go_1 : decode cX8_go 1 = .ok (.iconst 0, 1) := by decide +kernel
theorem dX8_go_2 : decode cX8_go 2 = .ok (.putfield 206, 3) := by decide +kernel
theorem dX8_go_5 : decode cX8_go 5 = .ok (.aload_n 0, 1) := by decide +kernel
theorem dX8_go_6 : decode cX8_go 6 = .ok (.iconst 0, 1) := by decide +kernel
theorem dX8_go_7 : decode cX8_go 7 = .ok (.putfield 209, 3) := by decide +kernel
theorem dX8_go_10 : decode cX8_go 10 = .ok (.iconst 0, 1) := by decide +kernel
theorem dX8_go_11 : decode cX8_go 11 = .ok (.istore_n 2, 1) := by decide +kernel
theorem dX8_go_12 : decode cX8_go 12 = .ok (.iconst 1, 1) := by decide +kernel
theorem dX8_go_13 : decode cX8_go 13 = .ok (.istore_n 3, 1) := by decide +kernel
theorem dX8_go_14 : decode cX8_go 14 = .ok (.iload_n 3, 1) := by decide +kernel
theorem dX8_go_15 : decode cX8_go 15 = .ok (.ifCond .eq 75, 3) := by decide +kernel
theorem dX8_go_18 : decode cX8_go 18 = .ok (.aload_n 0, 1) := by decide +kernel
theorem dX8_go_19 : decode cX8_go 19 = .ok (.iload_n 1, 1) := by decide +kernel
theorem dX8_go_20 : decode cX8_go 20 = .ok (.invokevirtual 222, 3) := by decide +kernel
theorem dX8_go_23 : decode cX8_go 23 = .ok (.istore 4, 2) := by decide +kernel
theorem dX8_go_25 : decode cX8_go 25 = .ok (.iload 4, 2) := by decide +kernel
theorem dX8_go_27 : decode cX8_go 27 = .ok (.ifCond .ge 6, 3) := by decide +kernel
theorem dX8_go_30 : decode cX8_go 30 = .ok (.iload 4, 2) := by decide +kernel
theorem dX8_go_32 : decode cX8_go 32 = .ok (.ireturn, 1) := by decide +kernel
theorem dX8_go_33 : decode cX8_go 33 = .ok (.iinc 2 1, 3) := by decide +kernel
theorem dX8_go_36 : decode cX8_go 36 = .ok (.aload_n 0, 1) := by decide +kernel
theorem dX8_go_37 : decode cX8_go 37 = .ok (.getfield 209, 3) := by decide +kernel
theorem dX8_go_40 : decode cX8_go 40 = .ok (.ifCond .ne 18, 3) := by decide +kernel
theorem dX8_go_43 : decode cX8_go 43 = .ok (.aload_n 0, 1) := by decide +kernel
theorem dX8_go_44 : decode cX8_go 44 = .ok (.getfield 206, 3) := by decide +kernel
theorem dX8_go_47 : decode cX8_go 47 = .ok (.aload_n 0, 1) := by decide +kernel
theorem dX8_go_48 : decode cX8_go 48 = .ok (.getfield 203, 3) := by decide +kernel
theorem dX8_go_51 : decode cX8_go 51 = .ok (.if_icmp .ge 7, 3) := by decide +kernel
theorem dX8_go_54 : decode cX8_go 54 = .ok (.iconst 1, 1) := by decide +kernel
theorem dX8_go_55 : decode cX8_go 55 = .ok (.goto 4, 3) := by decide +kernel
theorem dX8_go_58 : decode cX8_go 58 = .ok (.iconst 0, 1) := by decide +kernel
theorem dX8_go_59 : decode cX8_go 59 = .ok (.istore_n 3, 1) := by decide +kernel
theorem dX8_go_60 : decode cX8_go 60 = .ok (.iload_n 3, 1) := by decide +kernel
theorem dX8_go_61 : decode cX8_go 61 = .ok (.ifCond .eq 26, 3) := by decide +kernel
theorem dX8_go_64 : decode cX8_go 64 = .ok (.aload_n 0, 1) := by decide +kernel
theorem dX8_go_65 : decode cX8_go 65 = .ok (.bipush 59, 2) := by decide +kernel
theorem dX8_go_67 : decode cX8_go 67 = .ok (.bipush 59, 2) := by decide +kernel
theorem dX8_go_69 : decode cX8_go 69 = .ok (.invokevirtual 213, 3) := by decide +kernel
theorem dX8_go_72 : decode cX8_go 72 = .ok (.istore 5, 2) := by decide +kernel
theorem dX8_go_74 : decode cX8_go 74 = .ok (.aload_n 0, 1) := by decide +kernel
theorem dX8_go_75 : decode cX8_go 75 = .ok (.getfield 209, 3) := by decide +kernel
theorem dX8_go_78 : decode cX8_go 78 = .ok (.ifCond .ne 7, 3) := by decide +kernel
theorem dX8_go_81 : decode cX8_go 81 = .ok (.iconst 1, 1) := by decide +kernel
theorem dX8_go_82 : decode cX8_go 82 = .ok (.goto 4, 3) := by decide +kernel
theorem dX8_go_85 : decode cX8_go 85 = .ok (.iconst 0, 1) := by decide +kernel
theorem dX8_go_86 : decode cX8_go 86 = .ok (.istore_n 3, 1) := by decide +kernel
theorem dX8_go_87 : decode cX8_go 87 = .ok (.goto (-73), 3) := by decide +kernel
theorem dX8_go_90 : decode cX8_go 90 = .ok (.iload_n 2, 1) := by decide +kernel
theorem dX8_go_91 : decode cX8_go 91 = .ok (.ireturn, 1) := by decide +kernel
theorem dX8_fault_0 : decode cX8_fault 0 = .ok (.aload_n 0, 1) := by decide +kernel
theorem dX8_fault_1 : decode cX8_fault 1 = .ok (.iconst 0, 1) := by decide +kernel
theorem dX8_fault_2 : decode cX8_fault 2 = .ok (.invokevirtual 225, 3) := by decide +kernel
theorem dX8_fault_5 : decode cX8_fault 5 = .ok (.istore_n 1, 1) := by decide +kernel
theorem dX8_fault_6 : decode cX8_fault 6 = .ok (.aload_n 0, 1) := by decide +kernel
theorem dX8_fault_7 : decode cX8_fault 7 = .ok (.getfield 209, 3) := by decide +kernel
theorem dX8_fault_10 : decode cX8_fault 10 = .ok (.ifCond .eq 10, 3) := by decide +kernel
theorem dX8_fault_13 : decode cX8_fault 13 = .ok (.aload_n 0, 1) := by decide +kernel
theorem dX8_fault_14 : decode cX8_fault 14 = .ok (.getfield 206, 3) := by decide +kernel
theorem dX8_fault_17 : decode cX8_fault 17 = .ok (.goto 5, 3) := by decide +kernel
theorem dX8_fault_20 : decode cX8_fault 20 = .ok (.bipush (-5), 2) := by decide +kernel
theorem dX8_fault_22 : decode cX8_fault 22 = .ok (.ireturn, 1) := by decide +kernel
theorem dX8_addAll_0 : decode cX8_addAll 0 = .ok (.aload_n 0, 1) := by decide +kernel
theorem dX8_addAll_1 : decode cX8_addAll 1 = .ok (.iconst 0, 1) := by decide +kernel
theorem dX8_addAll_2 : decode cX8_addAll 2 = .ok (.invokevirtual 225, 3) := by decide +kernel
theorem dX8_addAll_5 : decode cX8_addAll 5 = .ok (.istore_n 1, 1) := by decide +kernel
theorem dX8_addAll_6 : decode cX8_addAll 6 = .ok (.aload_n 0, 1) := by decide +kernel
theorem dX8_addAll_7 : decode cX8_addAll 7 = .ok (.getfield 209, 3) := by decide +kernel
theorem dX8_addAll_10 : decode cX8_addAll 10 = .ok (.ifCond .eq 11, 3) := by decide +kernel
theorem dX8_addAll_13 : decode cX8_addAll 13 = .ok (.bipush (-100), 2) := by decide +kernel
theorem dX8_addAll_15 : decode cX8_addAll 15 = .ok (.aload_n 0, 1) := by decide +kernel
theorem dX8_addAll_16 : decode cX8_addAll 16 = .ok (.getfield 206, 3) := by decide +kernel
theorem dX8_addAll_19 : decode cX8_addAll 19 = .ok (.isub, 1) := by decide +kernel
theorem dX8_addAll_20 : decode cX8_addAll 20 = .ok (.ireturn, 1) := by decide +kernel
theorem dX8_addAll_21 : decode cX8_addAll 21 = .ok (.aload_n 0, 1) := by decide +kernel
theorem dX8_addAll_22 : decode cX8_addAll 22 = .ok (.invokevirtual 163, 3) := by decide +kernel
theorem dX8_addAll_25 : decode cX8_addAll 25 = .ok (.aload_n 0, 1) := by decide +kernel
theorem dX8_addAll_26 : decode cX8_addAll 26 = .ok (.aload_n 0, 1) := by decide +kernel
theorem dX8_addAll_27 : decode cX8_addAll 27 = .ok (.iconst 1, 1) := by decide +kernel
theorem dX8_addAll_28 : decode cX8_addAll 28 = .ok (.invokevirtual 225, 3) := by decide +kernel
theorem dX8_addAll_31 : decode cX8_addAll 31 = .ok (.invokevirtual 170, 3) := by decide +kernel
theorem dX8_addAll_34 : decode cX8_addAll 34 = .ok (.ireturn, 1) := by decide +kernel
theorem dX8_undo_0 : decode cX8_undo 0 = .ok (.aload_n 0, 1) := by decide +kernel
theorem dX8_undo_1 : decode cX8_undo 1 = .ok (.getfield 44, 3) := by decide +kernel
theorem dX8_undo_4 : decode cX8_undo 4 = .ok (.ifCond .ne 6, 3) := by decide +kernel
theorem dX8_undo_7 : decode cX8_undo 7 = .ok (.bipush (-5), 2) := by decide +kernel
theorem dX8_undo_9 : decode cX8_undo 9 = .ok (.ireturn, 1) := by decide +kernel
theorem dX8_undo_10 : decode cX8_undo 10 = .ok (.aload_n 0, 1) := by decide +kernel
theorem dX8_undo_11 : decode cX8_undo 11 = .ok (.dup, 1) := by decide +kernel
theorem dX8_undo_12 : decode cX8_undo 12 = .ok (.getfield 44, 3) := by decide +kernel
theorem dX8_undo_15 : decode cX8_undo 15 = .ok (.iconst 1, 1) := by decide +kernel
theorem dX8_undo_16 : decode cX8_undo 16 = .ok (.isub, 1) := by decide +kernel
theorem dX8_undo_17 : decode cX8_undo 17 = .ok (.putfield 44, 3) := by decide +kernel
theorem dX8_undo_20 : decode cX8_undo 20 = .ok (.iconst 0, 1) := by decide +kernel
theorem dX8_undo_21 : decode cX8_undo 21 = .ok (.istore_n 1, 1) := by decide +kernel
theorem dX8_undo_22 : decode cX8_undo 22 = .ok (.iload_n 1, 1) := by decide +kernel
theorem dX8_undo_23 : decode cX8_undo 23 = .ok (.sipush 447, 3) := by decide +kernel
theorem dX8_undo_26 : decode cX8_undo 26 = .ok (.if_icmp .ge 30, 3) := by decide +kernel
theorem dX8_undo_29 : decode cX8_undo 29 = .ok (.aload_n 0, 1) := by decide +kernel
theorem dX8_undo_30 : decode cX8_undo 30 = .ok (.getfield 7, 3) := by decide +kernel
theorem dX8_undo_33 : decode cX8_undo 33 = .ok (.iload_n 1, 1) := by decide +kernel
theorem dX8_undo_34 : decode cX8_undo 34 = .ok (.aload_n 0, 1) := by decide +kernel
theorem dX8_undo_35 : decode cX8_undo 35 = .ok (.getfield 16, 3) := by decide +kernel
theorem dX8_undo_38 : decode cX8_undo 38 = .ok (.sipush 447, 3) := by decide +kernel
theorem dX8_undo_41 : decode cX8_undo 41 = .ok (.aload_n 0, 1) := by decide +kernel
theorem dX8_undo_42 : decode cX8_undo 42 = .ok (.getfield 44, 3) := by decide +kernel
theorem dX8_undo_45 : decode cX8_undo 45 = .ok (.imul, 1) := by decide +kernel
theorem dX8_undo_46 : decode cX8_undo 46 = .ok (.iload_n 1, 1) := by decide +kernel
theorem dX8_undo_47 : decode cX8_undo 47 = .ok (.iadd, 1) := by decide +kernel
theorem dX8_undo_48 : decode cX8_undo 48 = .ok (.iaload, 1) := by decide +kernel
theorem dX8_undo_49 : decode cX8_undo 49 = .ok (.iastore, 1) := by decide +kernel
theorem dX8_undo_50 : decode cX8_undo 50 = .ok (.iinc 1 1, 3) := by decide +kernel
theorem dX8_undo_53 : decode cX8_undo 53 = .ok (.goto (-31), 3) := by decide +kernel
theorem dX8_undo_56 : decode cX8_undo 56 = .ok (.aload_n 0, 1) := by decide +kernel
theorem dX8_undo_57 : decode cX8_undo 57 = .ok (.getfield 44, 3) := by decide +kernel
theorem dX8_undo_60 : decode cX8_undo 60 = .ok (.ireturn, 1) := by decide +kernel
theorem dX8_keep_0 : decode cX8_keep 0 = .ok (.iconst 0, 1) := by decide +kernel
theorem dX8_keep_1 : decode cX8_keep 1 = .ok (.istore_n 1, 1) := by decide +kernel
theorem dX8_keep_2 : decode cX8_keep 2 = .ok (.iload_n 1, 1) := by decide +kernel
theorem dX8_keep_3 : decode cX8_keep 3 = .ok (.sipush 447, 3) := by decide +kernel
theorem dX8_keep_6 : decode cX8_keep 6 = .ok (.if_icmp .ge 21, 3) := by decide +kernel
theorem dX8_keep_9 : decode cX8_keep 9 = .ok (.aload_n 0, 1) := by decide +kernel
theorem dX8_keep_10 : decode cX8_keep 10 = .ok (.getfield 19, 3) := by decide +kernel
theorem dX8_keep_13 : decode cX8_keep 13 = .ok (.iload_n 1, 1) := by decide +kernel
theorem dX8_keep_14 : decode cX8_keep 14 = .ok (.aload_n 0, 1) := by decide +kernel
theorem dX8_keep_15 : decode cX8_keep 15 = .ok (.getfield 7, 3) := by decide +kernel
theorem dX8_keep_18 : decode cX8_keep 18 = .ok (.iload_n 1, 1) := by decide +kernel
theorem dX8_keep_19 : decode cX8_keep 19 = .ok (.iaload, 1) := by decide +kernel
theorem dX8_keep_20 : decode cX8_keep 20 = .ok (.iastore, 1) := by decide +kernel
theorem dX8_keep_21 : decode cX8_keep 21 = .ok (.iinc 1 1, 3) := by decide +kernel
theorem dX8_keep_24 : decode cX8_keep 24 = .ok (.goto (-22), 3) := by decide +kernel
theorem dX8_keep_27 : decode cX8_keep 27 = .ok (.aload_n 0, 1) := by decide +kernel
theorem dX8_keep_28 : decode cX8_keep 28 = .ok (.iconst 1, 1) := by decide +kernel
theorem dX8_keep_29 : decode cX8_keep 29 = .ok (.putfield 228, 3) := by decide +kernel
theorem dX8_keep_32 : decode cX8_keep 32 = .ok (.aload_n 0, 1) := by decide +kernel
theorem dX8_keep_33 : decode cX8_keep 33 = .ok (.getfield 7, 3) := by decide +kernel
theorem dX8_keep_36 : decode cX8_keep 36 = .ok (.iconst 0, 1) := by decide +kernel
theorem dX8_keep_37 : decode cX8_keep 37 = .ok (.iaload, 1) := by decide +kernel
theorem dX8_keep_38 : decode cX8_keep 38 = .ok (.ireturn, 1) := by decide +kernel
theorem dX8_restore_0 : decode cX8_restore 0 = .ok (.aload_n 0, 1) := by decide +kernel
theorem dX8_restore_1 : decode cX8_restore 1 = .ok (.getfield 228, 3) := by decide +kernel
theorem dX8_restore_4 : decode cX8_restore 4 = .ok (.ifCond .ne 6, 3) := by decide +kernel
theorem dX8_restore_7 : decode cX8_restore 7 = .ok (.bipush (-5), 2) := by decide +kernel
theorem dX8_restore_9 : decode cX8_restore 9 = .ok (.ireturn, 1) := by decide +kernel
theorem dX8_restore_10 : decode cX8_restore 10 = .ok (.aload_n 0, 1) := by decide +kernel
theorem dX8_restore_11 : decode cX8_restore 11 = .ok (.invokevirtual 163, 3) := by decide +kernel
theorem dX8_restore_14 : decode cX8_restore 14 = .ok (.iconst 0, 1) := by decide +kernel
theorem dX8_restore_15 : decode cX8_restore 15 = .ok (.istore_n 1, 1) := by decide +kernel
theorem dX8_restore_16 : decode cX8_restore 16 = .ok (.iload_n 1, 1) := by decide +kernel
theorem dX8_restore_17 : decode cX8_restore 17 = .ok (.sipush 447, 3) := by decide +kernel
theorem dX8_restore_20 : decode cX8_restore 20 = .ok (.if_icmp .ge 21, 3) := by decide +kernel
theorem dX8_restore_23 : decode cX8_restore 23 = .ok (.aload_n 0, 1) := by decide +kernel
theorem dX8_restore_24 : decode cX8_restore 24 = .ok (.getfield 7, 3) := by decide +kernel
theorem dX8_restore_27 : decode cX8_restore 27 = .ok (.iload_n 1, 1) := by decide +kernel
theorem dX8_restore_28 : decode cX8_restore 28 = .ok (.aload_n 0, 1) := by decide +kernel
theorem dX8_restore_29 : decode cX8_restore 29 = .ok (.getfield 19, 3) := by decide +kernel
theorem dX8_restore_32 : decode cX8_restore 32 = .ok (.iload_n 1, 1) := by decide +kernel
theorem dX8_restore_33 : decode cX8_restore 33 = .ok (.iaload, 1) := by decide +kernel
theorem dX8_restore_34 : decode cX8_restore 34 = .ok (.iastore, 1) := by decide +kernel
theorem dX8_restore_35 : decode cX8_restore 35 = .ok (.iinc 1 1, 3) := by decide +kernel
theorem dX8_restore_38 : decode cX8_restore 38 = .ok (.goto (-22), 3) := by decide +kernel
theorem dX8_restore_41 : decode cX8_restore 41 = .ok (.aload_n 0, 1) := by decide +kernel
theorem dX8_restore_42 : decode cX8_restore 42 = .ok (.aload_n 0, 1) := by decide +kernel
theorem dX8_restore_43 : decode cX8_restore 43 = .ok (.getfield 7, 3) := by decide +kernel
theorem dX8_restore_46 : decode cX8_restore 46 = .ok (.iconst 0, 1) := by decide +kernel
theorem dX8_restore_47 : decode cX8_restore 47 = .ok (.iaload, 1) := by decide +kernel
theorem dX8_restore_48 : decode cX8_restore 48 = .ok (.invokevirtual 170, 3) := by decide +kernel
theorem dX8_restore_51 : decode cX8_restore 51 = .ok (.ireturn, 1) := by decide +kernel
theorem dX8_arrowsAt_0 : decode cX8_arrowsAt 0 = .ok (.iconst 0, 1) := by decide +kernel
theorem dX8_arrowsAt_1 : decode cX8_arrowsAt 1 = .ok (.istore_n 3, 1) := by decide +kernel
theorem dX8_arrowsAt_2 : decode cX8_arrowsAt 2 = .ok (.iconst 0, 1) := by decide +kernel
theorem dX8_arrowsAt_3 : decode cX8_arrowsAt 3 = .ok (.istore 4, 2) := by decide +kernel
theorem dX8_arrowsAt_5 : decode cX8_arrowsAt 5 = .ok (.iload 4, 2) := by decide +kernel
theorem dX8_arrowsAt_7 : decode cX8_arrowsAt 7 = .ok (.aload_n 0, 1) := by decide +kernel
theorem dX8_arrowsAt_8 : decode cX8_arrowsAt 8 = .ok (.getfield 7, 3) := by decide +kernel
theorem dX8_arrowsAt_11 : decode cX8_arrowsAt 11 = .ok (.bipush 121, 2) := by decide +kernel
theorem dX8_arrowsAt_13 : decode cX8_arrowsAt 13 = .ok (.iaload, 1) := by decide +kernel
theorem dX8_arrowsAt_14 : decode cX8_arrowsAt 14 = .ok (.if_icmp .ge 40, 3) := by decide +kernel
theorem dX8_arrowsAt_17 : decode cX8_arrowsAt 17 = .ok (.iload_n 3, 1) := by decide +kernel
theorem dX8_arrowsAt_18 : decode cX8_arrowsAt 18 = .ok (.aload_n 0, 1) := by decide +kernel
theorem dX8_arrowsAt_19 : decode cX8_arrowsAt 19 = .ok (.getfield 7, 3) := by decide +kernel
theorem dX8_arrowsAt_22 : decode cX8_arrowsAt 22 = .ok (.bipush 122, 2) := by decide +kernel
theorem dX8_arrowsAt_24 : decode cX8_arrowsAt 24 = .ok (.iconst 3, 1) := by decide +kernel
theorem dX8_arrowsAt_25 : decode cX8_arrowsAt 25 = .ok (.iload 4, 2) := by decide +kernel
theorem dX8_arrowsAt_27 : decode cX8_arrowsAt 27 = .ok (.imul, 1) := by decide +kernel
theorem dX8_arrowsAt_28 : decode cX8_arrowsAt 28 = .ok (.iadd, 1) := by decide +kernel
theorem dX8_arrowsAt_29 : decode cX8_arrowsAt 29 = .ok (.iload_n 2, 1) := by decide +kernel
theorem dX8_arrowsAt_30 : decode cX8_arrowsAt 30 = .ok (.iadd, 1) := by decide +kernel
theorem dX8_arrowsAt_31 : decode cX8_arrowsAt 31 = .ok (.iaload, 1) := by decide +kernel
theorem dX8_arrowsAt_32 : decode cX8_arrowsAt 32 = .ok (.aload_n 0, 1) := by decide +kernel
theorem dX8_arrowsAt_33 : decode cX8_arrowsAt 33 = .ok (.iload_n 1, 1) := by decide +kernel
theorem dX8_arrowsAt_34 : decode cX8_arrowsAt 34 = .ok (.iconst 0, 1) := by decide +kernel
theorem dX8_arrowsAt_35 : decode cX8_arrowsAt 35 = .ok (.invokevirtual 48, 3) := by decide +kernel
theorem dX8_arrowsAt_38 : decode cX8_arrowsAt 38 = .ok (.if_icmp .ne 7, 3) := by decide +kernel
theorem dX8_arrowsAt_41 : decode cX8_arrowsAt 41 = .ok (.iconst 1, 1) := by decide +kernel
theorem dX8_arrowsAt_42 : decode cX8_arrowsAt 42 = .ok (.goto 4, 3) := by decide +kernel
theorem dX8_arrowsAt_45 : decode cX8_arrowsAt 45 = .ok (.iconst 0, 1) := by decide +kernel
theorem dX8_arrowsAt_46 : decode cX8_arrowsAt 46 = .ok (.iadd, 1) := by decide +kernel
theorem dX8_arrowsAt_47 : decode cX8_arrowsAt 47 = .ok (.istore_n 3, 1) := by decide +kernel
theorem dX8_arrowsAt_48 : decode cX8_arrowsAt 48 = .ok (.iinc 4 1, 3) := by decide +kernel
theorem dX8_arrowsAt_51 : decode cX8_arrowsAt 51 = .ok (.goto (-46), 3) := by decide +kernel
theorem dX8_arrowsAt_54 : decode cX8_arrowsAt 54 = .ok (.iload_n 3, 1) := by decide +kernel
theorem dX8_arrowsAt_55 : decode cX8_arrowsAt 55 = .ok (.ireturn, 1) := by decide +kernel
theorem dX8_behind_0 : decode cX8_behind 0 = .ok (.bipush (-5), 2) := by decide +kernel
theorem dX8_behind_2 : decode cX8_behind 2 = .ok (.istore_n 2, 1) := by decide +kernel
theorem dX8_behind_3 : decode cX8_behind 3 = .ok (.iconst 0, 1) := by decide +kernel
theorem dX8_behind_4 : decode cX8_behind 4 = .ok (.istore_n 3, 1) := by decide +kernel
theorem dX8_behind_5 : decode cX8_behind 5 = .ok (.iload_n 3, 1) := by decide +kernel
theorem dX8_behind_6 : decode cX8_behind 6 = .ok (.aload_n 0, 1) := by decide +kernel
theorem dX8_behind_7 : decode cX8_behind 7 = .ok (.getfield 7, 3) := by decide +kernel
theorem dX8_behind_10 : decode cX8_behind 10 = .ok (.iconst 0, 1) := by decide +kernel
theorem dX8_behind_11 : decode cX8_behind 11 = .ok (.iaload, 1) := by decide +kernel
theorem dX8_behind_12 : decode cX8_behind 12 = .ok (.if_icmp .ge 78, 3) := by decide +kernel
theorem dX8_behind_15 : decode cX8_behind 15 = .ok (.aload_n 0, 1) := by decide +kernel
theorem dX8_behind_16 : decode cX8_behind 16 = .ok (.iload_n 3, 1) := by decide +kernel
theorem dX8_behind_17 : decode cX8_behind 17 = .ok (.iconst 1, 1) := by decide +kernel
theorem dX8_behind_18 : decode cX8_behind 18 = .ok (.invokevirtual 48, 3) := by decide +kernel
theorem dX8_behind_21 : decode cX8_behind 21 = .ok (.aload_n 0, 1) := by decide +kernel
theorem dX8_behind_22 : decode cX8_behind 22 = .ok (.iload_n 1, 1) := by decide +kernel
theorem dX8_behind_23 : decode cX8_behind 23 = .ok (.iconst 1, 1) := by decide +kernel
theorem dX8_behind_24 : decode cX8_behind 24 = .ok (.invokevirtual 48, 3) := by decide +kernel
theorem dX8_behind_27 : decode cX8_behind 27 = .ok (.if_icmp .ne 22, 3) := by decide +kernel
theorem dX8_behind_30 : decode cX8_behind 30 = .ok (.aload_n 0, 1) := by decide +kernel
theorem dX8_behind_31 : decode cX8_behind 31 = .ok (.iload_n 3, 1) := by decide +kernel
theorem dX8_behind_32 : decode cX8_behind 32 = .ok (.iconst 2, 1) := by decide +kernel
theorem dX8_behind_33 : decode cX8_behind 33 = .ok (.invokevirtual 48, 3) := by decide +kernel
theorem dX8_behind_36 : decode cX8_behind 36 = .ok (.aload_n 0, 1) := by decide +kernel
theorem dX8_behind_37 : decode cX8_behind 37 = .ok (.iload_n 1, 1) := by decide +kernel
theorem dX8_behind_38 : decode cX8_behind 38 = .ok (.iconst 2, 1) := by decide +kernel
theorem dX8_behind_39 : decode cX8_behind 39 = .ok (.invokevirtual 48, 3) := by decide +kernel
theorem dX8_behind_42 : decode cX8_behind 42 = .ok (.if_icmp .le 7, 3) := by decide +kernel
theorem dX8_behind_45 : decode cX8_behind 45 = .ok (.iconst 1, 1) := by decide +kernel
theorem dX8_behind_46 : decode cX8_behind 46 = .ok (.goto 4, 3) := by decide +kernel
theorem dX8_behind_49 : decode cX8_behind 49 = .ok (.iconst 0, 1) := by decide +kernel
theorem dX8_behind_50 : decode cX8_behind 50 = .ok (.istore 4, 2) := by decide +kernel
theorem dX8_behind_52 : decode cX8_behind 52 = .ok (.iload 4, 2) := by decide +kernel
theorem dX8_behind_54 : decode cX8_behind 54 = .ok (.ifCond .eq 28, 3) := by decide +kernel
theorem dX8_behind_57 : decode cX8_behind 57 = .ok (.iload_n 2, 1) := by decide +kernel
theorem dX8_behind_58 : decode cX8_behind 58 = .ok (.bipush (-5), 2) := by decide +kernel
theorem dX8_behind_60 : decode cX8_behind 60 = .ok (.if_icmp .eq 18, 3) := by decide +kernel
theorem dX8_behind_63 : decode cX8_behind 63 = .ok (.aload_n 0, 1) := by decide +kernel
theorem dX8_behind_64 : decode cX8_behind 64 = .ok (.iload_n 3, 1) := by decide +kernel
theorem dX8_behind_65 : decode cX8_behind 65 = .ok (.iconst 2, 1) := by decide +kernel
theorem dX8_behind_66 : decode cX8_behind 66 = .ok (.invokevirtual 48, 3) := by decide +kernel
theorem dX8_behind_69 : decode cX8_behind 69 = .ok (.aload_n 0, 1) := by decide +kernel
theorem dX8_behind_70 : decode cX8_behind 70 = .ok (.iload_n 2, 1) := by decide +kernel
theorem dX8_behind_71 : decode cX8_behind 71 = .ok (.iconst 2, 1) := by decide +kernel
theorem dX8_behind_72 : decode cX8_behind 72 = .ok (.invokevirtual 48, 3) := by decide +kernel
theorem dX8_behind_75 : decode cX8_behind 75 = .ok (.if_icmp .ge 7, 3) := by decide +kernel
theorem dX8_behind_78 : decode cX8_behind 78 = .ok (.iload_n 3, 1) := by decide +kernel
theorem dX8_behind_79 : decode cX8_behind 79 = .ok (.goto 4, 3) := by decide +kernel
theorem dX8_behind_82 : decode cX8_behind 82 = .ok (.iload_n 2, 1) := by decide +kernel
theorem dX8_behind_83 : decode cX8_behind 83 = .ok (.istore_n 2, 1) := by decide +kernel
theorem dX8_behind_84 : decode cX8_behind 84 = .ok (.iinc 3 1, 3) := by decide +kernel
theorem dX8_behind_87 : decode cX8_behind 87 = .ok (.goto (-82), 3) := by decide +kernel
theorem dX8_behind_90 : decode cX8_behind 90 = .ok (.iload_n 2, 1) := by decide +kernel
theorem dX8_behind_91 : decode cX8_behind 91 = .ok (.bipush (-5), 2) := by decide +kernel
theorem dX8_behind_93 : decode cX8_behind 93 = .ok (.if_icmp .ne 8, 3) := by decide +kernel
theorem dX8_behind_96 : decode cX8_behind 96 = .ok (.bipush (-5), 2) := by decide +kernel
theorem dX8_behind_98 : decode cX8_behind 98 = .ok (.goto 9, 3) := by decide +kernel
theorem dX8_behind_101 : decode cX8_behind 101 = .ok (.aload_n 0, 1) := by decide +kernel
theorem dX8_behind_102 : decode cX8_behind 102 = .ok (.iload_n 2, 1) := by decide +kernel
theorem dX8_behind_103 : decode cX8_behind 103 = .ok (.iconst 0, 1) := by decide +kernel
theorem dX8_behind_104 : decode cX8_behind 104 = .ok (.invokevirtual 48, 3) := by decide +kernel
theorem dX8_behind_107 : decode cX8_behind 107 = .ok (.ireturn, 1) := by decide +kernel
theorem dX8_barOf_0 : decode cX8_barOf 0 = .ok (.aload_n 0, 1) := by decide +kernel
theorem dX8_barOf_1 : decode cX8_barOf 1 = .ok (.iload_n 1, 1) := by decide +kernel
theorem dX8_barOf_2 : decode cX8_barOf 2 = .ok (.invokevirtual 52, 3) := by decide +kernel
theorem dX8_barOf_5 : decode cX8_barOf 5 = .ok (.istore_n 3, 1) := by decide +kernel
theorem dX8_barOf_6 : decode cX8_barOf 6 = .ok (.iload_n 3, 1) := by decide +kernel
theorem dX8_barOf_7 : decode cX8_barOf 7 = .ok (.bipush (-5), 2) := by decide +kernel
theorem dX8_barOf_9 : decode cX8_barOf 9 = .ok (.if_icmp .ne 5, 3) := by decide +kernel
theorem dX8_barOf_12 : decode cX8_barOf 12 = .ok (.iconst (-1), 1) := by decide +kernel
theorem dX8_barOf_13 : decode cX8_barOf 13 = .ok (.ireturn, 1) := by decide +kernel
theorem dX8_barOf_14 : decode cX8_barOf 14 = .ok (.iload_n 2, 1) := by decide +kernel
theorem dX8_barOf_15 : decode cX8_barOf 15 = .ok (.tableswitch 162 0 11 #[61, 61, 61, 70, 76, 88, 104, 110, 110, 120, 131, 156], 61) := by decide +kernel
theorem dX8_barOf_76 : decode cX8_barOf 76 = .ok (.aload_n 0, 1) := by decide +kernel
theorem dX8_barOf_77 : decode cX8_barOf 77 = .ok (.iload_n 3, 1) := by decide +kernel
theorem dX8_barOf_78 : decode cX8_barOf 78 = .ok (.iconst 1, 1) := by decide +kernel
theorem dX8_barOf_79 : decode cX8_barOf 79 = .ok (.iload_n 2, 1) := by decide +kernel
theorem dX8_barOf_80 : decode cX8_barOf 80 = .ok (.iadd, 1) := by decide +kernel
theorem dX8_barOf_81 : decode cX8_barOf 81 = .ok (.invokevirtual 48, 3) := by decide +kernel
theorem dX8_barOf_84 : decode cX8_barOf 84 = .ok (.ireturn, 1) := by decide +kernel
theorem dX8_barOf_85 : decode cX8_barOf 85 = .ok (.aload_n 0, 1) := by decide +kernel
theorem dX8_barOf_86 : decode cX8_barOf 86 = .ok (.iload_n 3, 1) := by decide +kernel
theorem dX8_barOf_87 : decode cX8_barOf 87 = .ok (.invokevirtual 56, 3) := by decide +kernel
theorem dX8_barOf_90 : decode cX8_barOf 90 = .ok (.ireturn, 1) := by decide +kernel
theorem dX8_barOf_91 : decode cX8_barOf 91 = .ok (.aload_n 0, 1) := by decide +kernel
theorem dX8_barOf_92 : decode cX8_barOf 92 = .ok (.iconst 0, 1) := by decide +kernel
theorem dX8_barOf_93 : decode cX8_barOf 93 = .ok (.aload_n 0, 1) := by decide +kernel
theorem dX8_barOf_94 : decode cX8_barOf 94 = .ok (.iload_n 3, 1) := by decide +kernel
theorem dX8_barOf_95 : decode cX8_barOf 95 = .ok (.iconst 2, 1) := by decide +kernel
theorem dX8_barOf_96 : decode cX8_barOf 96 = .ok (.invokevirtual 48, 3) := by decide +kernel
theorem dX8_barOf_99 : decode cX8_barOf 99 = .ok (.invokevirtual 115, 3) := by decide +kernel
theorem dX8_barOf_102 : decode cX8_barOf 102 = .ok (.ireturn, 1) := by decide +kernel
theorem dX8_barOf_103 : decode cX8_barOf 103 = .ok (.aload_n 0, 1) := by decide +kernel
theorem dX8_barOf_104 : decode cX8_barOf 104 = .ok (.aload_n 0, 1) := by decide +kernel
theorem dX8_barOf_105 : decode cX8_barOf 105 = .ok (.iload_n 3, 1) := by decide +kernel
theorem dX8_barOf_106 : decode cX8_barOf 106 = .ok (.iconst 2, 1) := by decide +kernel
theorem dX8_barOf_107 : decode cX8_barOf 107 = .ok (.invokevirtual 48, 3) := by decide +kernel
theorem dX8_barOf_110 : decode cX8_barOf 110 = .ok (.aload_n 0, 1) := by decide +kernel
theorem dX8_barOf_111 : decode cX8_barOf 111 = .ok (.iload_n 3, 1) := by decide +kernel
theorem dX8_barOf_112 : decode cX8_barOf 112 = .ok (.invokevirtual 56, 3) := by decide +kernel
theorem dX8_barOf_115 : decode cX8_barOf 115 = .ok (.invokevirtual 115, 3) := by decide +kernel
theorem dX8_barOf_118 : decode cX8_barOf 118 = .ok (.ireturn, 1) := by decide +kernel
theorem dX8_barOf_119 : decode cX8_barOf 119 = .ok (.aload_n 0, 1) := by decide +kernel
theorem dX8_barOf_120 : decode cX8_barOf 120 = .ok (.iload_n 3, 1) := by decide +kernel
theorem dX8_barOf_121 : decode cX8_barOf 121 = .ok (.invokevirtual 231, 3) := by decide +kernel
theorem dX8_barOf_124 : decode cX8_barOf 124 = .ok (.ireturn, 1) := by decide +kernel
theorem dX8_barOf_125 : decode cX8_barOf 125 = .ok (.aload_n 0, 1) := by decide +kernel
theorem dX8_barOf_126 : decode cX8_barOf 126 = .ok (.iload_n 3, 1) := by decide +kernel
theorem dX8_barOf_127 : decode cX8_barOf 127 = .ok (.iload_n 2, 1) := by decide +kernel
theorem dX8_barOf_128 : decode cX8_barOf 128 = .ok (.bipush 6, 2) := by decide +kernel
theorem dX8_barOf_130 : decode cX8_barOf 130 = .ok (.isub, 1) := by decide +kernel
theorem dX8_barOf_131 : decode cX8_barOf 131 = .ok (.invokevirtual 234, 3) := by decide +kernel
theorem dX8_barOf_134 : decode cX8_barOf 134 = .ok (.ireturn, 1) := by decide +kernel
theorem dX8_barOf_135 : decode cX8_barOf 135 = .ok (.aload_n 0, 1) := by decide +kernel
theorem dX8_barOf_136 : decode cX8_barOf 136 = .ok (.aload_n 0, 1) := by decide +kernel
theorem dX8_barOf_137 : decode cX8_barOf 137 = .ok (.iload_n 3, 1) := by decide +kernel
theorem dX8_barOf_138 : decode cX8_barOf 138 = .ok (.iconst 2, 1) := by decide +kernel
theorem dX8_barOf_139 : decode cX8_barOf 139 = .ok (.invokevirtual 48, 3) := by decide +kernel
theorem dX8_barOf_142 : decode cX8_barOf 142 = .ok (.invokevirtual 121, 3) := by decide +kernel
theorem dX8_barOf_145 : decode cX8_barOf 145 = .ok (.ireturn, 1) := by decide +kernel
theorem dX8_barOf_146 : decode cX8_barOf 146 = .ok (.aload_n 0, 1) := by decide +kernel
theorem dX8_barOf_147 : decode cX8_barOf 147 = .ok (.aload_n 0, 1) := by decide +kernel
theorem dX8_barOf_148 : decode cX8_barOf 148 = .ok (.iload_n 3, 1) := by decide +kernel
theorem dX8_barOf_149 : decode cX8_barOf 149 = .ok (.invokevirtual 56, 3) := by decide +kernel
theorem dX8_barOf_152 : decode cX8_barOf 152 = .ok (.iconst 1, 1) := by decide +kernel
theorem dX8_barOf_153 : decode cX8_barOf 153 = .ok (.isub, 1) := by decide +kernel
theorem dX8_barOf_154 : decode cX8_barOf 154 = .ok (.invokevirtual 121, 3) := by decide +kernel
theorem dX8_barOf_157 : decode cX8_barOf 157 = .ok (.aload_n 0, 1) := by decide +kernel
theorem dX8_barOf_158 : decode cX8_barOf 158 = .ok (.aload_n 0, 1) := by decide +kernel
theorem dX8_barOf_159 : decode cX8_barOf 159 = .ok (.iload_n 3, 1) := by decide +kernel
theorem dX8_barOf_160 : decode cX8_barOf 160 = .ok (.iconst 2, 1) := by decide +kernel
theorem dX8_barOf_161 : decode cX8_barOf 161 = .ok (.invokevirtual 48, 3) := by decide +kernel
theorem dX8_barOf_164 : decode cX8_barOf 164 = .ok (.invokevirtual 121, 3) := by decide +kernel
theorem dX8_barOf_167 : decode cX8_barOf 167 = .ok (.isub, 1) := by decide +kernel
theorem dX8_barOf_168 : decode cX8_barOf 168 = .ok (.iconst 1, 1) := by decide +kernel
theorem dX8_barOf_169 : decode cX8_barOf 169 = .ok (.iadd, 1) := by decide +kernel
theorem dX8_barOf_170 : decode cX8_barOf 170 = .ok (.ireturn, 1) := by decide +kernel
theorem dX8_barOf_171 : decode cX8_barOf 171 = .ok (.aload_n 0, 1) := by decide +kernel
theorem dX8_barOf_172 : decode cX8_barOf 172 = .ok (.iload_n 3, 1) := by decide +kernel
theorem dX8_barOf_173 : decode cX8_barOf 173 = .ok (.invokevirtual 237, 3) := by decide +kernel
theorem dX8_barOf_176 : decode cX8_barOf 176 = .ok (.ireturn, 1) := by decide +kernel
theorem dX8_barOf_177 : decode cX8_barOf 177 = .ok (.bipush (-2), 2) := by decide +kernel
theorem dX8_barOf_179 : decode cX8_barOf 179 = .ok (.ireturn, 1) := by decide +kernel
theorem dX8_arrowOf_0 : decode cX8_arrowOf 0 = .ok (.aload_n 0, 1) := by decide +kernel
theorem dX8_arrowOf_1 : decode cX8_arrowOf 1 = .ok (.iload_n 1, 1) := by decide +kernel
theorem dX8_arrowOf_2 : decode cX8_arrowOf 2 = .ok (.invokevirtual 144, 3) := by decide +kernel
theorem dX8_arrowOf_5 : decode cX8_arrowOf 5 = .ok (.istore_n 3, 1) := by decide +kernel
theorem dX8_arrowOf_6 : decode cX8_arrowOf 6 = .ok (.iload_n 3, 1) := by decide +kernel
theorem dX8_arrowOf_7 : decode cX8_arrowOf 7 = .ok (.bipush (-5), 2) := by decide +kernel
theorem dX8_arrowOf_9 : decode cX8_arrowOf 9 = .ok (.if_icmp .ne 5, 3) := by decide +kernel
theorem dX8_arrowOf_12 : decode cX8_arrowOf 12 = .ok (.iconst (-1), 1) := by decide +kernel
theorem dX8_arrowOf_13 : decode cX8_arrowOf 13 = .ok (.ireturn, 1) := by decide +kernel
theorem dX8_arrowOf_14 : decode cX8_arrowOf 14 = .ok (.iload_n 2, 1) := by decide +kernel
theorem dX8_arrowOf_15 : decode cX8_arrowOf 15 = .ok (.iconst 0, 1) := by decide +kernel
theorem dX8_arrowOf_16 : decode cX8_arrowOf 16 = .ok (.bipush 7, 2) := by decide +kernel
theorem dX8_arrowOf_18 : decode cX8_arrowOf 18 = .ok (.invokestatic 79, 3) := by decide +kernel
theorem dX8_arrowOf_21 : decode cX8_arrowOf 21 = .ok (.ifCond .ne 6, 3) := by decide +kernel
theorem dX8_arrowOf_24 : decode cX8_arrowOf 24 = .ok (.bipush (-2), 2) := by decide +kernel
theorem dX8_arrowOf_26 : decode cX8_arrowOf 26 = .ok (.ireturn, 1) := by decide +kernel
theorem dX8_arrowOf_27 : decode cX8_arrowOf 27 = .ok (.aload_n 0, 1) := by decide +kernel
theorem dX8_arrowOf_28 : decode cX8_arrowOf 28 = .ok (.iload_n 3, 1) := by decide +kernel
end
section
theorem dX8_arrowOf_29 : decode cX8_arrowOf 29 = .ok (.invokevirtual 92, 3) := by decide +kernel
theorem dX8_arrowOf_32 : decode cX8_arrowOf 32 = .ok (.istore 4, 2) := by decide +kernel
theorem dX8_arrowOf_34 : decode cX8_arrowOf 34 = .ok (.aload_n 0, 1) := by decide +kernel
theorem dX8_arrowOf_35 : decode cX8_arrowOf 35 = .ok (.aload_n 0, 1) := by decide +kernel
theorem dX8_arrowOf_36 : decode cX8_arrowOf 36 = .ok (.iload_n 3, 1) := by decide +kernel
theorem dX8_arrowOf_37 : decode cX8_arrowOf 37 = .ok (.invokevirtual 70, 3) := by decide +kernel
theorem dX8_arrowOf_40 : decode cX8_arrowOf 40 = .ok (.invokevirtual 56, 3) := by decide +kernel
theorem dX8_arrowOf_43 : decode cX8_arrowOf 43 = .ok (.istore 5, 2) := by decide +kernel
theorem dX8_arrowOf_45 : decode cX8_arrowOf 45 = .ok (.aload_n 0, 1) := by decide +kernel
theorem dX8_arrowOf_46 : decode cX8_arrowOf 46 = .ok (.aload_n 0, 1) := by decide +kernel
theorem dX8_arrowOf_47 : decode cX8_arrowOf 47 = .ok (.iload_n 3, 1) := by decide +kernel
theorem dX8_arrowOf_48 : decode cX8_arrowOf 48 = .ok (.invokevirtual 73, 3) := by decide +kernel
theorem dX8_arrowOf_51 : decode cX8_arrowOf 51 = .ok (.iconst 2, 1) := by decide +kernel
theorem dX8_arrowOf_52 : decode cX8_arrowOf 52 = .ok (.invokevirtual 48, 3) := by decide +kernel
theorem dX8_arrowOf_55 : decode cX8_arrowOf 55 = .ok (.istore 6, 2) := by decide +kernel
theorem dX8_arrowOf_57 : decode cX8_arrowOf 57 = .ok (.iload_n 2, 1) := by decide +kernel
theorem dX8_arrowOf_58 : decode cX8_arrowOf 58 = .ok (.tableswitch 100 0 6 #[42, 42, 58, 61, 67, 73, 94], 42) := by decide +kernel
theorem dX8_arrowOf_100 : decode cX8_arrowOf 100 = .ok (.aload_n 0, 1) := by decide +kernel
theorem dX8_arrowOf_101 : decode cX8_arrowOf 101 = .ok (.getfield 7, 3) := by decide +kernel
theorem dX8_arrowOf_104 : decode cX8_arrowOf 104 = .ok (.bipush 122, 2) := by decide +kernel
theorem dX8_arrowOf_106 : decode cX8_arrowOf 106 = .ok (.iconst 3, 1) := by decide +kernel
theorem dX8_arrowOf_107 : decode cX8_arrowOf 107 = .ok (.iload_n 3, 1) := by decide +kernel
theorem dX8_arrowOf_108 : decode cX8_arrowOf 108 = .ok (.imul, 1) := by decide +kernel
theorem dX8_arrowOf_109 : decode cX8_arrowOf 109 = .ok (.iadd, 1) := by decide +kernel
theorem dX8_arrowOf_110 : decode cX8_arrowOf 110 = .ok (.iconst 1, 1) := by decide +kernel
theorem dX8_arrowOf_111 : decode cX8_arrowOf 111 = .ok (.iadd, 1) := by decide +kernel
theorem dX8_arrowOf_112 : decode cX8_arrowOf 112 = .ok (.iload_n 2, 1) := by decide +kernel
theorem dX8_arrowOf_113 : decode cX8_arrowOf 113 = .ok (.iadd, 1) := by decide +kernel
theorem dX8_arrowOf_114 : decode cX8_arrowOf 114 = .ok (.iaload, 1) := by decide +kernel
theorem dX8_arrowOf_115 : decode cX8_arrowOf 115 = .ok (.ireturn, 1) := by decide +kernel
theorem dX8_arrowOf_116 : decode cX8_arrowOf 116 = .ok (.iload 4, 2) := by decide +kernel
theorem dX8_arrowOf_118 : decode cX8_arrowOf 118 = .ok (.ireturn, 1) := by decide +kernel
theorem dX8_arrowOf_119 : decode cX8_arrowOf 119 = .ok (.aload_n 0, 1) := by decide +kernel
theorem dX8_arrowOf_120 : decode cX8_arrowOf 120 = .ok (.iload_n 3, 1) := by decide +kernel
theorem dX8_arrowOf_121 : decode cX8_arrowOf 121 = .ok (.invokevirtual 104, 3) := by decide +kernel
theorem dX8_arrowOf_124 : decode cX8_arrowOf 124 = .ok (.ireturn, 1) := by decide +kernel
theorem dX8_arrowOf_125 : decode cX8_arrowOf 125 = .ok (.aload_n 0, 1) := by decide +kernel
theorem dX8_arrowOf_126 : decode cX8_arrowOf 126 = .ok (.iload_n 3, 1) := by decide +kernel
theorem dX8_arrowOf_127 : decode cX8_arrowOf 127 = .ok (.invokevirtual 240, 3) := by decide +kernel
theorem dX8_arrowOf_130 : decode cX8_arrowOf 130 = .ok (.ireturn, 1) := by decide +kernel
theorem dX8_arrowOf_131 : decode cX8_arrowOf 131 = .ok (.iload 4, 2) := by decide +kernel
theorem dX8_arrowOf_133 : decode cX8_arrowOf 133 = .ok (.bipush (-5), 2) := by decide +kernel
theorem dX8_arrowOf_135 : decode cX8_arrowOf 135 = .ok (.if_icmp .ne 8, 3) := by decide +kernel
theorem dX8_arrowOf_138 : decode cX8_arrowOf 138 = .ok (.bipush (-5), 2) := by decide +kernel
theorem dX8_arrowOf_140 : decode cX8_arrowOf 140 = .ok (.goto 11, 3) := by decide +kernel
theorem dX8_arrowOf_143 : decode cX8_arrowOf 143 = .ok (.aload_n 0, 1) := by decide +kernel
theorem dX8_arrowOf_144 : decode cX8_arrowOf 144 = .ok (.iload 5, 2) := by decide +kernel
theorem dX8_arrowOf_146 : decode cX8_arrowOf 146 = .ok (.iload 6, 2) := by decide +kernel
theorem dX8_arrowOf_148 : decode cX8_arrowOf 148 = .ok (.invokevirtual 115, 3) := by decide +kernel
theorem dX8_arrowOf_151 : decode cX8_arrowOf 151 = .ok (.ireturn, 1) := by decide +kernel
theorem dX8_arrowOf_152 : decode cX8_arrowOf 152 = .ok (.aload_n 0, 1) := by decide +kernel
theorem dX8_arrowOf_153 : decode cX8_arrowOf 153 = .ok (.iload_n 3, 1) := by decide +kernel
theorem dX8_arrowOf_154 : decode cX8_arrowOf 154 = .ok (.invokevirtual 243, 3) := by decide +kernel
theorem dX8_arrowOf_157 : decode cX8_arrowOf 157 = .ok (.ireturn, 1) := by decide +kernel
theorem dX8_arrowOf_158 : decode cX8_arrowOf 158 = .ok (.iload 4, 2) := by decide +kernel
theorem dX8_arrowOf_160 : decode cX8_arrowOf 160 = .ok (.bipush (-5), 2) := by decide +kernel
theorem dX8_arrowOf_162 : decode cX8_arrowOf 162 = .ok (.if_icmp .ne 8, 3) := by decide +kernel
theorem dX8_arrowOf_165 : decode cX8_arrowOf 165 = .ok (.bipush (-5), 2) := by decide +kernel
theorem dX8_arrowOf_167 : decode cX8_arrowOf 167 = .ok (.goto 18, 3) := by decide +kernel
theorem dX8_arrowOf_170 : decode cX8_arrowOf 170 = .ok (.aload_n 0, 1) := by decide +kernel
theorem dX8_arrowOf_171 : decode cX8_arrowOf 171 = .ok (.iload 6, 2) := by decide +kernel
theorem dX8_arrowOf_173 : decode cX8_arrowOf 173 = .ok (.invokevirtual 121, 3) := by decide +kernel
theorem dX8_arrowOf_176 : decode cX8_arrowOf 176 = .ok (.aload_n 0, 1) := by decide +kernel
theorem dX8_arrowOf_177 : decode cX8_arrowOf 177 = .ok (.iload 5, 2) := by decide +kernel
theorem dX8_arrowOf_179 : decode cX8_arrowOf 179 = .ok (.iconst 1, 1) := by decide +kernel
theorem dX8_arrowOf_180 : decode cX8_arrowOf 180 = .ok (.isub, 1) := by decide +kernel
theorem dX8_arrowOf_181 : decode cX8_arrowOf 181 = .ok (.invokevirtual 121, 3) := by decide +kernel
theorem dX8_arrowOf_184 : decode cX8_arrowOf 184 = .ok (.isub, 1) := by decide +kernel
theorem dX8_arrowOf_185 : decode cX8_arrowOf 185 = .ok (.ireturn, 1) := by decide +kernel
theorem dX8_reason_0 : decode cX8_reason 0 = .ok (.aload_n 0, 1) := by decide +kernel
theorem dX8_reason_1 : decode cX8_reason 1 = .ok (.iload_n 1, 1) := by decide +kernel
theorem dX8_reason_2 : decode cX8_reason 2 = .ok (.invokevirtual 144, 3) := by decide +kernel
theorem dX8_reason_5 : decode cX8_reason 5 = .ok (.istore_n 3, 1) := by decide +kernel
theorem dX8_reason_6 : decode cX8_reason 6 = .ok (.iload_n 3, 1) := by decide +kernel
theorem dX8_reason_7 : decode cX8_reason 7 = .ok (.bipush (-5), 2) := by decide +kernel
theorem dX8_reason_9 : decode cX8_reason 9 = .ok (.if_icmp .ne 7, 3) := by decide +kernel
theorem dX8_reason_12 : decode cX8_reason 12 = .ok (.iconst (-1), 1) := by decide +kernel
theorem dX8_reason_13 : decode cX8_reason 13 = .ok (.goto 9, 3) := by decide +kernel
theorem dX8_reason_16 : decode cX8_reason 16 = .ok (.aload_n 0, 1) := by decide +kernel
theorem dX8_reason_17 : decode cX8_reason 17 = .ok (.iload_n 3, 1) := by decide +kernel
theorem dX8_reason_18 : decode cX8_reason 18 = .ok (.iload_n 2, 1) := by decide +kernel
theorem dX8_reason_19 : decode cX8_reason 19 = .ok (.invokevirtual 86, 3) := by decide +kernel
theorem dX8_reason_22 : decode cX8_reason 22 = .ok (.ireturn, 1) := by decide +kernel
theorem dX8_cell_0 : decode cX8_cell 0 = .ok (.iload_n 1, 1) := by decide +kernel
theorem dX8_cell_1 : decode cX8_cell 1 = .ok (.invokestatic 130, 3) := by decide +kernel
theorem dX8_cell_4 : decode cX8_cell 4 = .ok (.ifCond .eq 14, 3) := by decide +kernel
theorem dX8_cell_7 : decode cX8_cell 7 = .ok (.iload_n 2, 1) := by decide +kernel
theorem dX8_cell_8 : decode cX8_cell 8 = .ok (.iconst 0, 1) := by decide +kernel
theorem dX8_cell_9 : decode cX8_cell 9 = .ok (.sipush 199, 3) := by decide +kernel
theorem dX8_cell_12 : decode cX8_cell 12 = .ok (.invokestatic 79, 3) := by decide +kernel
theorem dX8_cell_15 : decode cX8_cell 15 = .ok (.ifCond .ne 5, 3) := by decide +kernel
theorem dX8_cell_18 : decode cX8_cell 18 = .ok (.iconst (-1), 1) := by decide +kernel
theorem dX8_cell_19 : decode cX8_cell 19 = .ok (.ireturn, 1) := by decide +kernel
theorem dX8_cell_20 : decode cX8_cell 20 = .ok (.aload_n 0, 1) := by decide +kernel
theorem dX8_cell_21 : decode cX8_cell 21 = .ok (.iload_n 1, 1) := by decide +kernel
theorem dX8_cell_22 : decode cX8_cell 22 = .ok (.iload_n 2, 1) := by decide +kernel
theorem dX8_cell_23 : decode cX8_cell 23 = .ok (.iload_n 2, 1) := by decide +kernel
theorem dX8_cell_24 : decode cX8_cell 24 = .ok (.bipush (-5), 2) := by decide +kernel
theorem dX8_cell_26 : decode cX8_cell 26 = .ok (.invokevirtual 62, 3) := by decide +kernel
theorem dX8_cell_29 : decode cX8_cell 29 = .ok (.istore_n 3, 1) := by decide +kernel
theorem dX8_cell_30 : decode cX8_cell 30 = .ok (.iload_n 3, 1) := by decide +kernel
theorem dX8_cell_31 : decode cX8_cell 31 = .ok (.bipush (-5), 2) := by decide +kernel
theorem dX8_cell_33 : decode cX8_cell 33 = .ok (.if_icmp .ne 8, 3) := by decide +kernel
theorem dX8_cell_36 : decode cX8_cell 36 = .ok (.bipush (-5), 2) := by decide +kernel
theorem dX8_cell_38 : decode cX8_cell 38 = .ok (.goto 9, 3) := by decide +kernel
theorem dX8_cell_41 : decode cX8_cell 41 = .ok (.aload_n 0, 1) := by decide +kernel
theorem dX8_cell_42 : decode cX8_cell 42 = .ok (.iload_n 3, 1) := by decide +kernel
theorem dX8_cell_43 : decode cX8_cell 43 = .ok (.iconst 0, 1) := by decide +kernel
theorem dX8_cell_44 : decode cX8_cell 44 = .ok (.invokevirtual 48, 3) := by decide +kernel
theorem dX8_cell_47 : decode cX8_cell 47 = .ok (.ireturn, 1) := by decide +kernel
theorem dX8_strip_0 : decode cX8_strip 0 = .ok (.iload_n 1, 1) := by decide +kernel
theorem dX8_strip_1 : decode cX8_strip 1 = .ok (.ifCond .lt 12, 3) := by decide +kernel
theorem dX8_strip_4 : decode cX8_strip 4 = .ok (.iload_n 2, 1) := by decide +kernel
theorem dX8_strip_5 : decode cX8_strip 5 = .ok (.iconst 0, 1) := by decide +kernel
theorem dX8_strip_6 : decode cX8_strip 6 = .ok (.iconst 4, 1) := by decide +kernel
theorem dX8_strip_7 : decode cX8_strip 7 = .ok (.invokestatic 79, 3) := by decide +kernel
theorem dX8_strip_10 : decode cX8_strip 10 = .ok (.ifCond .ne 6, 3) := by decide +kernel
theorem dX8_strip_13 : decode cX8_strip 13 = .ok (.bipush (-2), 2) := by decide +kernel
theorem dX8_strip_15 : decode cX8_strip 15 = .ok (.ireturn, 1) := by decide +kernel
theorem dX8_strip_16 : decode cX8_strip 16 = .ok (.aload_n 0, 1) := by decide +kernel
theorem dX8_strip_17 : decode cX8_strip 17 = .ok (.iload_n 1, 1) := by decide +kernel
theorem dX8_strip_18 : decode cX8_strip 18 = .ok (.sipush 200, 3) := by decide +kernel
theorem dX8_strip_21 : decode cX8_strip 21 = .ok (.invokestatic 76, 3) := by decide +kernel
theorem dX8_strip_24 : decode cX8_strip 24 = .ok (.invokevirtual 246, 3) := by decide +kernel
theorem dX8_strip_27 : decode cX8_strip 27 = .ok (.istore_n 3, 1) := by decide +kernel
theorem dX8_strip_28 : decode cX8_strip 28 = .ok (.iload_n 3, 1) := by decide +kernel
theorem dX8_strip_29 : decode cX8_strip 29 = .ok (.bipush (-5), 2) := by decide +kernel
theorem dX8_strip_31 : decode cX8_strip 31 = .ok (.if_icmp .ne 6, 3) := by decide +kernel
theorem dX8_strip_34 : decode cX8_strip 34 = .ok (.bipush (-5), 2) := by decide +kernel
theorem dX8_strip_36 : decode cX8_strip 36 = .ok (.ireturn, 1) := by decide +kernel
theorem dX8_strip_37 : decode cX8_strip 37 = .ok (.aload_n 0, 1) := by decide +kernel
theorem dX8_strip_38 : decode cX8_strip 38 = .ok (.iload_n 3, 1) := by decide +kernel
theorem dX8_strip_39 : decode cX8_strip 39 = .ok (.invokevirtual 118, 3) := by decide +kernel
theorem dX8_strip_42 : decode cX8_strip 42 = .ok (.istore 4, 2) := by decide +kernel
theorem dX8_strip_44 : decode cX8_strip 44 = .ok (.iconst 0, 1) := by decide +kernel
theorem dX8_strip_45 : decode cX8_strip 45 = .ok (.istore 5, 2) := by decide +kernel
theorem dX8_strip_47 : decode cX8_strip 47 = .ok (.iconst 0, 1) := by decide +kernel
theorem dX8_strip_48 : decode cX8_strip 48 = .ok (.istore 6, 2) := by decide +kernel
theorem dX8_strip_50 : decode cX8_strip 50 = .ok (.iconst 0, 1) := by decide +kernel
theorem dX8_strip_51 : decode cX8_strip 51 = .ok (.istore 7, 2) := by decide +kernel
theorem dX8_strip_53 : decode cX8_strip 53 = .ok (.iload 7, 2) := by decide +kernel
theorem dX8_strip_55 : decode cX8_strip 55 = .ok (.aload_n 0, 1) := by decide +kernel
theorem dX8_strip_56 : decode cX8_strip 56 = .ok (.getfield 7, 3) := by decide +kernel
theorem dX8_strip_59 : decode cX8_strip 59 = .ok (.iconst 0, 1) := by decide +kernel
theorem dX8_strip_60 : decode cX8_strip 60 = .ok (.iaload, 1) := by decide +kernel
theorem dX8_strip_61 : decode cX8_strip 61 = .ok (.if_icmp .ge 69, 3) := by decide +kernel
theorem dX8_strip_64 : decode cX8_strip 64 = .ok (.iload 5, 2) := by decide +kernel
theorem dX8_strip_66 : decode cX8_strip 66 = .ok (.aload_n 0, 1) := by decide +kernel
theorem dX8_strip_67 : decode cX8_strip 67 = .ok (.iload 7, 2) := by decide +kernel
theorem dX8_strip_69 : decode cX8_strip 69 = .ok (.iconst 2, 1) := by decide +kernel
theorem dX8_strip_70 : decode cX8_strip 70 = .ok (.invokevirtual 48, 3) := by decide +kernel
theorem dX8_strip_73 : decode cX8_strip 73 = .ok (.iload 4, 2) := by decide +kernel
theorem dX8_strip_75 : decode cX8_strip 75 = .ok (.if_icmp .ge 17, 3) := by decide +kernel
theorem dX8_strip_78 : decode cX8_strip 78 = .ok (.aload_n 0, 1) := by decide +kernel
theorem dX8_strip_79 : decode cX8_strip 79 = .ok (.iload 7, 2) := by decide +kernel
theorem dX8_strip_81 : decode cX8_strip 81 = .ok (.invokevirtual 56, 3) := by decide +kernel
theorem dX8_strip_84 : decode cX8_strip 84 = .ok (.iload_n 3, 1) := by decide +kernel
theorem dX8_strip_85 : decode cX8_strip 85 = .ok (.if_icmp .le 7, 3) := by decide +kernel
theorem dX8_strip_88 : decode cX8_strip 88 = .ok (.iconst 1, 1) := by decide +kernel
theorem dX8_strip_89 : decode cX8_strip 89 = .ok (.goto 4, 3) := by decide +kernel
theorem dX8_strip_92 : decode cX8_strip 92 = .ok (.iconst 0, 1) := by decide +kernel
theorem dX8_strip_93 : decode cX8_strip 93 = .ok (.iadd, 1) := by decide +kernel
theorem dX8_strip_94 : decode cX8_strip 94 = .ok (.istore 5, 2) := by decide +kernel
theorem dX8_strip_96 : decode cX8_strip 96 = .ok (.iload 6, 2) := by decide +kernel
theorem dX8_strip_98 : decode cX8_strip 98 = .ok (.aload_n 0, 1) := by decide +kernel
theorem dX8_strip_99 : decode cX8_strip 99 = .ok (.iload 7, 2) := by decide +kernel
theorem dX8_strip_101 : decode cX8_strip 101 = .ok (.iconst 2, 1) := by decide +kernel
theorem dX8_strip_102 : decode cX8_strip 102 = .ok (.invokevirtual 48, 3) := by decide +kernel
theorem dX8_strip_105 : decode cX8_strip 105 = .ok (.iload_n 3, 1) := by decide +kernel
theorem dX8_strip_106 : decode cX8_strip 106 = .ok (.iload 4, 2) := by decide +kernel
theorem dX8_strip_108 : decode cX8_strip 108 = .ok (.iconst 1, 1) := by decide +kernel
theorem dX8_strip_109 : decode cX8_strip 109 = .ok (.isub, 1) := by decide +kernel
theorem dX8_strip_110 : decode cX8_strip 110 = .ok (.invokestatic 79, 3) := by decide +kernel
theorem dX8_strip_113 : decode cX8_strip 113 = .ok (.ifCond .eq 7, 3) := by decide +kernel
theorem dX8_strip_116 : decode cX8_strip 116 = .ok (.iconst 1, 1) := by decide +kernel
theorem dX8_strip_117 : decode cX8_strip 117 = .ok (.goto 4, 3) := by decide +kernel
theorem dX8_strip_120 : decode cX8_strip 120 = .ok (.iconst 0, 1) := by decide +kernel
theorem dX8_strip_121 : decode cX8_strip 121 = .ok (.iadd, 1) := by decide +kernel
theorem dX8_strip_122 : decode cX8_strip 122 = .ok (.istore 6, 2) := by decide +kernel
theorem dX8_strip_124 : decode cX8_strip 124 = .ok (.iinc 7 1, 3) := by decide +kernel
theorem dX8_strip_127 : decode cX8_strip 127 = .ok (.goto (-74), 3) := by decide +kernel
theorem dX8_strip_130 : decode cX8_strip 130 = .ok (.iload_n 2, 1) := by decide +kernel
theorem dX8_strip_131 : decode cX8_strip 131 = .ok (.ifCond .ne 7, 3) := by decide +kernel
theorem dX8_strip_134 : decode cX8_strip 134 = .ok (.iload_n 3, 1) := by decide +kernel
theorem dX8_strip_135 : decode cX8_strip 135 = .ok (.goto 42, 3) := by decide +kernel
theorem dX8_strip_138 : decode cX8_strip 138 = .ok (.iload_n 2, 1) := by decide +kernel
theorem dX8_strip_139 : decode cX8_strip 139 = .ok (.iconst 1, 1) := by decide +kernel
theorem dX8_strip_140 : decode cX8_strip 140 = .ok (.if_icmp .ne 10, 3) := by decide +kernel
theorem dX8_strip_143 : decode cX8_strip 143 = .ok (.iload 4, 2) := by decide +kernel
theorem dX8_strip_145 : decode cX8_strip 145 = .ok (.iload_n 3, 1) := by decide +kernel
theorem dX8_strip_146 : decode cX8_strip 146 = .ok (.isub, 1) := by decide +kernel
theorem dX8_strip_147 : decode cX8_strip 147 = .ok (.goto 30, 3) := by decide +kernel
theorem dX8_strip_150 : decode cX8_strip 150 = .ok (.iload_n 2, 1) := by decide +kernel
theorem dX8_strip_151 : decode cX8_strip 151 = .ok (.iconst 2, 1) := by decide +kernel
theorem dX8_strip_152 : decode cX8_strip 152 = .ok (.if_icmp .ne 13, 3) := by decide +kernel
theorem dX8_strip_155 : decode cX8_strip 155 = .ok (.aload_n 0, 1) := by decide +kernel
theorem dX8_strip_156 : decode cX8_strip 156 = .ok (.iload_n 3, 1) := by decide +kernel
theorem dX8_strip_157 : decode cX8_strip 157 = .ok (.iload 4, 2) := by decide +kernel
theorem dX8_strip_159 : decode cX8_strip 159 = .ok (.invokevirtual 115, 3) := by decide +kernel
theorem dX8_strip_162 : decode cX8_strip 162 = .ok (.goto 15, 3) := by decide +kernel
theorem dX8_strip_165 : decode cX8_strip 165 = .ok (.iload_n 2, 1) := by decide +kernel
theorem dX8_strip_166 : decode cX8_strip 166 = .ok (.iconst 3, 1) := by decide +kernel
theorem dX8_strip_167 : decode cX8_strip 167 = .ok (.if_icmp .ne 8, 3) := by decide +kernel
theorem dX8_strip_170 : decode cX8_strip 170 = .ok (.iload 5, 2) := by decide +kernel
theorem dX8_strip_172 : decode cX8_strip 172 = .ok (.goto 5, 3) := by decide +kernel
theorem dX8_strip_175 : decode cX8_strip 175 = .ok (.iload 6, 2) := by decide +kernel
theorem dX8_strip_177 : decode cX8_strip 177 = .ok (.ireturn, 1) := by decide +kernel
theorem dX8_count_0 : decode cX8_count 0 = .ok (.iload_n 1, 1) := by decide +kernel
theorem dX8_count_1 : decode cX8_count 1 = .ok (.tableswitch 195 0 16 #[83, 90, 98, 103, 108, 114, 119, 124, 129, 139, 144, 153, 162, 171, 176, 181, 181], 83) := by decide +kernel
theorem dX8_count_84 : decode cX8_count 84 = .ok (.aload_n 0, 1) := by decide +kernel
theorem dX8_count_85 : decode cX8_count 85 = .ok (.getfield 7, 3) := by decide +kernel
theorem dX8_count_88 : decode cX8_count 88 = .ok (.iconst 0, 1) := by decide +kernel
theorem dX8_count_89 : decode cX8_count 89 = .ok (.iaload, 1) := by decide +kernel
theorem dX8_count_90 : decode cX8_count 90 = .ok (.ireturn, 1) := by decide +kernel
theorem dX8_count_91 : decode cX8_count 91 = .ok (.aload_n 0, 1) := by decide +kernel
theorem dX8_count_92 : decode cX8_count 92 = .ok (.getfield 7, 3) := by decide +kernel
theorem dX8_count_95 : decode cX8_count 95 = .ok (.bipush 121, 2) := by decide +kernel
theorem dX8_count_97 : decode cX8_count 97 = .ok (.iaload, 1) := by decide +kernel
theorem dX8_count_98 : decode cX8_count 98 = .ok (.ireturn, 1) := by decide +kernel
theorem dX8_count_99 : decode cX8_count 99 = .ok (.aload_n 0, 1) := by decide +kernel
theorem dX8_count_100 : decode cX8_count 100 = .ok (.invokevirtual 157, 3) := by decide +kernel
theorem dX8_count_103 : decode cX8_count 103 = .ok (.ireturn, 1) := by decide +kernel
theorem dX8_count_104 : decode cX8_count 104 = .ok (.aload_n 0, 1) := by decide +kernel
theorem dX8_count_105 : decode cX8_count 105 = .ok (.invokevirtual 147, 3) := by decide +kernel
theorem dX8_count_108 : decode cX8_count 108 = .ok (.ireturn, 1) := by decide +kernel
theorem dX8_count_109 : decode cX8_count 109 = .ok (.aload_n 0, 1) := by decide +kernel
theorem dX8_count_110 : decode cX8_count 110 = .ok (.iconst 1, 1) := by decide +kernel
theorem dX8_count_111 : decode cX8_count 111 = .ok (.invokevirtual 107, 3) := by decide +kernel
theorem dX8_count_114 : decode cX8_count 114 = .ok (.ireturn, 1) := by decide +kernel
theorem dX8_count_115 : decode cX8_count 115 = .ok (.aload_n 0, 1) := by decide +kernel
theorem dX8_count_116 : decode cX8_count 116 = .ok (.invokevirtual 249, 3) := by decide +kernel
theorem dX8_count_119 : decode cX8_count 119 = .ok (.ireturn, 1) := by decide +kernel
theorem dX8_count_120 : decode cX8_count 120 = .ok (.aload_n 0, 1) := by decide +kernel
theorem dX8_count_121 : decode cX8_count 121 = .ok (.invokevirtual 111, 3) := by decide +kernel
theorem dX8_count_124 : decode cX8_count 124 = .ok (.ireturn, 1) := by decide +kernel
theorem dX8_count_125 : decode cX8_count 125 = .ok (.aload_n 0, 1) := by decide +kernel
theorem dX8_count_126 : decode cX8_count 126 = .ok (.invokevirtual 252, 3) := by decide +kernel
theorem dX8_count_129 : decode cX8_count 129 = .ok (.ireturn, 1) := by decide +kernel
theorem dX8_count_130 : decode cX8_count 130 = .ok (.aload_n 0, 1) := by decide +kernel
theorem dX8_count_131 : decode cX8_count 131 = .ok (.iconst 0, 1) := by decide +kernel
theorem dX8_count_132 : decode cX8_count 132 = .ok (.aload_n 0, 1) := by decide +kernel
theorem dX8_count_133 : decode cX8_count 133 = .ok (.invokevirtual 111, 3) := by decide +kernel
theorem dX8_count_136 : decode cX8_count 136 = .ok (.invokevirtual 115, 3) := by decide +kernel
theorem dX8_count_139 : decode cX8_count 139 = .ok (.ireturn, 1) := by decide +kernel
theorem dX8_count_140 : decode cX8_count 140 = .ok (.aload_n 0, 1) := by decide +kernel
theorem dX8_count_141 : decode cX8_count 141 = .ok (.invokevirtual 255, 3) := by decide +kernel
theorem dX8_count_144 : decode cX8_count 144 = .ok (.ireturn, 1) := by decide +kernel
theorem dX8_count_145 : decode cX8_count 145 = .ok (.aload_n 0, 1) := by decide +kernel
theorem dX8_count_146 : decode cX8_count 146 = .ok (.getfield 7, 3) := by decide +kernel
theorem dX8_count_149 : decode cX8_count 149 = .ok (.sipush 444, 3) := by decide +kernel
theorem dX8_count_152 : decode cX8_count 152 = .ok (.iaload, 1) := by decide +kernel
theorem dX8_count_153 : decode cX8_count 153 = .ok (.ireturn, 1) := by decide +kernel
theorem dX8_count_154 : decode cX8_count 154 = .ok (.aload_n 0, 1) := by decide +kernel
theorem dX8_count_155 : decode cX8_count 155 = .ok (.getfield 7, 3) := by decide +kernel
theorem dX8_count_158 : decode cX8_count 158 = .ok (.sipush 445, 3) := by decide +kernel
theorem dX8_count_161 : decode cX8_count 161 = .ok (.iaload, 1) := by decide +kernel
theorem dX8_count_162 : decode cX8_count 162 = .ok (.ireturn, 1) := by decide +kernel
theorem dX8_count_163 : decode cX8_count 163 = .ok (.aload_n 0, 1) := by decide +kernel
theorem dX8_count_164 : decode cX8_count 164 = .ok (.getfield 7, 3) := by decide +kernel
theorem dX8_count_167 : decode cX8_count 167 = .ok (.sipush 446, 3) := by decide +kernel
theorem dX8_count_170 : decode cX8_count 170 = .ok (.iaload, 1) := by decide +kernel
theorem dX8_count_171 : decode cX8_count 171 = .ok (.ireturn, 1) := by decide +kernel
theorem dX8_count_172 : decode cX8_count 172 = .ok (.aload_n 0, 1) := by decide +kernel
theorem dX8_count_173 : decode cX8_count 173 = .ok (.getfield 44, 3) := by decide +kernel
theorem dX8_count_176 : decode cX8_count 176 = .ok (.ireturn, 1) := by decide +kernel
theorem dX8_count_177 : decode cX8_count 177 = .ok (.aload_n 0, 1) := by decide +kernel
theorem dX8_count_178 : decode cX8_count 178 = .ok (.getfield 203, 3) := by decide +kernel
theorem dX8_count_181 : decode cX8_count 181 = .ok (.ireturn, 1) := by decide +kernel
theorem dX8_count_182 : decode cX8_count 182 = .ok (.aload_n 0, 1) := by decide +kernel
theorem dX8_count_183 : decode cX8_count 183 = .ok (.getfield 7, 3) := by decide +kernel
theorem dX8_count_186 : decode cX8_count 186 = .ok (.sipush 442, 3) := by decide +kernel
theorem dX8_count_189 : decode cX8_count 189 = .ok (.iload_n 1, 1) := by decide +kernel
theorem dX8_count_190 : decode cX8_count 190 = .ok (.iadd, 1) := by decide +kernel
theorem dX8_count_191 : decode cX8_count 191 = .ok (.bipush 15, 2) := by decide +kernel
theorem dX8_count_193 : decode cX8_count 193 = .ok (.isub, 1) := by decide +kernel
theorem dX8_count_194 : decode cX8_count 194 = .ok (.iaload, 1) := by decide +kernel
theorem dX8_count_195 : decode cX8_count 195 = .ok (.ireturn, 1) := by decide +kernel
theorem dX8_count_196 : decode cX8_count 196 = .ok (.bipush (-2), 2) := by decide +kernel
theorem dX8_count_198 : decode cX8_count 198 = .ok (.ireturn, 1) := by decide +kernel
theorem dX8_latest_0 : decode cX8_latest 0 = .ok (.aload_n 0, 1) := by decide +kernel
theorem dX8_latest_1 : decode cX8_latest 1 = .ok (.iload_n 1, 1) := by decide +kernel
theorem dX8_latest_2 : decode cX8_latest 2 = .ok (.invokevirtual 52, 3) := by decide +kernel
theorem dX8_latest_5 : decode cX8_latest 5 = .ok (.istore_n 2, 1) := by decide +kernel
theorem dX8_latest_6 : decode cX8_latest 6 = .ok (.iload_n 2, 1) := by decide +kernel
theorem dX8_latest_7 : decode cX8_latest 7 = .ok (.bipush (-5), 2) := by decide +kernel
theorem dX8_latest_9 : decode cX8_latest 9 = .ok (.if_icmp .ne 5, 3) := by decide +kernel
theorem dX8_latest_12 : decode cX8_latest 12 = .ok (.iconst (-1), 1) := by decide +kernel
theorem dX8_latest_13 : decode cX8_latest 13 = .ok (.ireturn, 1) := by decide +kernel
theorem dX8_latest_14 : decode cX8_latest 14 = .ok (.aload_n 0, 1) := by decide +kernel
theorem dX8_latest_15 : decode cX8_latest 15 = .ok (.invokevirtual 127, 3) := by decide +kernel
theorem dX8_latest_18 : decode cX8_latest 18 = .ok (.aload_n 0, 1) := by decide +kernel
theorem dX8_latest_19 : decode cX8_latest 19 = .ok (.getfield 32, 3) := by decide +kernel
theorem dX8_latest_22 : decode cX8_latest 22 = .ok (.iload_n 2, 1) := by decide +kernel
theorem dX8_latest_23 : decode cX8_latest 23 = .ok (.iaload, 1) := by decide +kernel
theorem dX8_latest_24 : decode cX8_latest 24 = .ok (.ireturn, 1) := by decide +kernel
theorem dX8_longest_0 : decode cX8_longest 0 = .ok (.aload_n 0, 1) := by decide +kernel
theorem dX8_longest_1 : decode cX8_longest 1 = .ok (.invokevirtual 124, 3) := by decide +kernel
theorem dX8_longest_4 : decode cX8_longest 4 = .ok (.aload_n 0, 1) := by decide +kernel
theorem dX8_longest_5 : decode cX8_longest 5 = .ok (.getfield 7, 3) := by decide +kernel
theorem dX8_longest_8 : decode cX8_longest 8 = .ok (.iconst 0, 1) := by decide +kernel
theorem dX8_longest_9 : decode cX8_longest 9 = .ok (.iaload, 1) := by decide +kernel
theorem dX8_longest_10 : decode cX8_longest 10 = .ok (.istore_n 1, 1) := by decide +kernel
theorem dX8_longest_11 : decode cX8_longest 11 = .ok (.iconst 0, 1) := by decide +kernel
theorem dX8_longest_12 : decode cX8_longest 12 = .ok (.istore_n 2, 1) := by decide +kernel
theorem dX8_longest_13 : decode cX8_longest 13 = .ok (.iconst 0, 1) := by decide +kernel
theorem dX8_longest_14 : decode cX8_longest 14 = .ok (.istore_n 3, 1) := by decide +kernel
theorem dX8_longest_15 : decode cX8_longest 15 = .ok (.iload_n 3, 1) := by decide +kernel
theorem dX8_longest_16 : decode cX8_longest 16 = .ok (.iload_n 1, 1) := by decide +kernel
theorem dX8_longest_17 : decode cX8_longest 17 = .ok (.if_icmp .ge 21, 3) := by decide +kernel
theorem dX8_longest_20 : decode cX8_longest 20 = .ok (.aload_n 0, 1) := by decide +kernel
theorem dX8_longest_21 : decode cX8_longest 21 = .ok (.getfield 38, 3) := by decide +kernel
theorem dX8_longest_24 : decode cX8_longest 24 = .ok (.iload_n 3, 1) := by decide +kernel
theorem dX8_longest_25 : decode cX8_longest 25 = .ok (.aload_n 0, 1) := by decide +kernel
theorem dX8_longest_26 : decode cX8_longest 26 = .ok (.iload_n 3, 1) := by decide +kernel
theorem dX8_longest_27 : decode cX8_longest 27 = .ok (.iconst 3, 1) := by decide +kernel
theorem dX8_longest_28 : decode cX8_longest 28 = .ok (.invokevirtual 48, 3) := by decide +kernel
theorem dX8_longest_31 : decode cX8_longest 31 = .ok (.iastore, 1) := by decide +kernel
theorem dX8_longest_32 : decode cX8_longest 32 = .ok (.iinc 3 1, 3) := by decide +kernel
theorem dX8_longest_35 : decode cX8_longest 35 = .ok (.goto (-20), 3) := by decide +kernel
theorem dX8_longest_38 : decode cX8_longest 38 = .ok (.iconst 0, 1) := by decide +kernel
theorem dX8_longest_39 : decode cX8_longest 39 = .ok (.istore_n 3, 1) := by decide +kernel
theorem dX8_longest_40 : decode cX8_longest 40 = .ok (.iload_n 3, 1) := by decide +kernel
theorem dX8_longest_41 : decode cX8_longest 41 = .ok (.iload_n 1, 1) := by decide +kernel
theorem dX8_longest_42 : decode cX8_longest 42 = .ok (.if_icmp .ge 94, 3) := by decide +kernel
theorem dX8_longest_45 : decode cX8_longest 45 = .ok (.iconst 0, 1) := by decide +kernel
theorem dX8_longest_46 : decode cX8_longest 46 = .ok (.istore 4, 2) := by decide +kernel
theorem dX8_longest_48 : decode cX8_longest 48 = .ok (.iload 4, 2) := by decide +kernel
theorem dX8_longest_50 : decode cX8_longest 50 = .ok (.iload_n 1, 1) := by decide +kernel
theorem dX8_longest_51 : decode cX8_longest 51 = .ok (.iload_n 1, 1) := by decide +kernel
theorem dX8_longest_52 : decode cX8_longest 52 = .ok (.imul, 1) := by decide +kernel
theorem dX8_longest_53 : decode cX8_longest 53 = .ok (.if_icmp .ge 77, 3) := by decide +kernel
theorem dX8_longest_56 : decode cX8_longest 56 = .ok (.iload 4, 2) := by decide +kernel
theorem dX8_longest_58 : decode cX8_longest 58 = .ok (.iload_n 1, 1) := by decide +kernel
theorem dX8_longest_59 : decode cX8_longest 59 = .ok (.idiv, 1) := by decide +kernel
theorem dX8_longest_60 : decode cX8_longest 60 = .ok (.istore 5, 2) := by decide +kernel
theorem dX8_longest_62 : decode cX8_longest 62 = .ok (.aload_n 0, 1) := by decide +kernel
theorem dX8_longest_63 : decode cX8_longest 63 = .ok (.getfield 38, 3) := by decide +kernel
theorem dX8_longest_66 : decode cX8_longest 66 = .ok (.iload 5, 2) := by decide +kernel
theorem dX8_longest_68 : decode cX8_longest 68 = .ok (.aload_n 0, 1) := by decide +kernel
theorem dX8_longest_69 : decode cX8_longest 69 = .ok (.getfield 28, 3) := by decide +kernel
theorem dX8_longest_72 : decode cX8_longest 72 = .ok (.bipush 30, 2) := by decide +kernel
theorem dX8_longest_74 : decode cX8_longest 74 = .ok (.iload 5, 2) := by decide +kernel
theorem dX8_longest_76 : decode cX8_longest 76 = .ok (.imul, 1) := by decide +kernel
theorem dX8_longest_77 : decode cX8_longest 77 = .ok (.iload 4, 2) := by decide +kernel
theorem dX8_longest_79 : decode cX8_longest 79 = .ok (.iload_n 1, 1) := by decide +kernel
theorem dX8_longest_80 : decode cX8_longest 80 = .ok (.irem, 1) := by decide +kernel
theorem dX8_longest_81 : decode cX8_longest 81 = .ok (.iadd, 1) := by decide +kernel
theorem dX8_longest_82 : decode cX8_longest 82 = .ok (.baload, 1) := by decide +kernel
theorem dX8_longest_83 : decode cX8_longest 83 = .ok (.ifCond .eq 33, 3) := by decide +kernel
theorem dX8_longest_86 : decode cX8_longest 86 = .ok (.aload_n 0, 1) := by decide +kernel
theorem dX8_longest_87 : decode cX8_longest 87 = .ok (.getfield 38, 3) := by decide +kernel
theorem dX8_longest_90 : decode cX8_longest 90 = .ok (.iload 5, 2) := by decide +kernel
theorem dX8_longest_92 : decode cX8_longest 92 = .ok (.iaload, 1) := by decide +kernel
theorem dX8_longest_93 : decode cX8_longest 93 = .ok (.aload_n 0, 1) := by decide +kernel
theorem dX8_longest_94 : decode cX8_longest 94 = .ok (.iload 5, 2) := by decide +kernel
theorem dX8_longest_96 : decode cX8_longest 96 = .ok (.iconst 3, 1) := by decide +kernel
theorem dX8_longest_97 : decode cX8_longest 97 = .ok (.invokevirtual 48, 3) := by decide +kernel
theorem dX8_longest_100 : decode cX8_longest 100 = .ok (.aload_n 0, 1) := by decide +kernel
theorem dX8_longest_101 : decode cX8_longest 101 = .ok (.getfield 38, 3) := by decide +kernel
theorem dX8_longest_104 : decode cX8_longest 104 = .ok (.iload 4, 2) := by decide +kernel
theorem dX8_longest_106 : decode cX8_longest 106 = .ok (.iload_n 1, 1) := by decide +kernel
theorem dX8_longest_107 : decode cX8_longest 107 = .ok (.irem, 1) := by decide +kernel
theorem dX8_longest_108 : decode cX8_longest 108 = .ok (.iaload, 1) := by decide +kernel
theorem dX8_longest_109 : decode cX8_longest 109 = .ok (.iadd, 1) := by decide +kernel
theorem dX8_longest_110 : decode cX8_longest 110 = .ok (.invokestatic 59, 3) := by decide +kernel
theorem dX8_longest_113 : decode cX8_longest 113 = .ok (.goto 10, 3) := by decide +kernel
theorem dX8_longest_116 : decode cX8_longest 116 = .ok (.aload_n 0, 1) := by decide +kernel
theorem dX8_longest_117 : decode cX8_longest 117 = .ok (.getfield 38, 3) := by decide +kernel
theorem dX8_longest_120 : decode cX8_longest 120 = .ok (.iload 5, 2) := by decide +kernel
theorem dX8_longest_122 : decode cX8_longest 122 = .ok (.iaload, 1) := by decide +kernel
theorem dX8_longest_123 : decode cX8_longest 123 = .ok (.iastore, 1) := by decide +kernel
theorem dX8_longest_124 : decode cX8_longest 124 = .ok (.iinc 4 1, 3) := by decide +kernel
theorem dX8_longest_127 : decode cX8_longest 127 = .ok (.goto (-79), 3) := by decide +kernel
theorem dX8_longest_130 : decode cX8_longest 130 = .ok (.iinc 3 1, 3) := by decide +kernel
theorem dX8_longest_133 : decode cX8_longest 133 = .ok (.goto (-93), 3) := by decide +kernel
theorem dX8_longest_136 : decode cX8_longest 136 = .ok (.iconst 0, 1) := by decide +kernel
theorem dX8_longest_137 : decode cX8_longest 137 = .ok (.istore_n 3, 1) := by decide +kernel
theorem dX8_longest_138 : decode cX8_longest 138 = .ok (.iload_n 3, 1) := by decide +kernel
theorem dX8_longest_139 : decode cX8_longest 139 = .ok (.iload_n 1, 1) := by decide +kernel
theorem dX8_longest_140 : decode cX8_longest 140 = .ok (.if_icmp .ge 20, 3) := by decide +kernel
theorem dX8_longest_143 : decode cX8_longest 143 = .ok (.iload_n 2, 1) := by decide +kernel
theorem dX8_longest_144 : decode cX8_longest 144 = .ok (.aload_n 0, 1) := by decide +kernel
theorem dX8_longest_145 : decode cX8_longest 145 = .ok (.getfield 38, 3) := by decide +kernel
theorem dX8_longest_148 : decode cX8_longest 148 = .ok (.iload_n 3, 1) := by decide +kernel
theorem dX8_longest_149 : decode cX8_longest 149 = .ok (.iaload, 1) := by decide +kernel
theorem dX8_longest_150 : decode cX8_longest 150 = .ok (.invokestatic 59, 3) := by decide +kernel
theorem dX8_longest_153 : decode cX8_longest 153 = .ok (.istore_n 2, 1) := by decide +kernel
theorem dX8_longest_154 : decode cX8_longest 154 = .ok (.iinc 3 1, 3) := by decide +kernel
theorem dX8_longest_157 : decode cX8_longest 157 = .ok (.goto (-19), 3) := by decide +kernel
theorem dX8_longest_160 : decode cX8_longest 160 = .ok (.iload_n 2, 1) := by decide +kernel
theorem dX8_longest_161 : decode cX8_longest 161 = .ok (.ireturn, 1) := by decide +kernel
theorem dX8_share_0 : decode cX8_share 0 = .ok (.iconst 0, 1) := by decide +kernel
theorem dX8_share_1 : decode cX8_share 1 = .ok (.istore_n 1, 1) := by decide +kernel
theorem dX8_share_2 : decode cX8_share 2 = .ok (.iconst 0, 1) := by decide +kernel
theorem dX8_share_3 : decode cX8_share 3 = .ok (.istore_n 2, 1) := by decide +kernel
theorem dX8_share_4 : decode cX8_share 4 = .ok (.iload_n 2, 1) := by decide +kernel
theorem dX8_share_5 : decode cX8_share 5 = .ok (.aload_n 0, 1) := by decide +kernel
theorem dX8_share_6 : decode cX8_share 6 = .ok (.getfield 7, 3) := by decide +kernel
theorem dX8_share_9 : decode cX8_share 9 = .ok (.iconst 0, 1) := by decide +kernel
theorem dX8_share_10 : decode cX8_share 10 = .ok (.iaload, 1) := by decide +kernel
theorem dX8_share_11 : decode cX8_share 11 = .ok (.if_icmp .ge 27, 3) := by decide +kernel
theorem dX8_share_14 : decode cX8_share 14 = .ok (.iload_n 1, 1) := by decide +kernel
theorem dX8_share_15 : decode cX8_share 15 = .ok (.aload_n 0, 1) := by decide +kernel
theorem dX8_share_16 : decode cX8_share 16 = .ok (.aload_n 0, 1) := by decide +kernel
theorem dX8_share_17 : decode cX8_share 17 = .ok (.iload_n 2, 1) := by decide +kernel
theorem dX8_share_18 : decode cX8_share 18 = .ok (.iconst 2, 1) := by decide +kernel
theorem dX8_share_19 : decode cX8_share 19 = .ok (.invokevirtual 48, 3) := by decide +kernel
theorem dX8_share_22 : decode cX8_share 22 = .ok (.aload_n 0, 1) := by decide +kernel
theorem dX8_share_23 : decode cX8_share 23 = .ok (.iload_n 2, 1) := by decide +kernel
theorem dX8_share_24 : decode cX8_share 24 = .ok (.invokevirtual 56, 3) := by decide +kernel
theorem dX8_share_27 : decode cX8_share 27 = .ok (.invokevirtual 115, 3) := by decide +kernel
theorem dX8_share_30 : decode cX8_share 30 = .ok (.iadd, 1) := by decide +kernel
theorem dX8_share_31 : decode cX8_share 31 = .ok (.istore_n 1, 1) := by decide +kernel
theorem dX8_share_32 : decode cX8_share 32 = .ok (.iinc 2 1, 3) := by decide +kernel
theorem dX8_share_35 : decode cX8_share 35 = .ok (.goto (-31), 3) := by decide +kernel
theorem dX8_share_38 : decode cX8_share 38 = .ok (.aload_n 0, 1) := by decide +kernel
theorem dX8_share_39 : decode cX8_share 39 = .ok (.getfield 7, 3) := by decide +kernel
theorem dX8_share_42 : decode cX8_share 42 = .ok (.iconst 0, 1) := by decide +kernel
theorem dX8_share_43 : decode cX8_share 43 = .ok (.iaload, 1) := by decide +kernel
theorem dX8_share_44 : decode cX8_share 44 = .ok (.ifCond .ne 7, 3) := by decide +kernel
theorem dX8_share_47 : decode cX8_share 47 = .ok (.dconst 0, 1) := by decide +kernel
theorem dX8_share_48 : decode cX8_share 48 = .ok (.goto 22, 3) := by decide +kernel
theorem dX8_share_51 : decode cX8_share 51 = .ok (.iload_n 1, 1) := by decide +kernel
theorem dX8_share_52 : decode cX8_share 52 = .ok (.i2d, 1) := by decide +kernel
theorem dX8_share_53 : decode cX8_share 53 = .ok (.aload_n 0, 1) := by decide +kernel
theorem dX8_share_54 : decode cX8_share 54 = .ok (.iconst 0, 1) := by decide +kernel
theorem dX8_share_55 : decode cX8_share 55 = .ok (.aload_n 0, 1) := by decide +kernel
theorem dX8_share_56 : decode cX8_share 56 = .ok (.invokevirtual 111, 3) := by decide +kernel
theorem dX8_share_59 : decode cX8_share 59 = .ok (.invokevirtual 115, 3) := by decide +kernel
theorem dX8_share_62 : decode cX8_share 62 = .ok (.i2d, 1) := by decide +kernel
theorem dX8_share_63 : decode cX8_share 63 = .ok (.aload_n 0, 1) := by decide +kernel
theorem dX8_share_64 : decode cX8_share 64 = .ok (.invokevirtual 157, 3) := by decide +kernel
theorem dX8_share_67 : decode cX8_share 67 = .ok (.i2d, 1) := by decide +kernel
theorem dX8_share_68 : decode cX8_share 68 = .ok (.dmul, 1) := by decide +kernel
theorem dX8_share_69 : decode cX8_share 69 = .ok (.ddiv, 1) := by decide +kernel
theorem dX8_share_70 : decode cX8_share 70 = .ok (.dreturn, 1) := by decide +kernel
theorem dX8_ifSlipped_0 : decode cX8_ifSlipped 0 = .ok (.aload_n 0, 1) := by decide +kernel
theorem dX8_ifSlipped_1 : decode cX8_ifSlipped 1 = .ok (.iload_n 1, 1) := by decide +kernel
theorem dX8_ifSlipped_2 : decode cX8_ifSlipped 2 = .ok (.invokevirtual 52, 3) := by decide +kernel
theorem dX8_ifSlipped_5 : decode cX8_ifSlipped 5 = .ok (.istore_n 3, 1) := by decide +kernel
theorem dX8_ifSlipped_6 : decode cX8_ifSlipped 6 = .ok (.iload_n 3, 1) := by decide +kernel
theorem dX8_ifSlipped_7 : decode cX8_ifSlipped 7 = .ok (.bipush (-5), 2) := by decide +kernel
theorem dX8_ifSlipped_9 : decode cX8_ifSlipped 9 = .ok (.if_icmp .ne 5, 3) := by decide +kernel
theorem dX8_ifSlipped_12 : decode cX8_ifSlipped 12 = .ok (.iconst (-1), 1) := by decide +kernel
theorem dX8_ifSlipped_13 : decode cX8_ifSlipped 13 = .ok (.ireturn, 1) := by decide +kernel
theorem dX8_ifSlipped_14 : decode cX8_ifSlipped 14 = .ok (.iload_n 2, 1) := by decide +kernel
theorem dX8_ifSlipped_15 : decode cX8_ifSlipped 15 = .ok (.iconst 1, 1) := by decide +kernel
theorem dX8_ifSlipped_16 : decode cX8_ifSlipped 16 = .ok (.bipush 30, 2) := by decide +kernel
theorem dX8_ifSlipped_18 : decode cX8_ifSlipped 18 = .ok (.invokestatic 79, 3) := by decide +kernel
theorem dX8_ifSlipped_21 : decode cX8_ifSlipped 21 = .ok (.ifCond .ne 6, 3) := by decide +kernel
theorem dX8_ifSlipped_24 : decode cX8_ifSlipped 24 = .ok (.bipush (-2), 2) := by decide +kernel
theorem dX8_ifSlipped_26 : decode cX8_ifSlipped 26 = .ok (.ireturn, 1) := by decide +kernel
theorem dX8_ifSlipped_27 : decode cX8_ifSlipped 27 = .ok (.aload_n 0, 1) := by decide +kernel
theorem dX8_ifSlipped_28 : decode cX8_ifSlipped 28 = .ok (.invokevirtual 163, 3) := by decide +kernel
theorem dX8_ifSlipped_31 : decode cX8_ifSlipped 31 = .ok (.aload_n 0, 1) := by decide +kernel
theorem dX8_ifSlipped_32 : decode cX8_ifSlipped 32 = .ok (.iload_n 3, 1) := by decide +kernel
theorem dX8_ifSlipped_33 : decode cX8_ifSlipped 33 = .ok (.iload_n 2, 1) := by decide +kernel
theorem dX8_ifSlipped_34 : decode cX8_ifSlipped 34 = .ok (.invokevirtual 160, 3) := by decide +kernel
theorem dX8_ifSlipped_37 : decode cX8_ifSlipped 37 = .ok (.istore 4, 2) := by decide +kernel
theorem dX8_ifSlipped_39 : decode cX8_ifSlipped 39 = .ok (.aload_n 0, 1) := by decide +kernel
theorem dX8_ifSlipped_40 : decode cX8_ifSlipped 40 = .ok (.invokevirtual 111, 3) := by decide +kernel
theorem dX8_ifSlipped_43 : decode cX8_ifSlipped 43 = .ok (.istore 5, 2) := by decide +kernel
theorem dX8_ifSlipped_45 : decode cX8_ifSlipped 45 = .ok (.aload_n 0, 1) := by decide +kernel
theorem dX8_ifSlipped_46 : decode cX8_ifSlipped 46 = .ok (.invokevirtual 41, 3) := by decide +kernel
theorem dX8_ifSlipped_49 : decode cX8_ifSlipped 49 = .ok (.iload 5, 2) := by decide +kernel
theorem dX8_ifSlipped_51 : decode cX8_ifSlipped 51 = .ok (.ireturn, 1) := by decide +kernel
theorem dX8_bestSwap_0 : decode cX8_bestSwap 0 = .ok (.iload_n 1, 1) := by decide +kernel
theorem dX8_bestSwap_1 : decode cX8_bestSwap 1 = .ok (.iconst 0, 1) := by decide +kernel
theorem dX8_bestSwap_2 : decode cX8_bestSwap 2 = .ok (.iconst 3, 1) := by decide +kernel
theorem dX8_bestSwap_3 : decode cX8_bestSwap 3 = .ok (.invokestatic 79, 3) := by decide +kernel
theorem dX8_bestSwap_6 : decode cX8_bestSwap 6 = .ok (.ifCond .ne 6, 3) := by decide +kernel
theorem dX8_bestSwap_9 : decode cX8_bestSwap 9 = .ok (.bipush (-2), 2) := by decide +kernel
theorem dX8_bestSwap_11 : decode cX8_bestSwap 11 = .ok (.ireturn, 1) := by decide +kernel
theorem dX8_bestSwap_12 : decode cX8_bestSwap 12 = .ok (.aload_n 0, 1) := by decide +kernel
theorem dX8_bestSwap_13 : decode cX8_bestSwap 13 = .ok (.invokevirtual 147, 3) := by decide +kernel
theorem dX8_bestSwap_16 : decode cX8_bestSwap 16 = .ok (.istore_n 2, 1) := by decide +kernel
theorem dX8_bestSwap_17 : decode cX8_bestSwap 17 = .ok (.aload_n 0, 1) := by decide +kernel
theorem dX8_bestSwap_18 : decode cX8_bestSwap 18 = .ok (.invokevirtual 249, 3) := by decide +kernel
theorem dX8_bestSwap_21 : decode cX8_bestSwap 21 = .ok (.istore_n 3, 1) := by decide +kernel
theorem dX8_bestSwap_22 : decode cX8_bestSwap 22 = .ok (.bipush (-5), 2) := by decide +kernel
theorem dX8_bestSwap_24 : decode cX8_bestSwap 24 = .ok (.istore 4, 2) := by decide +kernel
theorem dX8_bestSwap_26 : decode cX8_bestSwap 26 = .ok (.iconst 0, 1) := by decide +kernel
theorem dX8_bestSwap_27 : decode cX8_bestSwap 27 = .ok (.istore 5, 2) := by decide +kernel
theorem dX8_bestSwap_29 : decode cX8_bestSwap 29 = .ok (.iload 5, 2) := by decide +kernel
theorem dX8_bestSwap_31 : decode cX8_bestSwap 31 = .ok (.sipush 144, 3) := by decide +kernel
theorem dX8_bestSwap_34 : decode cX8_bestSwap 34 = .ok (.if_icmp .ge 133, 3) := by decide +kernel
theorem dX8_bestSwap_37 : decode cX8_bestSwap 37 = .ok (.iload 5, 2) := by decide +kernel
theorem dX8_bestSwap_39 : decode cX8_bestSwap 39 = .ok (.bipush 12, 2) := by decide +kernel
theorem dX8_bestSwap_41 : decode cX8_bestSwap 41 = .ok (.idiv, 1) := by decide +kernel
theorem dX8_bestSwap_42 : decode cX8_bestSwap 42 = .ok (.istore 6, 2) := by decide +kernel
theorem dX8_bestSwap_44 : decode cX8_bestSwap 44 = .ok (.iload 5, 2) := by decide +kernel
theorem dX8_bestSwap_46 : decode cX8_bestSwap 46 = .ok (.bipush 12, 2) := by decide +kernel
theorem dX8_bestSwap_48 : decode cX8_bestSwap 48 = .ok (.irem, 1) := by decide +kernel
theorem dX8_bestSwap_49 : decode cX8_bestSwap 49 = .ok (.istore 7, 2) := by decide +kernel
theorem dX8_bestSwap_51 : decode cX8_bestSwap 51 = .ok (.iload 6, 2) := by decide +kernel
theorem dX8_bestSwap_53 : decode cX8_bestSwap 53 = .ok (.iload 7, 2) := by decide +kernel
theorem dX8_bestSwap_55 : decode cX8_bestSwap 55 = .ok (.if_icmp .ge 106, 3) := by decide +kernel
theorem dX8_bestSwap_58 : decode cX8_bestSwap 58 = .ok (.aload_n 0, 1) := by decide +kernel
theorem dX8_bestSwap_59 : decode cX8_bestSwap 59 = .ok (.iload 6, 2) := by decide +kernel
theorem dX8_bestSwap_61 : decode cX8_bestSwap 61 = .ok (.iload 7, 2) := by decide +kernel
theorem dX8_bestSwap_63 : decode cX8_bestSwap 63 = .ok (.invokevirtual 150, 3) := by decide +kernel
theorem dX8_bestSwap_66 : decode cX8_bestSwap 66 = .ok (.aload_n 0, 1) := by decide +kernel
theorem dX8_bestSwap_67 : decode cX8_bestSwap 67 = .ok (.invokevirtual 147, 3) := by decide +kernel
theorem dX8_bestSwap_70 : decode cX8_bestSwap 70 = .ok (.istore 8, 2) := by decide +kernel
theorem dX8_bestSwap_72 : decode cX8_bestSwap 72 = .ok (.iload 8, 2) := by decide +kernel
theorem dX8_bestSwap_74 : decode cX8_bestSwap 74 = .ok (.iload_n 2, 1) := by decide +kernel
theorem dX8_bestSwap_75 : decode cX8_bestSwap 75 = .ok (.if_icmp .gt 10, 3) := by decide +kernel
theorem dX8_bestSwap_78 : decode cX8_bestSwap 78 = .ok (.aload_n 0, 1) := by decide +kernel
theorem dX8_bestSwap_79 : decode cX8_bestSwap 79 = .ok (.invokevirtual 249, 3) := by decide +kernel
theorem dX8_bestSwap_82 : decode cX8_bestSwap 82 = .ok (.goto 6, 3) := by decide +kernel
theorem dX8_bestSwap_85 : decode cX8_bestSwap 85 = .ok (.ldc_w 258, 3) := by decide +kernel
theorem dX8_bestSwap_88 : decode cX8_bestSwap 88 = .ok (.istore 9, 2) := by decide +kernel
theorem dX8_bestSwap_90 : decode cX8_bestSwap 90 = .ok (.iload 8, 2) := by decide +kernel
theorem dX8_bestSwap_92 : decode cX8_bestSwap 92 = .ok (.iload_n 2, 1) := by decide +kernel
theorem dX8_bestSwap_93 : decode cX8_bestSwap 93 = .ok (.if_icmp .lt 15, 3) := by decide +kernel
theorem dX8_bestSwap_96 : decode cX8_bestSwap 96 = .ok (.iload 8, 2) := by decide +kernel
theorem dX8_bestSwap_98 : decode cX8_bestSwap 98 = .ok (.iload_n 2, 1) := by decide +kernel
theorem dX8_bestSwap_99 : decode cX8_bestSwap 99 = .ok (.if_icmp .ne 13, 3) := by decide +kernel
theorem dX8_bestSwap_102 : decode cX8_bestSwap 102 = .ok (.iload 9, 2) := by decide +kernel
theorem dX8_bestSwap_104 : decode cX8_bestSwap 104 = .ok (.iload_n 3, 1) := by decide +kernel
theorem dX8_bestSwap_105 : decode cX8_bestSwap 105 = .ok (.if_icmp .ge 7, 3) := by decide +kernel
theorem dX8_bestSwap_108 : decode cX8_bestSwap 108 = .ok (.iconst 1, 1) := by decide +kernel
theorem dX8_bestSwap_109 : decode cX8_bestSwap 109 = .ok (.goto 4, 3) := by decide +kernel
theorem dX8_bestSwap_112 : decode cX8_bestSwap 112 = .ok (.iconst 0, 1) := by decide +kernel
theorem dX8_bestSwap_113 : decode cX8_bestSwap 113 = .ok (.istore 10, 2) := by decide +kernel
theorem dX8_bestSwap_115 : decode cX8_bestSwap 115 = .ok (.iload 10, 2) := by decide +kernel
theorem dX8_bestSwap_117 : decode cX8_bestSwap 117 = .ok (.ifCond .eq 8, 3) := by decide +kernel
theorem dX8_bestSwap_120 : decode cX8_bestSwap 120 = .ok (.iload 5, 2) := by decide +kernel
theorem dX8_bestSwap_122 : decode cX8_bestSwap 122 = .ok (.goto 5, 3) := by decide +kernel
theorem dX8_bestSwap_125 : decode cX8_bestSwap 125 = .ok (.iload 4, 2) := by decide +kernel
theorem dX8_bestSwap_127 : decode cX8_bestSwap 127 = .ok (.istore 4, 2) := by decide +kernel
theorem dX8_bestSwap_129 : decode cX8_bestSwap 129 = .ok (.iload 10, 2) := by decide +kernel
theorem dX8_bestSwap_131 : decode cX8_bestSwap 131 = .ok (.ifCond .eq 8, 3) := by decide +kernel
theorem dX8_bestSwap_134 : decode cX8_bestSwap 134 = .ok (.iload 9, 2) := by decide +kernel
theorem dX8_bestSwap_136 : decode cX8_bestSwap 136 = .ok (.goto 4, 3) := by decide +kernel
theorem dX8_bestSwap_139 : decode cX8_bestSwap 139 = .ok (.iload_n 3, 1) := by decide +kernel
theorem dX8_bestSwap_140 : decode cX8_bestSwap 140 = .ok (.istore_n 3, 1) := by decide +kernel
theorem dX8_bestSwap_141 : decode cX8_bestSwap 141 = .ok (.iload 10, 2) := by decide +kernel
theorem dX8_bestSwap_143 : decode cX8_bestSwap 143 = .ok (.ifCond .eq 8, 3) := by decide +kernel
theorem dX8_bestSwap_146 : decode cX8_bestSwap 146 = .ok (.iload 8, 2) := by decide +kernel
theorem dX8_bestSwap_148 : decode cX8_bestSwap 148 = .ok (.goto 4, 3) := by decide +kernel
theorem dX8_bestSwap_151 : decode cX8_bestSwap 151 = .ok (.iload_n 2, 1) := by decide +kernel
theorem dX8_bestSwap_152 : decode cX8_bestSwap 152 = .ok (.istore_n 2, 1) := by decide +kernel
theorem dX8_bestSwap_153 : decode cX8_bestSwap 153 = .ok (.aload_n 0, 1) := by decide +kernel
theorem dX8_bestSwap_154 : decode cX8_bestSwap 154 = .ok (.iload 6, 2) := by decide +kernel
theorem dX8_bestSwap_156 : decode cX8_bestSwap 156 = .ok (.iload 7, 2) := by decide +kernel
theorem dX8_bestSwap_158 : decode cX8_bestSwap 158 = .ok (.invokevirtual 150, 3) := by decide +kernel
theorem dX8_bestSwap_161 : decode cX8_bestSwap 161 = .ok (.iinc 5 1, 3) := by decide +kernel
theorem dX8_bestSwap_164 : decode cX8_bestSwap 164 = .ok (.goto (-135), 3) := by decide +kernel
theorem dX8_bestSwap_167 : decode cX8_bestSwap 167 = .ok (.iload 4, 2) := by decide +kernel
theorem dX8_bestSwap_169 : decode cX8_bestSwap 169 = .ok (.bipush (-5), 2) := by decide +kernel
theorem dX8_bestSwap_171 : decode cX8_bestSwap 171 = .ok (.if_icmp .ne 8, 3) := by decide +kernel
theorem dX8_bestSwap_174 : decode cX8_bestSwap 174 = .ok (.bipush (-5), 2) := by decide +kernel
theorem dX8_bestSwap_176 : decode cX8_bestSwap 176 = .ok (.goto 38, 3) := by decide +kernel
theorem dX8_bestSwap_179 : decode cX8_bestSwap 179 = .ok (.iload_n 1, 1) := by decide +kernel
theorem dX8_bestSwap_180 : decode cX8_bestSwap 180 = .ok (.ifCond .ne 11, 3) := by decide +kernel
theorem dX8_bestSwap_183 : decode cX8_bestSwap 183 = .ok (.iload 4, 2) := by decide +kernel
theorem dX8_bestSwap_185 : decode cX8_bestSwap 185 = .ok (.bipush 12, 2) := by decide +kernel
theorem dX8_bestSwap_187 : decode cX8_bestSwap 187 = .ok (.idiv, 1) := by decide +kernel
theorem dX8_bestSwap_188 : decode cX8_bestSwap 188 = .ok (.goto 26, 3) := by decide +kernel
theorem dX8_bestSwap_191 : decode cX8_bestSwap 191 = .ok (.iload_n 1, 1) := by decide +kernel
theorem dX8_bestSwap_192 : decode cX8_bestSwap 192 = .ok (.iconst 1, 1) := by decide +kernel
theorem dX8_bestSwap_193 : decode cX8_bestSwap 193 = .ok (.if_icmp .ne 11, 3) := by decide +kernel
theorem dX8_bestSwap_196 : decode cX8_bestSwap 196 = .ok (.iload 4, 2) := by decide +kernel
theorem dX8_bestSwap_198 : decode cX8_bestSwap 198 = .ok (.bipush 12, 2) := by decide +kernel
theorem dX8_bestSwap_200 : decode cX8_bestSwap 200 = .ok (.irem, 1) := by decide +kernel
theorem dX8_bestSwap_201 : decode cX8_bestSwap 201 = .ok (.goto 13, 3) := by decide +kernel
theorem dX8_bestSwap_204 : decode cX8_bestSwap 204 = .ok (.iload_n 1, 1) := by decide +kernel
theorem dX8_bestSwap_205 : decode cX8_bestSwap 205 = .ok (.iconst 2, 1) := by decide +kernel
theorem dX8_bestSwap_206 : decode cX8_bestSwap 206 = .ok (.if_icmp .ne 7, 3) := by decide +kernel
theorem dX8_bestSwap_209 : decode cX8_bestSwap 209 = .ok (.iload_n 2, 1) := by decide +kernel
theorem dX8_bestSwap_210 : decode cX8_bestSwap 210 = .ok (.goto 4, 3) := by decide +kernel
theorem dX8_bestSwap_213 : decode cX8_bestSwap 213 = .ok (.iload_n 3, 1) := by decide +kernel
theorem dX8_bestSwap_214 : decode cX8_bestSwap 214 = .ok (.ireturn, 1) := by decide +kernel
theorem dX8_bestLane_0 : decode cX8_bestLane 0 = .ok (.aload_n 0, 1) := by decide +kernel
theorem dX8_bestLane_1 : decode cX8_bestLane 1 = .ok (.iload_n 1, 1) := by decide +kernel
theorem dX8_bestLane_2 : decode cX8_bestLane 2 = .ok (.invokevirtual 52, 3) := by decide +kernel
theorem dX8_bestLane_5 : decode cX8_bestLane 5 = .ok (.istore_n 2, 1) := by decide +kernel
theorem dX8_bestLane_6 : decode cX8_bestLane 6 = .ok (.iload_n 2, 1) := by decide +kernel
theorem dX8_bestLane_7 : decode cX8_bestLane 7 = .ok (.bipush (-5), 2) := by decide +kernel
theorem dX8_bestLane_9 : decode cX8_bestLane 9 = .ok (.if_icmp .ne 5, 3) := by decide +kernel
theorem dX8_bestLane_12 : decode cX8_bestLane 12 = .ok (.iconst (-1), 1) := by decide +kernel
theorem dX8_bestLane_13 : decode cX8_bestLane 13 = .ok (.ireturn, 1) := by decide +kernel
theorem dX8_bestLane_14 : decode cX8_bestLane 14 = .ok (.aload_n 0, 1) := by decide +kernel
theorem dX8_bestLane_15 : decode cX8_bestLane 15 = .ok (.iload_n 2, 1) := by decide +kernel
theorem dX8_bestLane_16 : decode cX8_bestLane 16 = .ok (.iconst 1, 1) := by decide +kernel
theorem dX8_bestLane_17 : decode cX8_bestLane 17 = .ok (.invokevirtual 48, 3) := by decide +kernel
theorem dX8_bestLane_20 : decode cX8_bestLane 20 = .ok (.istore_n 3, 1) := by decide +kernel
theorem dX8_bestLane_21 : decode cX8_bestLane 21 = .ok (.bipush (-5), 2) := by decide +kernel
theorem dX8_bestLane_23 : decode cX8_bestLane 23 = .ok (.istore 4, 2) := by decide +kernel
theorem dX8_bestLane_25 : decode cX8_bestLane 25 = .ok (.ldc_w 258, 3) := by decide +kernel
theorem dX8_bestLane_28 : decode cX8_bestLane 28 = .ok (.istore 5, 2) := by decide +kernel
theorem dX8_bestLane_30 : decode cX8_bestLane 30 = .ok (.iconst 0, 1) := by decide +kernel
theorem dX8_bestLane_31 : decode cX8_bestLane 31 = .ok (.istore 6, 2) := by decide +kernel
theorem dX8_bestLane_33 : decode cX8_bestLane 33 = .ok (.iload 6, 2) := by decide +kernel
theorem dX8_bestLane_35 : decode cX8_bestLane 35 = .ok (.bipush 12, 2) := by decide +kernel
theorem dX8_bestLane_37 : decode cX8_bestLane 37 = .ok (.if_icmp .ge 92, 3) := by decide +kernel
theorem dX8_bestLane_40 : decode cX8_bestLane 40 = .ok (.aload_n 0, 1) := by decide +kernel
theorem dX8_bestLane_41 : decode cX8_bestLane 41 = .ok (.iload 6, 2) := by decide +kernel
theorem dX8_bestLane_43 : decode cX8_bestLane 43 = .ok (.aload_n 0, 1) := by decide +kernel
theorem dX8_bestLane_44 : decode cX8_bestLane 44 = .ok (.iload_n 2, 1) := by decide +kernel
theorem dX8_bestLane_45 : decode cX8_bestLane 45 = .ok (.iconst 2, 1) := by decide +kernel
theorem dX8_bestLane_46 : decode cX8_bestLane 46 = .ok (.invokevirtual 48, 3) := by decide +kernel
theorem dX8_bestLane_49 : decode cX8_bestLane 49 = .ok (.aload_n 0, 1) := by decide +kernel
theorem dX8_bestLane_50 : decode cX8_bestLane 50 = .ok (.iload_n 2, 1) := by decide +kernel
theorem dX8_bestLane_51 : decode cX8_bestLane 51 = .ok (.invokevirtual 56, 3) := by decide +kernel
theorem dX8_bestLane_54 : decode cX8_bestLane 54 = .ok (.iconst 1, 1) := by decide +kernel
theorem dX8_bestLane_55 : decode cX8_bestLane 55 = .ok (.isub, 1) := by decide +kernel
theorem dX8_bestLane_56 : decode cX8_bestLane 56 = .ok (.iload_n 2, 1) := by decide +kernel
theorem dX8_bestLane_57 : decode cX8_bestLane 57 = .ok (.invokevirtual 62, 3) := by decide +kernel
theorem dX8_bestLane_60 : decode cX8_bestLane 60 = .ok (.bipush (-5), 2) := by decide +kernel
theorem dX8_bestLane_62 : decode cX8_bestLane 62 = .ok (.if_icmp .ne 61, 3) := by decide +kernel
theorem dX8_bestLane_65 : decode cX8_bestLane 65 = .ok (.aload_n 0, 1) := by decide +kernel
theorem dX8_bestLane_66 : decode cX8_bestLane 66 = .ok (.getfield 7, 3) := by decide +kernel
theorem dX8_bestLane_69 : decode cX8_bestLane 69 = .ok (.iconst 1, 1) := by decide +kernel
theorem dX8_bestLane_70 : decode cX8_bestLane 70 = .ok (.iconst 4, 1) := by decide +kernel
theorem dX8_bestLane_71 : decode cX8_bestLane 71 = .ok (.iload_n 2, 1) := by decide +kernel
theorem dX8_bestLane_72 : decode cX8_bestLane 72 = .ok (.imul, 1) := by decide +kernel
theorem dX8_bestLane_73 : decode cX8_bestLane 73 = .ok (.iadd, 1) := by decide +kernel
theorem dX8_bestLane_74 : decode cX8_bestLane 74 = .ok (.iconst 1, 1) := by decide +kernel
theorem dX8_bestLane_75 : decode cX8_bestLane 75 = .ok (.iadd, 1) := by decide +kernel
theorem dX8_bestLane_76 : decode cX8_bestLane 76 = .ok (.iload 6, 2) := by decide +kernel
theorem dX8_bestLane_78 : decode cX8_bestLane 78 = .ok (.iastore, 1) := by decide +kernel
theorem dX8_bestLane_79 : decode cX8_bestLane 79 = .ok (.aload_n 0, 1) := by decide +kernel
theorem dX8_bestLane_80 : decode cX8_bestLane 80 = .ok (.invokevirtual 147, 3) := by decide +kernel
theorem dX8_bestLane_83 : decode cX8_bestLane 83 = .ok (.istore 7, 2) := by decide +kernel
theorem dX8_bestLane_85 : decode cX8_bestLane 85 = .ok (.iload 7, 2) := by decide +kernel
theorem dX8_bestLane_87 : decode cX8_bestLane 87 = .ok (.iload 5, 2) := by decide +kernel
theorem dX8_bestLane_89 : decode cX8_bestLane 89 = .ok (.if_icmp .ge 8, 3) := by decide +kernel
theorem dX8_bestLane_92 : decode cX8_bestLane 92 = .ok (.iload 6, 2) := by decide +kernel
theorem dX8_bestLane_94 : decode cX8_bestLane 94 = .ok (.goto 5, 3) := by decide +kernel
theorem dX8_bestLane_97 : decode cX8_bestLane 97 = .ok (.iload 4, 2) := by decide +kernel
theorem dX8_bestLane_99 : decode cX8_bestLane 99 = .ok (.istore 4, 2) := by decide +kernel
theorem dX8_bestLane_101 : decode cX8_bestLane 101 = .ok (.iload 7, 2) := by decide +kernel
theorem dX8_bestLane_103 : decode cX8_bestLane 103 = .ok (.iload 5, 2) := by decide +kernel
theorem dX8_bestLane_105 : decode cX8_bestLane 105 = .ok (.invokestatic 76, 3) := by decide +kernel
theorem dX8_bestLane_108 : decode cX8_bestLane 108 = .ok (.istore 5, 2) := by decide +kernel
theorem dX8_bestLane_110 : decode cX8_bestLane 110 = .ok (.aload_n 0, 1) := by decide +kernel
theorem dX8_bestLane_111 : decode cX8_bestLane 111 = .ok (.getfield 7, 3) := by decide +kernel
theorem dX8_bestLane_114 : decode cX8_bestLane 114 = .ok (.iconst 1, 1) := by decide +kernel
theorem dX8_bestLane_115 : decode cX8_bestLane 115 = .ok (.iconst 4, 1) := by decide +kernel
theorem dX8_bestLane_116 : decode cX8_bestLane 116 = .ok (.iload_n 2, 1) := by decide +kernel
theorem dX8_bestLane_117 : decode cX8_bestLane 117 = .ok (.imul, 1) := by decide +kernel
theorem dX8_bestLane_118 : decode cX8_bestLane 118 = .ok (.iadd, 1) := by decide +kernel
theorem dX8_bestLane_119 : decode cX8_bestLane 119 = .ok (.iconst 1, 1) := by decide +kernel
theorem dX8_bestLane_120 : decode cX8_bestLane 120 = .ok (.iadd, 1) := by decide +kernel
theorem dX8_bestLane_121 : decode cX8_bestLane 121 = .ok (.iload_n 3, 1) := by decide +kernel
theorem dX8_bestLane_122 : decode cX8_bestLane 122 = .ok (.iastore, 1) := by decide +kernel
theorem dX8_bestLane_123 : decode cX8_bestLane 123 = .ok (.iinc 6 1, 3) := by decide +kernel
theorem dX8_bestLane_126 : decode cX8_bestLane 126 = .ok (.goto (-93), 3) := by decide +kernel
theorem dX8_bestLane_129 : decode cX8_bestLane 129 = .ok (.iload 4, 2) := by decide +kernel
theorem dX8_bestLane_131 : decode cX8_bestLane 131 = .ok (.ireturn, 1) := by decide +kernel
theorem dJ9_abs_0f7a4_0 : decode cJ9_abs_0f7a4 0 = .ok (.iload_n 0, 1) := by decide +kernel
theorem dJ9_abs_0f7a4_1 : decode cJ9_abs_0f7a4 1 = .ok (.ifCond .ge 8, 3) := by decide +kernel
theorem dJ9_abs_0f7a4_4 : decode cJ9_abs_0f7a4 4 = .ok (.iload_n 0, 1) := by decide +kernel
theorem dJ9_abs_0f7a4_5 : decode cJ9_abs_0f7a4 5 = .ok (.ineg, 1) := by decide +kernel
theorem dJ9_abs_0f7a4_6 : decode cJ9_abs_0f7a4 6 = .ok (.goto 4, 3) := by decide +kernel
theorem dJ9_abs_0f7a4_9 : decode cJ9_abs_0f7a4 9 = .ok (.iload_n 0, 1) := by decide +kernel
theorem dJ9_abs_0f7a4_10 : decode cJ9_abs_0f7a4 10 = .ok (.ireturn, 1) := by decide +kernel
theorem dJ9_max_7cf53_0 : decode cJ9_max_7cf53 0 = .ok (.iload_n 0, 1) := by decide +kernel
theorem dJ9_max_7cf53_1 : decode cJ9_max_7cf53 1 = .ok (.iload_n 1, 1) := by decide +kernel
theorem dJ9_max_7cf53_2 : decode cJ9_max_7cf53 2 = .ok (.if_icmp .lt 7, 3) := by decide +kernel
theorem dJ9_max_7cf53_5 : decode cJ9_max_7cf53 5 = .ok (.iload_n 0, 1) := by decide +kernel
theorem dJ9_max_7cf53_6 : decode cJ9_max_7cf53 6 = .ok (.goto 4, 3) := by decide +kernel
theorem dJ9_max_7cf53_9 : decode cJ9_max_7cf53 9 = .ok (.iload_n 1, 1) := by decide +kernel
theorem dJ9_max_7cf53_10 : decode cJ9_max_7cf53 10 = .ok (.ireturn, 1) := by decide +kernel
theorem dJ9_min_7cf53_0 : decode cJ9_min_7cf53 0 = .ok (.iload_n 0, 1) := by decide +kernel
theorem dJ9_min_7cf53_1 : decode cJ9_min_7cf53 1 = .ok (.iload_n 1, 1) := by decide +kernel
theorem dJ9_min_7cf53_2 : decode cJ9_min_7cf53 2 = .ok (.if_icmp .gt 7, 3) := by decide +kernel
theorem dJ9_min_7cf53_5 : decode cJ9_min_7cf53 5 = .ok (.iload_n 0, 1) := by decide +kernel
theorem dJ9_min_7cf53_6 : decode cJ9_min_7cf53 6 = .ok (.goto 4, 3) := by decide +kernel
theorem dJ9_min_7cf53_9 : decode cJ9_min_7cf53 9 = .ok (.iload_n 1, 1) := by decide +kernel
theorem dJ9_min_7cf53_10 : decode cJ9_min_7cf53 10 = .ok (.ireturn, 1) := by decide +kernel
theorem dJ7_fill_53178_0 : decode cJ7_fill_53178 0 = .ok (.iconst 0, 1) := by decide +kernel
theorem dJ7_fill_53178_1 : decode cJ7_fill_53178 1 = .ok (.istore_n 2, 1) := by decide +kernel
theorem dJ7_fill_53178_2 : decode cJ7_fill_53178 2 = .ok (.aload_n 0, 1) := by decide +kernel
theorem dJ7_fill_53178_3 : decode cJ7_fill_53178 3 = .ok (.arraylength, 1) := by decide +kernel
theorem dJ7_fill_53178_4 : decode cJ7_fill_53178 4 = .ok (.istore_n 3, 1) := by decide +kernel
theorem dJ7_fill_53178_5 : decode cJ7_fill_53178 5 = .ok (.iload_n 2, 1) := by decide +kernel
theorem dJ7_fill_53178_6 : decode cJ7_fill_53178 6 = .ok (.iload_n 3, 1) := by decide +kernel
theorem dJ7_fill_53178_7 : decode cJ7_fill_53178 7 = .ok (.if_icmp .ge 13, 3) := by decide +kernel
theorem dJ7_fill_53178_10 : decode cJ7_fill_53178 10 = .ok (.aload_n 0, 1) := by decide +kernel
theorem dJ7_fill_53178_11 : decode cJ7_fill_53178 11 = .ok (.iload_n 2, 1) := by decide +kernel
theorem dJ7_fill_53178_12 : decode cJ7_fill_53178 12 = .ok (.iload_n 1, 1) := by decide +kernel
theorem dJ7_fill_53178_13 : decode cJ7_fill_53178 13 = .ok (.iastore, 1) := by decide +kernel
theorem dJ7_fill_53178_14 : decode cJ7_fill_53178 14 = .ok (.iinc 2 1, 3) := by decide +kernel
theorem dJ7_fill_53178_17 : decode cJ7_fill_53178 17 = .ok (.goto (-12), 3) := by decide +kernel
theorem dJ7_fill_53178_20 : decode cJ7_fill_53178 20 = .ok (.return_, 1) := by decide +kernel
theorem dL_law_0 : decode cL_law 0 = .ok (.new 7, 3) := by decide +kernel
theorem dL_law_3 : decode cL_law 3 = .ok (.dup, 1) := by decide +kernel
theorem dL_law_4 : decode cL_law 4 = .ok (.invokespecial 9, 3) := by decide +kernel
theorem dL_law_7 : decode cL_law 7 = .ok (.astore_n 1, 1) := by decide +kernel
theorem dL_law_8 : decode cL_law 8 = .ok (.new 10, 3) := by decide +kernel
theorem dL_law_11 : decode cL_law 11 = .ok (.dup, 1) := by decide +kernel
theorem dL_law_12 : decode cL_law 12 = .ok (.invokespecial 12, 3) := by decide +kernel
theorem dL_law_15 : decode cL_law 15 = .ok (.astore_n 2, 1) := by decide +kernel
theorem dL_law_16 : decode cL_law 16 = .ok (.iconst 0, 1) := by decide +kernel
theorem dL_law_17 : decode cL_law 17 = .ok (.istore_n 3, 1) := by decide +kernel
theorem dL_law_18 : decode cL_law 18 = .ok (.iload_n 3, 1) := by decide +kernel
theorem dL_law_19 : decode cL_law 19 = .ok (.aload_n 0, 1) := by decide +kernel
theorem dL_law_20 : decode cL_law 20 = .ok (.arraylength, 1) := by decide +kernel
theorem dL_law_21 : decode cL_law 21 = .ok (.iconst 4, 1) := by decide +kernel
theorem dL_law_22 : decode cL_law 22 = .ok (.isub, 1) := by decide +kernel
theorem dL_law_23 : decode cL_law 23 = .ok (.if_icmp .gt 941, 3) := by decide +kernel
theorem dL_law_26 : decode cL_law 26 = .ok (.aload_n 0, 1) := by decide +kernel
theorem dL_law_27 : decode cL_law 27 = .ok (.iload_n 3, 1) := by decide +kernel
theorem dL_law_28 : decode cL_law 28 = .ok (.iaload, 1) := by decide +kernel
theorem dL_law_29 : decode cL_law 29 = .ok (.bipush 31, 2) := by decide +kernel
theorem dL_law_31 : decode cL_law 31 = .ok (.iand, 1) := by decide +kernel
theorem dL_law_32 : decode cL_law 32 = .ok (.tableswitch 926 0 29 #[136, 179, 212, 225, 248, 271, 314, 347, 360, 393, 416, 459, 492, 517, 530, 543, 556, 569, 582, 615, 648, 681, 714, 747, 770, 793, 806, 847, 880, 903], 136) := by decide +kernel
theorem dL_law_168 : decode cL_law 168 = .ok (.aload_n 1, 1) := by decide +kernel
theorem dL_law_169 : decode cL_law 169 = .ok (.aload_n 0, 1) := by decide +kernel
theorem dL_law_170 : decode cL_law 170 = .ok (.iload_n 3, 1) := by decide +kernel
theorem dL_law_171 : decode cL_law 171 = .ok (.iconst 1, 1) := by decide +kernel
theorem dL_law_172 : decode cL_law 172 = .ok (.iadd, 1) := by decide +kernel
theorem dL_law_173 : decode cL_law 173 = .ok (.iaload, 1) := by decide +kernel
theorem dL_law_174 : decode cL_law 174 = .ok (.aload_n 0, 1) := by decide +kernel
theorem dL_law_175 : decode cL_law 175 = .ok (.iload_n 3, 1) := by decide +kernel
theorem dL_law_176 : decode cL_law 176 = .ok (.iconst 2, 1) := by decide +kernel
theorem dL_law_177 : decode cL_law 177 = .ok (.iadd, 1) := by decide +kernel
theorem dL_law_178 : decode cL_law 178 = .ok (.iaload, 1) := by decide +kernel
theorem dL_law_179 : decode cL_law 179 = .ok (.aload_n 0, 1) := by decide +kernel
theorem dL_law_180 : decode cL_law 180 = .ok (.iload_n 3, 1) := by decide +kernel
theorem dL_law_181 : decode cL_law 181 = .ok (.iconst 3, 1) := by decide +kernel
theorem dL_law_182 : decode cL_law 182 = .ok (.iadd, 1) := by decide +kernel
theorem dL_law_183 : decode cL_law 183 = .ok (.iaload, 1) := by decide +kernel
theorem dL_law_184 : decode cL_law 184 = .ok (.invokevirtual 13, 3) := by decide +kernel
theorem dL_law_187 : decode cL_law 187 = .ok (.aload_n 2, 1) := by decide +kernel
theorem dL_law_188 : decode cL_law 188 = .ok (.aload_n 0, 1) := by decide +kernel
theorem dL_law_189 : decode cL_law 189 = .ok (.iload_n 3, 1) := by decide +kernel
theorem dL_law_190 : decode cL_law 190 = .ok (.iconst 1, 1) := by decide +kernel
theorem dL_law_191 : decode cL_law 191 = .ok (.iadd, 1) := by decide +kernel
theorem dL_law_192 : decode cL_law 192 = .ok (.iaload, 1) := by decide +kernel
theorem dL_law_193 : decode cL_law 193 = .ok (.aload_n 0, 1) := by decide +kernel
theorem dL_law_194 : decode cL_law 194 = .ok (.iload_n 3, 1) := by decide +kernel
theorem dL_law_195 : decode cL_law 195 = .ok (.iconst 2, 1) := by decide +kernel
theorem dL_law_196 : decode cL_law 196 = .ok (.iadd, 1) := by decide +kernel
theorem dL_law_197 : decode cL_law 197 = .ok (.iaload, 1) := by decide +kernel
theorem dL_law_198 : decode cL_law 198 = .ok (.aload_n 0, 1) := by decide +kernel
theorem dL_law_199 : decode cL_law 199 = .ok (.iload_n 3, 1) := by decide +kernel
theorem dL_law_200 : decode cL_law 200 = .ok (.iconst 3, 1) := by decide +kernel
theorem dL_law_201 : decode cL_law 201 = .ok (.iadd, 1) := by decide +kernel
theorem dL_law_202 : decode cL_law 202 = .ok (.iaload, 1) := by decide +kernel
theorem dL_law_203 : decode cL_law 203 = .ok (.invokevirtual 17, 3) := by decide +kernel
theorem dL_law_206 : decode cL_law 206 = .ok (.if_icmp .eq 752, 3) := by decide +kernel
theorem dL_law_209 : decode cL_law 209 = .ok (.iconst 0, 1) := by decide +kernel
theorem dL_law_210 : decode cL_law 210 = .ok (.ireturn, 1) := by decide +kernel
theorem dL_law_211 : decode cL_law 211 = .ok (.aload_n 1, 1) := by decide +kernel
theorem dL_law_212 : decode cL_law 212 = .ok (.aload_n 0, 1) := by decide +kernel
theorem dL_law_213 : decode cL_law 213 = .ok (.iload_n 3, 1) := by decide +kernel
theorem dL_law_214 : decode cL_law 214 = .ok (.iconst 1, 1) := by decide +kernel
theorem dL_law_215 : decode cL_law 215 = .ok (.iadd, 1) := by decide +kernel
theorem dL_law_216 : decode cL_law 216 = .ok (.iaload, 1) := by decide +kernel
theorem dL_law_217 : decode cL_law 217 = .ok (.aload_n 0, 1) := by decide +kernel
theorem dL_law_218 : decode cL_law 218 = .ok (.iload_n 3, 1) := by decide +kernel
theorem dL_law_219 : decode cL_law 219 = .ok (.iconst 2, 1) := by decide +kernel
theorem dL_law_220 : decode cL_law 220 = .ok (.iadd, 1) := by decide +kernel
theorem dL_law_221 : decode cL_law 221 = .ok (.iaload, 1) := by decide +kernel
theorem dL_law_222 : decode cL_law 222 = .ok (.invokevirtual 18, 3) := by decide +kernel
theorem dL_law_225 : decode cL_law 225 = .ok (.aload_n 2, 1) := by decide +kernel
theorem dL_law_226 : decode cL_law 226 = .ok (.aload_n 0, 1) := by decide +kernel
theorem dL_law_227 : decode cL_law 227 = .ok (.iload_n 3, 1) := by decide +kernel
theorem dL_law_228 : decode cL_law 228 = .ok (.iconst 1, 1) := by decide +kernel
theorem dL_law_229 : decode cL_law 229 = .ok (.iadd, 1) := by decide +kernel
theorem dL_law_230 : decode cL_law 230 = .ok (.iaload, 1) := by decide +kernel
theorem dL_law_231 : decode cL_law 231 = .ok (.aload_n 0, 1) := by decide +kernel
theorem dL_law_232 : decode cL_law 232 = .ok (.iload_n 3, 1) := by decide +kernel
theorem dL_law_233 : decode cL_law 233 = .ok (.iconst 2, 1) := by decide +kernel
theorem dL_law_234 : decode cL_law 234 = .ok (.iadd, 1) := by decide +kernel
theorem dL_law_235 : decode cL_law 235 = .ok (.iaload, 1) := by decide +kernel
theorem dL_law_236 : decode cL_law 236 = .ok (.invokevirtual 22, 3) := by decide +kernel
theorem dL_law_239 : decode cL_law 239 = .ok (.if_icmp .eq 719, 3) := by decide +kernel
theorem dL_law_242 : decode cL_law 242 = .ok (.iconst 0, 1) := by decide +kernel
theorem dL_law_243 : decode cL_law 243 = .ok (.ireturn, 1) := by decide +kernel
theorem dL_law_244 : decode cL_law 244 = .ok (.aload_n 1, 1) := by decide +kernel
theorem dL_law_245 : decode cL_law 245 = .ok (.invokevirtual 23, 3) := by decide +kernel
theorem dL_law_248 : decode cL_law 248 = .ok (.aload_n 2, 1) := by decide +kernel
theorem dL_law_249 : decode cL_law 249 = .ok (.invokevirtual 27, 3) := by decide +kernel
theorem dL_law_252 : decode cL_law 252 = .ok (.if_icmp .eq 706, 3) := by decide +kernel
theorem dL_law_255 : decode cL_law 255 = .ok (.iconst 0, 1) := by decide +kernel
theorem dL_law_256 : decode cL_law 256 = .ok (.ireturn, 1) := by decide +kernel
theorem dL_law_257 : decode cL_law 257 = .ok (.aload_n 1, 1) := by decide +kernel
theorem dL_law_258 : decode cL_law 258 = .ok (.aload_n 0, 1) := by decide +kernel
theorem dL_law_259 : decode cL_law 259 = .ok (.iload_n 3, 1) := by decide +kernel
theorem dL_law_260 : decode cL_law 260 = .ok (.iconst 1, 1) := by decide +kernel
theorem dL_law_261 : decode cL_law 261 = .ok (.iadd, 1) := by decide +kernel
theorem dL_law_262 : decode cL_law 262 = .ok (.iaload, 1) := by decide +kernel
theorem dL_law_263 : decode cL_law 263 = .ok (.invokevirtual 28, 3) := by decide +kernel
theorem dL_law_266 : decode cL_law 266 = .ok (.aload_n 2, 1) := by decide +kernel
theorem dL_law_267 : decode cL_law 267 = .ok (.aload_n 0, 1) := by decide +kernel
theorem dL_law_268 : decode cL_law 268 = .ok (.iload_n 3, 1) := by decide +kernel
theorem dL_law_269 : decode cL_law 269 = .ok (.iconst 1, 1) := by decide +kernel
theorem dL_law_270 : decode cL_law 270 = .ok (.iadd, 1) := by decide +kernel
theorem dL_law_271 : decode cL_law 271 = .ok (.iaload, 1) := by decide +kernel
theorem dL_law_272 : decode cL_law 272 = .ok (.invokevirtual 32, 3) := by decide +kernel
theorem dL_law_275 : decode cL_law 275 = .ok (.if_icmp .eq 683, 3) := by decide +kernel
theorem dL_law_278 : decode cL_law 278 = .ok (.iconst 0, 1) := by decide +kernel
theorem dL_law_279 : decode cL_law 279 = .ok (.ireturn, 1) := by decide +kernel
theorem dL_law_280 : decode cL_law 280 = .ok (.aload_n 1, 1) := by decide +kernel
theorem dL_law_281 : decode cL_law 281 = .ok (.aload_n 0, 1) := by decide +kernel
theorem dL_law_282 : decode cL_law 282 = .ok (.iload_n 3, 1) := by decide +kernel
theorem dL_law_283 : decode cL_law 283 = .ok (.iconst 1, 1) := by decide +kernel
theorem dL_law_284 : decode cL_law 284 = .ok (.iadd, 1) := by decide +kernel
theorem dL_law_285 : decode cL_law 285 = .ok (.iaload, 1) := by decide +kernel
theorem dL_law_286 : decode cL_law 286 = .ok (.invokevirtual 33, 3) := by decide +kernel
theorem dL_law_289 : decode cL_law 289 = .ok (.aload_n 2, 1) := by decide +kernel
theorem dL_law_290 : decode cL_law 290 = .ok (.aload_n 0, 1) := by decide +kernel
theorem dL_law_291 : decode cL_law 291 = .ok (.iload_n 3, 1) := by decide +kernel
theorem dL_law_292 : decode cL_law 292 = .ok (.iconst 1, 1) := by decide +kernel
theorem dL_law_293 : decode cL_law 293 = .ok (.iadd, 1) := by decide +kernel
theorem dL_law_294 : decode cL_law 294 = .ok (.iaload, 1) := by decide +kernel
theorem dL_law_295 : decode cL_law 295 = .ok (.invokevirtual 36, 3) := by decide +kernel
theorem dL_law_298 : decode cL_law 298 = .ok (.if_icmp .eq 660, 3) := by decide +kernel
theorem dL_law_301 : decode cL_law 301 = .ok (.iconst 0, 1) := by decide +kernel
theorem dL_law_302 : decode cL_law 302 = .ok (.ireturn, 1) := by decide +kernel
theorem dL_law_303 : decode cL_law 303 = .ok (.aload_n 1, 1) := by decide +kernel
theorem dL_law_304 : decode cL_law 304 = .ok (.aload_n 0, 1) := by decide +kernel
theorem dL_law_305 : decode cL_law 305 = .ok (.iload_n 3, 1) := by decide +kernel
theorem dL_law_306 : decode cL_law 306 = .ok (.iconst 1, 1) := by decide +kernel
theorem dL_law_307 : decode cL_law 307 = .ok (.iadd, 1) := by decide +kernel
theorem dL_law_308 : decode cL_law 308 = .ok (.iaload, 1) := by decide +kernel
theorem dL_law_309 : decode cL_law 309 = .ok (.aload_n 0, 1) := by decide +kernel
theorem dL_law_310 : decode cL_law 310 = .ok (.iload_n 3, 1) := by decide +kernel
theorem dL_law_311 : decode cL_law 311 = .ok (.iconst 2, 1) := by decide +kernel
theorem dL_law_312 : decode cL_law 312 = .ok (.iadd, 1) := by decide +kernel
theorem dL_law_313 : decode cL_law 313 = .ok (.iaload, 1) := by decide +kernel
theorem dL_law_314 : decode cL_law 314 = .ok (.aload_n 0, 1) := by decide +kernel
theorem dL_law_315 : decode cL_law 315 = .ok (.iload_n 3, 1) := by decide +kernel
theorem dL_law_316 : decode cL_law 316 = .ok (.iconst 3, 1) := by decide +kernel
theorem dL_law_317 : decode cL_law 317 = .ok (.iadd, 1) := by decide +kernel
theorem dL_law_318 : decode cL_law 318 = .ok (.iaload, 1) := by decide +kernel
theorem dL_law_319 : decode cL_law 319 = .ok (.invokevirtual 37, 3) := by decide +kernel
theorem dL_law_322 : decode cL_law 322 = .ok (.aload_n 2, 1) := by decide +kernel
theorem dL_law_323 : decode cL_law 323 = .ok (.aload_n 0, 1) := by decide +kernel
theorem dL_law_324 : decode cL_law 324 = .ok (.iload_n 3, 1) := by decide +kernel
theorem dL_law_325 : decode cL_law 325 = .ok (.iconst 1, 1) := by decide +kernel
theorem dL_law_326 : decode cL_law 326 = .ok (.iadd, 1) := by decide +kernel
theorem dL_law_327 : decode cL_law 327 = .ok (.iaload, 1) := by decide +kernel
theorem dL_law_328 : decode cL_law 328 = .ok (.aload_n 0, 1) := by decide +kernel
theorem dL_law_329 : decode cL_law 329 = .ok (.iload_n 3, 1) := by decide +kernel
theorem dL_law_330 : decode cL_law 330 = .ok (.iconst 2, 1) := by decide +kernel
theorem dL_law_331 : decode cL_law 331 = .ok (.iadd, 1) := by decide +kernel
theorem dL_law_332 : decode cL_law 332 = .ok (.iaload, 1) := by decide +kernel
theorem dL_law_333 : decode cL_law 333 = .ok (.aload_n 0, 1) := by decide +kernel
theorem dL_law_334 : decode cL_law 334 = .ok (.iload_n 3, 1) := by decide +kernel
theorem dL_law_335 : decode cL_law 335 = .ok (.iconst 3, 1) := by decide +kernel
theorem dL_law_336 : decode cL_law 336 = .ok (.iadd, 1) := by decide +kernel
theorem dL_law_337 : decode cL_law 337 = .ok (.iaload, 1) := by decide +kernel
theorem dL_law_338 : decode cL_law 338 = .ok (.invokevirtual 40, 3) := by decide +kernel
theorem dL_law_341 : decode cL_law 341 = .ok (.if_icmp .eq 617, 3) := by decide +kernel
theorem dL_law_344 : decode cL_law 344 = .ok (.iconst 0, 1) := by decide +kernel
theorem dL_law_345 : decode cL_law 345 = .ok (.ireturn, 1) := by decide +kernel
theorem dL_law_346 : decode cL_law 346 = .ok (.aload_n 1, 1) := by decide +kernel
theorem dL_law_347 : decode cL_law 347 = .ok (.aload_n 0, 1) := by decide +kernel
theorem dL_law_348 : decode cL_law 348 = .ok (.iload_n 3, 1) := by decide +kernel
theorem dL_law_349 : decode cL_law 349 = .ok (.iconst 1, 1) := by decide +kernel
theorem dL_law_350 : decode cL_law 350 = .ok (.iadd, 1) := by decide +kernel
theorem dL_law_351 : decode cL_law 351 = .ok (.iaload, 1) := by decide +kernel
theorem dL_law_352 : decode cL_law 352 = .ok (.aload_n 0, 1) := by decide +kernel
theorem dL_law_353 : decode cL_law 353 = .ok (.iload_n 3, 1) := by decide +kernel
theorem dL_law_354 : decode cL_law 354 = .ok (.iconst 2, 1) := by decide +kernel
theorem dL_law_355 : decode cL_law 355 = .ok (.iadd, 1) := by decide +kernel
theorem dL_law_356 : decode cL_law 356 = .ok (.iaload, 1) := by decide +kernel
theorem dL_law_357 : decode cL_law 357 = .ok (.invokevirtual 41, 3) := by decide +kernel
theorem dL_law_360 : decode cL_law 360 = .ok (.aload_n 2, 1) := by decide +kernel
theorem dL_law_361 : decode cL_law 361 = .ok (.aload_n 0, 1) := by decide +kernel
theorem dL_law_362 : decode cL_law 362 = .ok (.iload_n 3, 1) := by decide +kernel
theorem dL_law_363 : decode cL_law 363 = .ok (.iconst 1, 1) := by decide +kernel
theorem dL_law_364 : decode cL_law 364 = .ok (.iadd, 1) := by decide +kernel
theorem dL_law_365 : decode cL_law 365 = .ok (.iaload, 1) := by decide +kernel
theorem dL_law_366 : decode cL_law 366 = .ok (.aload_n 0, 1) := by decide +kernel
theorem dL_law_367 : decode cL_law 367 = .ok (.iload_n 3, 1) := by decide +kernel
theorem dL_law_368 : decode cL_law 368 = .ok (.iconst 2, 1) := by decide +kernel
theorem dL_law_369 : decode cL_law 369 = .ok (.iadd, 1) := by decide +kernel
theorem dL_law_370 : decode cL_law 370 = .ok (.iaload, 1) := by decide +kernel
theorem dL_law_371 : decode cL_law 371 = .ok (.invokevirtual 44, 3) := by decide +kernel
theorem dL_law_374 : decode cL_law 374 = .ok (.if_icmp .eq 584, 3) := by decide +kernel
theorem dL_law_377 : decode cL_law 377 = .ok (.iconst 0, 1) := by decide +kernel
theorem dL_law_378 : decode cL_law 378 = .ok (.ireturn, 1) := by decide +kernel
theorem dL_law_379 : decode cL_law 379 = .ok (.aload_n 1, 1) := by decide +kernel
theorem dL_law_380 : decode cL_law 380 = .ok (.invokevirtual 45, 3) := by decide +kernel
theorem dL_law_383 : decode cL_law 383 = .ok (.aload_n 2, 1) := by decide +kernel
theorem dL_law_384 : decode cL_law 384 = .ok (.invokevirtual 48, 3) := by decide +kernel
theorem dL_law_387 : decode cL_law 387 = .ok (.if_icmp .eq 571, 3) := by decide +kernel
theorem dL_law_390 : decode cL_law 390 = .ok (.iconst 0, 1) := by decide +kernel
theorem dL_law_391 : decode cL_law 391 = .ok (.ireturn, 1) := by decide +kernel
theorem dL_law_392 : decode cL_law 392 = .ok (.aload_n 1, 1) := by decide +kernel
theorem dL_law_393 : decode cL_law 393 = .ok (.aload_n 0, 1) := by decide +kernel
theorem dL_law_394 : decode cL_law 394 = .ok (.iload_n 3, 1) := by decide +kernel
theorem dL_law_395 : decode cL_law 395 = .ok (.iconst 1, 1) := by decide +kernel
theorem dL_law_396 : decode cL_law 396 = .ok (.iadd, 1) := by decide +kernel
theorem dL_law_397 : decode cL_law 397 = .ok (.iaload, 1) := by decide +kernel
theorem dL_law_398 : decode cL_law 398 = .ok (.aload_n 0, 1) := by decide +kernel
theorem dL_law_399 : decode cL_law 399 = .ok (.iload_n 3, 1) := by decide +kernel
theorem dL_law_400 : decode cL_law 400 = .ok (.iconst 2, 1) := by decide +kernel
theorem dL_law_401 : decode cL_law 401 = .ok (.iadd, 1) := by decide +kernel
theorem dL_law_402 : decode cL_law 402 = .ok (.iaload, 1) := by decide +kernel
theorem dL_law_403 : decode cL_law 403 = .ok (.invokevirtual 49, 3) := by decide +kernel
theorem dL_law_406 : decode cL_law 406 = .ok (.aload_n 2, 1) := by decide +kernel
theorem dL_law_407 : decode cL_law 407 = .ok (.aload_n 0, 1) := by decide +kernel
theorem dL_law_408 : decode cL_law 408 = .ok (.iload_n 3, 1) := by decide +kernel
theorem dL_law_409 : decode cL_law 409 = .ok (.iconst 1, 1) := by decide +kernel
theorem dL_law_410 : decode cL_law 410 = .ok (.iadd, 1) := by decide +kernel
theorem dL_law_411 : decode cL_law 411 = .ok (.iaload, 1) := by decide +kernel
theorem dL_law_412 : decode cL_law 412 = .ok (.aload_n 0, 1) := by decide +kernel
theorem dL_law_413 : decode cL_law 413 = .ok (.iload_n 3, 1) := by decide +kernel
theorem dL_law_414 : decode cL_law 414 = .ok (.iconst 2, 1) := by decide +kernel
theorem dL_law_415 : decode cL_law 415 = .ok (.iadd, 1) := by decide +kernel
theorem dL_law_416 : decode cL_law 416 = .ok (.iaload, 1) := by decide +kernel
theorem dL_law_417 : decode cL_law 417 = .ok (.invokevirtual 52, 3) := by decide +kernel
theorem dL_law_420 : decode cL_law 420 = .ok (.if_icmp .eq 538, 3) := by decide +kernel
theorem dL_law_423 : decode cL_law 423 = .ok (.iconst 0, 1) := by decide +kernel
theorem dL_law_424 : decode cL_law 424 = .ok (.ireturn, 1) := by decide +kernel
theorem dL_law_425 : decode cL_law 425 = .ok (.aload_n 1, 1) := by decide +kernel
theorem dL_law_426 : decode cL_law 426 = .ok (.aload_n 0, 1) := by decide +kernel
theorem dL_law_427 : decode cL_law 427 = .ok (.iload_n 3, 1) := by decide +kernel
theorem dL_law_428 : decode cL_law 428 = .ok (.iconst 1, 1) := by decide +kernel
theorem dL_law_429 : decode cL_law 429 = .ok (.iadd, 1) := by decide +kernel
theorem dL_law_430 : decode cL_law 430 = .ok (.iaload, 1) := by decide +kernel
theorem dL_law_431 : decode cL_law 431 = .ok (.invokevirtual 53, 3) := by decide +kernel
theorem dL_law_434 : decode cL_law 434 = .ok (.aload_n 2, 1) := by decide +kernel
theorem dL_law_435 : decode cL_law 435 = .ok (.aload_n 0, 1) := by decide +kernel
theorem dL_law_436 : decode cL_law 436 = .ok (.iload_n 3, 1) := by decide +kernel
theorem dL_law_437 : decode cL_law 437 = .ok (.iconst 1, 1) := by decide +kernel
theorem dL_law_438 : decode cL_law 438 = .ok (.iadd, 1) := by decide +kernel
theorem dL_law_439 : decode cL_law 439 = .ok (.iaload, 1) := by decide +kernel
theorem dL_law_440 : decode cL_law 440 = .ok (.invokevirtual 56, 3) := by decide +kernel
theorem dL_law_443 : decode cL_law 443 = .ok (.if_icmp .eq 515, 3) := by decide +kernel
theorem dL_law_446 : decode cL_law 446 = .ok (.iconst 0, 1) := by decide +kernel
theorem dL_law_447 : decode cL_law 447 = .ok (.ireturn, 1) := by decide +kernel
theorem dL_law_448 : decode cL_law 448 = .ok (.aload_n 1, 1) := by decide +kernel
theorem dL_law_449 : decode cL_law 449 = .ok (.aload_n 0, 1) := by decide +kernel
theorem dL_law_450 : decode cL_law 450 = .ok (.iload_n 3, 1) := by decide +kernel
theorem dL_law_451 : decode cL_law 451 = .ok (.iconst 1, 1) := by decide +kernel
theorem dL_law_452 : decode cL_law 452 = .ok (.iadd, 1) := by decide +kernel
theorem dL_law_453 : decode cL_law 453 = .ok (.iaload, 1) := by decide +kernel
theorem dL_law_454 : decode cL_law 454 = .ok (.aload_n 0, 1) := by decide +kernel
theorem dL_law_455 : decode cL_law 455 = .ok (.iload_n 3, 1) := by decide +kernel
theorem dL_law_456 : decode cL_law 456 = .ok (.iconst 2, 1) := by decide +kernel
theorem dL_law_457 : decode cL_law 457 = .ok (.iadd, 1) := by decide +kernel
theorem dL_law_458 : decode cL_law 458 = .ok (.iaload, 1) := by decide +kernel
theorem dL_law_459 : decode cL_law 459 = .ok (.aload_n 0, 1) := by decide +kernel
theorem dL_law_460 : decode cL_law 460 = .ok (.iload_n 3, 1) := by decide +kernel
theorem dL_law_461 : decode cL_law 461 = .ok (.iconst 3, 1) := by decide +kernel
theorem dL_law_462 : decode cL_law 462 = .ok (.iadd, 1) := by decide +kernel
theorem dL_law_463 : decode cL_law 463 = .ok (.iaload, 1) := by decide +kernel
theorem dL_law_464 : decode cL_law 464 = .ok (.invokevirtual 57, 3) := by decide +kernel
theorem dL_law_467 : decode cL_law 467 = .ok (.aload_n 2, 1) := by decide +kernel
theorem dL_law_468 : decode cL_law 468 = .ok (.aload_n 0, 1) := by decide +kernel
theorem dL_law_469 : decode cL_law 469 = .ok (.iload_n 3, 1) := by decide +kernel
theorem dL_law_470 : decode cL_law 470 = .ok (.iconst 1, 1) := by decide +kernel
theorem dL_law_471 : decode cL_law 471 = .ok (.iadd, 1) := by decide +kernel
theorem dL_law_472 : decode cL_law 472 = .ok (.iaload, 1) := by decide +kernel
theorem dL_law_473 : decode cL_law 473 = .ok (.aload_n 0, 1) := by decide +kernel
theorem dL_law_474 : decode cL_law 474 = .ok (.iload_n 3, 1) := by decide +kernel
theorem dL_law_475 : decode cL_law 475 = .ok (.iconst 2, 1) := by decide +kernel
theorem dL_law_476 : decode cL_law 476 = .ok (.iadd, 1) := by decide +kernel
theorem dL_law_477 : decode cL_law 477 = .ok (.iaload, 1) := by decide +kernel
theorem dL_law_478 : decode cL_law 478 = .ok (.aload_n 0, 1) := by decide +kernel
theorem dL_law_479 : decode cL_law 479 = .ok (.iload_n 3, 1) := by decide +kernel
theorem dL_law_480 : decode cL_law 480 = .ok (.iconst 3, 1) := by decide +kernel
theorem dL_law_481 : decode cL_law 481 = .ok (.iadd, 1) := by decide +kernel
theorem dL_law_482 : decode cL_law 482 = .ok (.iaload, 1) := by decide +kernel
theorem dL_law_483 : decode cL_law 483 = .ok (.invokevirtual 60, 3) := by decide +kernel
theorem dL_law_486 : decode cL_law 486 = .ok (.if_icmp .eq 472, 3) := by decide +kernel
theorem dL_law_489 : decode cL_law 489 = .ok (.iconst 0, 1) := by decide +kernel
theorem dL_law_490 : decode cL_law 490 = .ok (.ireturn, 1) := by decide +kernel
theorem dL_law_491 : decode cL_law 491 = .ok (.aload_n 1, 1) := by decide +kernel
theorem dL_law_492 : decode cL_law 492 = .ok (.aload_n 0, 1) := by decide +kernel
theorem dL_law_493 : decode cL_law 493 = .ok (.iload_n 3, 1) := by decide +kernel
theorem dL_law_494 : decode cL_law 494 = .ok (.iconst 1, 1) := by decide +kernel
theorem dL_law_495 : decode cL_law 495 = .ok (.iadd, 1) := by decide +kernel
theorem dL_law_496 : decode cL_law 496 = .ok (.iaload, 1) := by decide +kernel
theorem dL_law_497 : decode cL_law 497 = .ok (.aload_n 0, 1) := by decide +kernel
theorem dL_law_498 : decode cL_law 498 = .ok (.iload_n 3, 1) := by decide +kernel
theorem dL_law_499 : decode cL_law 499 = .ok (.iconst 2, 1) := by decide +kernel
theorem dL_law_500 : decode cL_law 500 = .ok (.iadd, 1) := by decide +kernel
theorem dL_law_501 : decode cL_law 501 = .ok (.iaload, 1) := by decide +kernel
theorem dL_law_502 : decode cL_law 502 = .ok (.invokevirtual 61, 3) := by decide +kernel
theorem dL_law_505 : decode cL_law 505 = .ok (.aload_n 2, 1) := by decide +kernel
theorem dL_law_506 : decode cL_law 506 = .ok (.aload_n 0, 1) := by decide +kernel
theorem dL_law_507 : decode cL_law 507 = .ok (.iload_n 3, 1) := by decide +kernel
theorem dL_law_508 : decode cL_law 508 = .ok (.iconst 1, 1) := by decide +kernel
theorem dL_law_509 : decode cL_law 509 = .ok (.iadd, 1) := by decide +kernel
theorem dL_law_510 : decode cL_law 510 = .ok (.iaload, 1) := by decide +kernel
theorem dL_law_511 : decode cL_law 511 = .ok (.aload_n 0, 1) := by decide +kernel
theorem dL_law_512 : decode cL_law 512 = .ok (.iload_n 3, 1) := by decide +kernel
theorem dL_law_513 : decode cL_law 513 = .ok (.iconst 2, 1) := by decide +kernel
theorem dL_law_514 : decode cL_law 514 = .ok (.iadd, 1) := by decide +kernel
theorem dL_law_515 : decode cL_law 515 = .ok (.iaload, 1) := by decide +kernel
theorem dL_law_516 : decode cL_law 516 = .ok (.invokevirtual 64, 3) := by decide +kernel
theorem dL_law_519 : decode cL_law 519 = .ok (.if_icmp .eq 439, 3) := by decide +kernel
theorem dL_law_522 : decode cL_law 522 = .ok (.iconst 0, 1) := by decide +kernel
theorem dL_law_523 : decode cL_law 523 = .ok (.ireturn, 1) := by decide +kernel
theorem dL_law_524 : decode cL_law 524 = .ok (.aload_n 1, 1) := by decide +kernel
theorem dL_law_525 : decode cL_law 525 = .ok (.aload_n 0, 1) := by decide +kernel
theorem dL_law_526 : decode cL_law 526 = .ok (.iload_n 3, 1) := by decide +kernel
theorem dL_law_527 : decode cL_law 527 = .ok (.iconst 1, 1) := by decide +kernel
theorem dL_law_528 : decode cL_law 528 = .ok (.iadd, 1) := by decide +kernel
theorem dL_law_529 : decode cL_law 529 = .ok (.iaload, 1) := by decide +kernel
theorem dL_law_530 : decode cL_law 530 = .ok (.i2c, 1) := by decide +kernel
theorem dL_law_531 : decode cL_law 531 = .ok (.invokevirtual 65, 3) := by decide +kernel
theorem dL_law_534 : decode cL_law 534 = .ok (.aload_n 2, 1) := by decide +kernel
theorem dL_law_535 : decode cL_law 535 = .ok (.aload_n 0, 1) := by decide +kernel
theorem dL_law_536 : decode cL_law 536 = .ok (.iload_n 3, 1) := by decide +kernel
theorem dL_law_537 : decode cL_law 537 = .ok (.iconst 1, 1) := by decide +kernel
theorem dL_law_538 : decode cL_law 538 = .ok (.iadd, 1) := by decide +kernel
theorem dL_law_539 : decode cL_law 539 = .ok (.iaload, 1) := by decide +kernel
theorem dL_law_540 : decode cL_law 540 = .ok (.i2c, 1) := by decide +kernel
theorem dL_law_541 : decode cL_law 541 = .ok (.invokevirtual 69, 3) := by decide +kernel
theorem dL_law_544 : decode cL_law 544 = .ok (.if_icmp .eq 414, 3) := by decide +kernel
theorem dL_law_547 : decode cL_law 547 = .ok (.iconst 0, 1) := by decide +kernel
theorem dL_law_548 : decode cL_law 548 = .ok (.ireturn, 1) := by decide +kernel
theorem dL_law_549 : decode cL_law 549 = .ok (.aload_n 1, 1) := by decide +kernel
theorem dL_law_550 : decode cL_law 550 = .ok (.invokevirtual 70, 3) := by decide +kernel
theorem dL_law_553 : decode cL_law 553 = .ok (.aload_n 2, 1) := by decide +kernel
theorem dL_law_554 : decode cL_law 554 = .ok (.invokevirtual 73, 3) := by decide +kernel
theorem dL_law_557 : decode cL_law 557 = .ok (.if_icmp .eq 401, 3) := by decide +kernel
theorem dL_law_560 : decode cL_law 560 = .ok (.iconst 0, 1) := by decide +kernel
theorem dL_law_561 : decode cL_law 561 = .ok (.ireturn, 1) := by decide +kernel
theorem dL_law_562 : decode cL_law 562 = .ok (.aload_n 1, 1) := by decide +kernel
theorem dL_law_563 : decode cL_law 563 = .ok (.invokevirtual 74, 3) := by decide +kernel
theorem dL_law_566 : decode cL_law 566 = .ok (.aload_n 2, 1) := by decide +kernel
theorem dL_law_567 : decode cL_law 567 = .ok (.invokevirtual 77, 3) := by decide +kernel
theorem dL_law_570 : decode cL_law 570 = .ok (.if_icmp .eq 388, 3) := by decide +kernel
theorem dL_law_573 : decode cL_law 573 = .ok (.iconst 0, 1) := by decide +kernel
theorem dL_law_574 : decode cL_law 574 = .ok (.ireturn, 1) := by decide +kernel
theorem dL_law_575 : decode cL_law 575 = .ok (.aload_n 1, 1) := by decide +kernel
theorem dL_law_576 : decode cL_law 576 = .ok (.invokevirtual 78, 3) := by decide +kernel
theorem dL_law_579 : decode cL_law 579 = .ok (.aload_n 2, 1) := by decide +kernel
theorem dL_law_580 : decode cL_law 580 = .ok (.invokevirtual 81, 3) := by decide +kernel
theorem dL_law_583 : decode cL_law 583 = .ok (.if_icmp .eq 375, 3) := by decide +kernel
theorem dL_law_586 : decode cL_law 586 = .ok (.iconst 0, 1) := by decide +kernel
theorem dL_law_587 : decode cL_law 587 = .ok (.ireturn, 1) := by decide +kernel
theorem dL_law_588 : decode cL_law 588 = .ok (.aload_n 1, 1) := by decide +kernel
theorem dL_law_589 : decode cL_law 589 = .ok (.invokevirtual 82, 3) := by decide +kernel
theorem dL_law_592 : decode cL_law 592 = .ok (.aload_n 2, 1) := by decide +kernel
theorem dL_law_593 : decode cL_law 593 = .ok (.invokevirtual 85, 3) := by decide +kernel
theorem dL_law_596 : decode cL_law 596 = .ok (.if_icmp .eq 362, 3) := by decide +kernel
theorem dL_law_599 : decode cL_law 599 = .ok (.iconst 0, 1) := by decide +kernel
theorem dL_law_600 : decode cL_law 600 = .ok (.ireturn, 1) := by decide +kernel
theorem dL_law_601 : decode cL_law 601 = .ok (.aload_n 1, 1) := by decide +kernel
theorem dL_law_602 : decode cL_law 602 = .ok (.invokevirtual 86, 3) := by decide +kernel
theorem dL_law_605 : decode cL_law 605 = .ok (.aload_n 2, 1) := by decide +kernel
theorem dL_law_606 : decode cL_law 606 = .ok (.invokevirtual 89, 3) := by decide +kernel
theorem dL_law_609 : decode cL_law 609 = .ok (.if_icmp .eq 349, 3) := by decide +kernel
theorem dL_law_612 : decode cL_law 612 = .ok (.iconst 0, 1) := by decide +kernel
theorem dL_law_613 : decode cL_law 613 = .ok (.ireturn, 1) := by decide +kernel
theorem dL_law_614 : decode cL_law 614 = .ok (.aload_n 1, 1) := by decide +kernel
theorem dL_law_615 : decode cL_law 615 = .ok (.aload_n 0, 1) := by decide +kernel
theorem dL_law_616 : decode cL_law 616 = .ok (.iload_n 3, 1) := by decide +kernel
theorem dL_law_617 : decode cL_law 617 = .ok (.iconst 1, 1) := by decide +kernel
theorem dL_law_618 : decode cL_law 618 = .ok (.iadd, 1) := by decide +kernel
theorem dL_law_619 : decode cL_law 619 = .ok (.iaload, 1) := by decide +kernel
theorem dL_law_620 : decode cL_law 620 = .ok (.aload_n 0, 1) := by decide +kernel
theorem dL_law_621 : decode cL_law 621 = .ok (.iload_n 3, 1) := by decide +kernel
theorem dL_law_622 : decode cL_law 622 = .ok (.iconst 2, 1) := by decide +kernel
theorem dL_law_623 : decode cL_law 623 = .ok (.iadd, 1) := by decide +kernel
theorem dL_law_624 : decode cL_law 624 = .ok (.iaload, 1) := by decide +kernel
theorem dL_law_625 : decode cL_law 625 = .ok (.invokevirtual 90, 3) := by decide +kernel
theorem dL_law_628 : decode cL_law 628 = .ok (.aload_n 2, 1) := by decide +kernel
theorem dL_law_629 : decode cL_law 629 = .ok (.aload_n 0, 1) := by decide +kernel
theorem dL_law_630 : decode cL_law 630 = .ok (.iload_n 3, 1) := by decide +kernel
theorem dL_law_631 : decode cL_law 631 = .ok (.iconst 1, 1) := by decide +kernel
theorem dL_law_632 : decode cL_law 632 = .ok (.iadd, 1) := by decide +kernel
theorem dL_law_633 : decode cL_law 633 = .ok (.iaload, 1) := by decide +kernel
theorem dL_law_634 : decode cL_law 634 = .ok (.aload_n 0, 1) := by decide +kernel
theorem dL_law_635 : decode cL_law 635 = .ok (.iload_n 3, 1) := by decide +kernel
theorem dL_law_636 : decode cL_law 636 = .ok (.iconst 2, 1) := by decide +kernel
theorem dL_law_637 : decode cL_law 637 = .ok (.iadd, 1) := by decide +kernel
theorem dL_law_638 : decode cL_law 638 = .ok (.iaload, 1) := by decide +kernel
theorem dL_law_639 : decode cL_law 639 = .ok (.invokevirtual 93, 3) := by decide +kernel
theorem dL_law_642 : decode cL_law 642 = .ok (.if_icmp .eq 316, 3) := by decide +kernel
theorem dL_law_645 : decode cL_law 645 = .ok (.iconst 0, 1) := by decide +kernel
theorem dL_law_646 : decode cL_law 646 = .ok (.ireturn, 1) := by decide +kernel
theorem dL_law_647 : decode cL_law 647 = .ok (.aload_n 1, 1) := by decide +kernel
theorem dL_law_648 : decode cL_law 648 = .ok (.aload_n 0, 1) := by decide +kernel
theorem dL_law_649 : decode cL_law 649 = .ok (.iload_n 3, 1) := by decide +kernel
theorem dL_law_650 : decode cL_law 650 = .ok (.iconst 1, 1) := by decide +kernel
theorem dL_law_651 : decode cL_law 651 = .ok (.iadd, 1) := by decide +kernel
theorem dL_law_652 : decode cL_law 652 = .ok (.iaload, 1) := by decide +kernel
theorem dL_law_653 : decode cL_law 653 = .ok (.aload_n 0, 1) := by decide +kernel
theorem dL_law_654 : decode cL_law 654 = .ok (.iload_n 3, 1) := by decide +kernel
theorem dL_law_655 : decode cL_law 655 = .ok (.iconst 2, 1) := by decide +kernel
theorem dL_law_656 : decode cL_law 656 = .ok (.iadd, 1) := by decide +kernel
theorem dL_law_657 : decode cL_law 657 = .ok (.iaload, 1) := by decide +kernel
theorem dL_law_658 : decode cL_law 658 = .ok (.invokevirtual 94, 3) := by decide +kernel
theorem dL_law_661 : decode cL_law 661 = .ok (.aload_n 2, 1) := by decide +kernel
theorem dL_law_662 : decode cL_law 662 = .ok (.aload_n 0, 1) := by decide +kernel
theorem dL_law_663 : decode cL_law 663 = .ok (.iload_n 3, 1) := by decide +kernel
theorem dL_law_664 : decode cL_law 664 = .ok (.iconst 1, 1) := by decide +kernel
theorem dL_law_665 : decode cL_law 665 = .ok (.iadd, 1) := by decide +kernel
theorem dL_law_666 : decode cL_law 666 = .ok (.iaload, 1) := by decide +kernel
theorem dL_law_667 : decode cL_law 667 = .ok (.aload_n 0, 1) := by decide +kernel
theorem dL_law_668 : decode cL_law 668 = .ok (.iload_n 3, 1) := by decide +kernel
theorem dL_law_669 : decode cL_law 669 = .ok (.iconst 2, 1) := by decide +kernel
theorem dL_law_670 : decode cL_law 670 = .ok (.iadd, 1) := by decide +kernel
theorem dL_law_671 : decode cL_law 671 = .ok (.iaload, 1) := by decide +kernel
theorem dL_law_672 : decode cL_law 672 = .ok (.invokevirtual 97, 3) := by decide +kernel
theorem dL_law_675 : decode cL_law 675 = .ok (.if_icmp .eq 283, 3) := by decide +kernel
theorem dL_law_678 : decode cL_law 678 = .ok (.iconst 0, 1) := by decide +kernel
theorem dL_law_679 : decode cL_law 679 = .ok (.ireturn, 1) := by decide +kernel
theorem dL_law_680 : decode cL_law 680 = .ok (.aload_n 1, 1) := by decide +kernel
theorem dL_law_681 : decode cL_law 681 = .ok (.aload_n 0, 1) := by decide +kernel
theorem dL_law_682 : decode cL_law 682 = .ok (.iload_n 3, 1) := by decide +kernel
theorem dL_law_683 : decode cL_law 683 = .ok (.iconst 1, 1) := by decide +kernel
theorem dL_law_684 : decode cL_law 684 = .ok (.iadd, 1) := by decide +kernel
theorem dL_law_685 : decode cL_law 685 = .ok (.iaload, 1) := by decide +kernel
theorem dL_law_686 : decode cL_law 686 = .ok (.aload_n 0, 1) := by decide +kernel
theorem dL_law_687 : decode cL_law 687 = .ok (.iload_n 3, 1) := by decide +kernel
theorem dL_law_688 : decode cL_law 688 = .ok (.iconst 2, 1) := by decide +kernel
theorem dL_law_689 : decode cL_law 689 = .ok (.iadd, 1) := by decide +kernel
theorem dL_law_690 : decode cL_law 690 = .ok (.iaload, 1) := by decide +kernel
theorem dL_law_691 : decode cL_law 691 = .ok (.invokevirtual 98, 3) := by decide +kernel
theorem dL_law_694 : decode cL_law 694 = .ok (.aload_n 2, 1) := by decide +kernel
theorem dL_law_695 : decode cL_law 695 = .ok (.aload_n 0, 1) := by decide +kernel
theorem dL_law_696 : decode cL_law 696 = .ok (.iload_n 3, 1) := by decide +kernel
theorem dL_law_697 : decode cL_law 697 = .ok (.iconst 1, 1) := by decide +kernel
theorem dL_law_698 : decode cL_law 698 = .ok (.iadd, 1) := by decide +kernel
theorem dL_law_699 : decode cL_law 699 = .ok (.iaload, 1) := by decide +kernel
theorem dL_law_700 : decode cL_law 700 = .ok (.aload_n 0, 1) := by decide +kernel
theorem dL_law_701 : decode cL_law 701 = .ok (.iload_n 3, 1) := by decide +kernel
theorem dL_law_702 : decode cL_law 702 = .ok (.iconst 2, 1) := by decide +kernel
theorem dL_law_703 : decode cL_law 703 = .ok (.iadd, 1) := by decide +kernel
theorem dL_law_704 : decode cL_law 704 = .ok (.iaload, 1) := by decide +kernel
theorem dL_law_705 : decode cL_law 705 = .ok (.invokevirtual 101, 3) := by decide +kernel
theorem dL_law_708 : decode cL_law 708 = .ok (.if_icmp .eq 250, 3) := by decide +kernel
theorem dL_law_711 : decode cL_law 711 = .ok (.iconst 0, 1) := by decide +kernel
theorem dL_law_712 : decode cL_law 712 = .ok (.ireturn, 1) := by decide +kernel
theorem dL_law_713 : decode cL_law 713 = .ok (.aload_n 1, 1) := by decide +kernel
theorem dL_law_714 : decode cL_law 714 = .ok (.aload_n 0, 1) := by decide +kernel
theorem dL_law_715 : decode cL_law 715 = .ok (.iload_n 3, 1) := by decide +kernel
theorem dL_law_716 : decode cL_law 716 = .ok (.iconst 1, 1) := by decide +kernel
theorem dL_law_717 : decode cL_law 717 = .ok (.iadd, 1) := by decide +kernel
theorem dL_law_718 : decode cL_law 718 = .ok (.iaload, 1) := by decide +kernel
theorem dL_law_719 : decode cL_law 719 = .ok (.aload_n 0, 1) := by decide +kernel
theorem dL_law_720 : decode cL_law 720 = .ok (.iload_n 3, 1) := by decide +kernel
theorem dL_law_721 : decode cL_law 721 = .ok (.iconst 2, 1) := by decide +kernel
theorem dL_law_722 : decode cL_law 722 = .ok (.iadd, 1) := by decide +kernel
theorem dL_law_723 : decode cL_law 723 = .ok (.iaload, 1) := by decide +kernel
theorem dL_law_724 : decode cL_law 724 = .ok (.invokevirtual 102, 3) := by decide +kernel
theorem dL_law_727 : decode cL_law 727 = .ok (.aload_n 2, 1) := by decide +kernel
theorem dL_law_728 : decode cL_law 728 = .ok (.aload_n 0, 1) := by decide +kernel
theorem dL_law_729 : decode cL_law 729 = .ok (.iload_n 3, 1) := by decide +kernel
theorem dL_law_730 : decode cL_law 730 = .ok (.iconst 1, 1) := by decide +kernel
theorem dL_law_731 : decode cL_law 731 = .ok (.iadd, 1) := by decide +kernel
theorem dL_law_732 : decode cL_law 732 = .ok (.iaload, 1) := by decide +kernel
theorem dL_law_733 : decode cL_law 733 = .ok (.aload_n 0, 1) := by decide +kernel
theorem dL_law_734 : decode cL_law 734 = .ok (.iload_n 3, 1) := by decide +kernel
theorem dL_law_735 : decode cL_law 735 = .ok (.iconst 2, 1) := by decide +kernel
theorem dL_law_736 : decode cL_law 736 = .ok (.iadd, 1) := by decide +kernel
theorem dL_law_737 : decode cL_law 737 = .ok (.iaload, 1) := by decide +kernel
theorem dL_law_738 : decode cL_law 738 = .ok (.invokevirtual 105, 3) := by decide +kernel
theorem dL_law_741 : decode cL_law 741 = .ok (.if_icmp .eq 217, 3) := by decide +kernel
theorem dL_law_744 : decode cL_law 744 = .ok (.iconst 0, 1) := by decide +kernel
theorem dL_law_745 : decode cL_law 745 = .ok (.ireturn, 1) := by decide +kernel
theorem dL_law_746 : decode cL_law 746 = .ok (.aload_n 1, 1) := by decide +kernel
theorem dL_law_747 : decode cL_law 747 = .ok (.aload_n 0, 1) := by decide +kernel
theorem dL_law_748 : decode cL_law 748 = .ok (.iload_n 3, 1) := by decide +kernel
theorem dL_law_749 : decode cL_law 749 = .ok (.iconst 1, 1) := by decide +kernel
theorem dL_law_750 : decode cL_law 750 = .ok (.iadd, 1) := by decide +kernel
theorem dL_law_751 : decode cL_law 751 = .ok (.iaload, 1) := by decide +kernel
theorem dL_law_752 : decode cL_law 752 = .ok (.aload_n 0, 1) := by decide +kernel
theorem dL_law_753 : decode cL_law 753 = .ok (.iload_n 3, 1) := by decide +kernel
theorem dL_law_754 : decode cL_law 754 = .ok (.iconst 2, 1) := by decide +kernel
theorem dL_law_755 : decode cL_law 755 = .ok (.iadd, 1) := by decide +kernel
theorem dL_law_756 : decode cL_law 756 = .ok (.iaload, 1) := by decide +kernel
theorem dL_law_757 : decode cL_law 757 = .ok (.invokevirtual 106, 3) := by decide +kernel
theorem dL_law_760 : decode cL_law 760 = .ok (.aload_n 2, 1) := by decide +kernel
theorem dL_law_761 : decode cL_law 761 = .ok (.aload_n 0, 1) := by decide +kernel
theorem dL_law_762 : decode cL_law 762 = .ok (.iload_n 3, 1) := by decide +kernel
theorem dL_law_763 : decode cL_law 763 = .ok (.iconst 1, 1) := by decide +kernel
theorem dL_law_764 : decode cL_law 764 = .ok (.iadd, 1) := by decide +kernel
theorem dL_law_765 : decode cL_law 765 = .ok (.iaload, 1) := by decide +kernel
theorem dL_law_766 : decode cL_law 766 = .ok (.aload_n 0, 1) := by decide +kernel
theorem dL_law_767 : decode cL_law 767 = .ok (.iload_n 3, 1) := by decide +kernel
theorem dL_law_768 : decode cL_law 768 = .ok (.iconst 2, 1) := by decide +kernel
theorem dL_law_769 : decode cL_law 769 = .ok (.iadd, 1) := by decide +kernel
theorem dL_law_770 : decode cL_law 770 = .ok (.iaload, 1) := by decide +kernel
theorem dL_law_771 : decode cL_law 771 = .ok (.invokevirtual 109, 3) := by decide +kernel
theorem dL_law_774 : decode cL_law 774 = .ok (.if_icmp .eq 184, 3) := by decide +kernel
theorem dL_law_777 : decode cL_law 777 = .ok (.iconst 0, 1) := by decide +kernel
theorem dL_law_778 : decode cL_law 778 = .ok (.ireturn, 1) := by decide +kernel
theorem dL_law_779 : decode cL_law 779 = .ok (.aload_n 1, 1) := by decide +kernel
theorem dL_law_780 : decode cL_law 780 = .ok (.aload_n 0, 1) := by decide +kernel
theorem dL_law_781 : decode cL_law 781 = .ok (.iload_n 3, 1) := by decide +kernel
theorem dL_law_782 : decode cL_law 782 = .ok (.iconst 1, 1) := by decide +kernel
theorem dL_law_783 : decode cL_law 783 = .ok (.iadd, 1) := by decide +kernel
theorem dL_law_784 : decode cL_law 784 = .ok (.iaload, 1) := by decide +kernel
theorem dL_law_785 : decode cL_law 785 = .ok (.invokevirtual 110, 3) := by decide +kernel
theorem dL_law_788 : decode cL_law 788 = .ok (.aload_n 2, 1) := by decide +kernel
theorem dL_law_789 : decode cL_law 789 = .ok (.aload_n 0, 1) := by decide +kernel
theorem dL_law_790 : decode cL_law 790 = .ok (.iload_n 3, 1) := by decide +kernel
theorem dL_law_791 : decode cL_law 791 = .ok (.iconst 1, 1) := by decide +kernel
theorem dL_law_792 : decode cL_law 792 = .ok (.iadd, 1) := by decide +kernel
theorem dL_law_793 : decode cL_law 793 = .ok (.iaload, 1) := by decide +kernel
theorem dL_law_794 : decode cL_law 794 = .ok (.invokevirtual 113, 3) := by decide +kernel
theorem dL_law_797 : decode cL_law 797 = .ok (.if_icmp .eq 161, 3) := by decide +kernel
theorem dL_law_800 : decode cL_law 800 = .ok (.iconst 0, 1) := by decide +kernel
theorem dL_law_801 : decode cL_law 801 = .ok (.ireturn, 1) := by decide +kernel
theorem dL_law_802 : decode cL_law 802 = .ok (.aload_n 1, 1) := by decide +kernel
theorem dL_law_803 : decode cL_law 803 = .ok (.aload_n 0, 1) := by decide +kernel
theorem dL_law_804 : decode cL_law 804 = .ok (.iload_n 3, 1) := by decide +kernel
theorem dL_law_805 : decode cL_law 805 = .ok (.iconst 1, 1) := by decide +kernel
theorem dL_law_806 : decode cL_law 806 = .ok (.iadd, 1) := by decide +kernel
theorem dL_law_807 : decode cL_law 807 = .ok (.iaload, 1) := by decide +kernel
theorem dL_law_808 : decode cL_law 808 = .ok (.invokevirtual 114, 3) := by decide +kernel
theorem dL_law_811 : decode cL_law 811 = .ok (.aload_n 2, 1) := by decide +kernel
theorem dL_law_812 : decode cL_law 812 = .ok (.aload_n 0, 1) := by decide +kernel
theorem dL_law_813 : decode cL_law 813 = .ok (.iload_n 3, 1) := by decide +kernel
theorem dL_law_814 : decode cL_law 814 = .ok (.iconst 1, 1) := by decide +kernel
theorem dL_law_815 : decode cL_law 815 = .ok (.iadd, 1) := by decide +kernel
theorem dL_law_816 : decode cL_law 816 = .ok (.iaload, 1) := by decide +kernel
theorem dL_law_817 : decode cL_law 817 = .ok (.invokevirtual 117, 3) := by decide +kernel
theorem dL_law_820 : decode cL_law 820 = .ok (.if_icmp .eq 138, 3) := by decide +kernel
theorem dL_law_823 : decode cL_law 823 = .ok (.iconst 0, 1) := by decide +kernel
theorem dL_law_824 : decode cL_law 824 = .ok (.ireturn, 1) := by decide +kernel
theorem dL_law_825 : decode cL_law 825 = .ok (.aload_n 1, 1) := by decide +kernel
theorem dL_law_826 : decode cL_law 826 = .ok (.invokevirtual 118, 3) := by decide +kernel
theorem dL_law_829 : decode cL_law 829 = .ok (.aload_n 2, 1) := by decide +kernel
theorem dL_law_830 : decode cL_law 830 = .ok (.invokevirtual 121, 3) := by decide +kernel
theorem dL_law_833 : decode cL_law 833 = .ok (.if_icmp .eq 125, 3) := by decide +kernel
theorem dL_law_836 : decode cL_law 836 = .ok (.iconst 0, 1) := by decide +kernel
theorem dL_law_837 : decode cL_law 837 = .ok (.ireturn, 1) := by decide +kernel
theorem dL_law_838 : decode cL_law 838 = .ok (.aload_n 1, 1) := by decide +kernel
theorem dL_law_839 : decode cL_law 839 = .ok (.invokevirtual 122, 3) := by decide +kernel
theorem dL_law_842 : decode cL_law 842 = .ok (.dstore 4, 2) := by decide +kernel
theorem dL_law_844 : decode cL_law 844 = .ok (.aload_n 2, 1) := by decide +kernel
theorem dL_law_845 : decode cL_law 845 = .ok (.invokevirtual 126, 3) := by decide +kernel
theorem dL_law_848 : decode cL_law 848 = .ok (.dstore 6, 2) := by decide +kernel
theorem dL_law_850 : decode cL_law 850 = .ok (.dload 4, 2) := by decide +kernel
theorem dL_law_852 : decode cL_law 852 = .ok (.dload 6, 2) := by decide +kernel
theorem dL_law_854 : decode cL_law 854 = .ok (.dcmp .l, 1) := by decide +kernel
theorem dL_law_855 : decode cL_law 855 = .ok (.ifCond .eq 21, 3) := by decide +kernel
theorem dL_law_858 : decode cL_law 858 = .ok (.dload 4, 2) := by decide +kernel
theorem dL_law_860 : decode cL_law 860 = .ok (.dload 4, 2) := by decide +kernel
theorem dL_law_862 : decode cL_law 862 = .ok (.dcmp .l, 1) := by decide +kernel
theorem dL_law_863 : decode cL_law 863 = .ok (.ifCond .eq 11, 3) := by decide +kernel
theorem dL_law_866 : decode cL_law 866 = .ok (.dload 6, 2) := by decide +kernel
theorem dL_law_868 : decode cL_law 868 = .ok (.dload 6, 2) := by decide +kernel
theorem dL_law_870 : decode cL_law 870 = .ok (.dcmp .l, 1) := by decide +kernel
theorem dL_law_871 : decode cL_law 871 = .ok (.ifCond .ne 5, 3) := by decide +kernel
theorem dL_law_874 : decode cL_law 874 = .ok (.iconst 0, 1) := by decide +kernel
theorem dL_law_875 : decode cL_law 875 = .ok (.ireturn, 1) := by decide +kernel
theorem dL_law_876 : decode cL_law 876 = .ok (.goto 82, 3) := by decide +kernel
theorem dL_law_879 : decode cL_law 879 = .ok (.aload_n 1, 1) := by decide +kernel
theorem dL_law_880 : decode cL_law 880 = .ok (.aload_n 0, 1) := by decide +kernel
theorem dL_law_881 : decode cL_law 881 = .ok (.iload_n 3, 1) := by decide +kernel
theorem dL_law_882 : decode cL_law 882 = .ok (.iconst 1, 1) := by decide +kernel
theorem dL_law_883 : decode cL_law 883 = .ok (.iadd, 1) := by decide +kernel
theorem dL_law_884 : decode cL_law 884 = .ok (.iaload, 1) := by decide +kernel
theorem dL_law_885 : decode cL_law 885 = .ok (.aload_n 0, 1) := by decide +kernel
theorem dL_law_886 : decode cL_law 886 = .ok (.iload_n 3, 1) := by decide +kernel
theorem dL_law_887 : decode cL_law 887 = .ok (.iconst 2, 1) := by decide +kernel
theorem dL_law_888 : decode cL_law 888 = .ok (.iadd, 1) := by decide +kernel
theorem dL_law_889 : decode cL_law 889 = .ok (.iaload, 1) := by decide +kernel
theorem dL_law_890 : decode cL_law 890 = .ok (.invokevirtual 127, 3) := by decide +kernel
theorem dL_law_893 : decode cL_law 893 = .ok (.aload_n 2, 1) := by decide +kernel
theorem dL_law_894 : decode cL_law 894 = .ok (.aload_n 0, 1) := by decide +kernel
theorem dL_law_895 : decode cL_law 895 = .ok (.iload_n 3, 1) := by decide +kernel
theorem dL_law_896 : decode cL_law 896 = .ok (.iconst 1, 1) := by decide +kernel
theorem dL_law_897 : decode cL_law 897 = .ok (.iadd, 1) := by decide +kernel
theorem dL_law_898 : decode cL_law 898 = .ok (.iaload, 1) := by decide +kernel
theorem dL_law_899 : decode cL_law 899 = .ok (.aload_n 0, 1) := by decide +kernel
theorem dL_law_900 : decode cL_law 900 = .ok (.iload_n 3, 1) := by decide +kernel
theorem dL_law_901 : decode cL_law 901 = .ok (.iconst 2, 1) := by decide +kernel
theorem dL_law_902 : decode cL_law 902 = .ok (.iadd, 1) := by decide +kernel
theorem dL_law_903 : decode cL_law 903 = .ok (.iaload, 1) := by decide +kernel
theorem dL_law_904 : decode cL_law 904 = .ok (.invokevirtual 130, 3) := by decide +kernel
theorem dL_law_907 : decode cL_law 907 = .ok (.if_icmp .eq 51, 3) := by decide +kernel
theorem dL_law_910 : decode cL_law 910 = .ok (.iconst 0, 1) := by decide +kernel
theorem dL_law_911 : decode cL_law 911 = .ok (.ireturn, 1) := by decide +kernel
theorem dL_law_912 : decode cL_law 912 = .ok (.aload_n 1, 1) := by decide +kernel
theorem dL_law_913 : decode cL_law 913 = .ok (.aload_n 0, 1) := by decide +kernel
theorem dL_law_914 : decode cL_law 914 = .ok (.iload_n 3, 1) := by decide +kernel
theorem dL_law_915 : decode cL_law 915 = .ok (.iconst 1, 1) := by decide +kernel
theorem dL_law_916 : decode cL_law 916 = .ok (.iadd, 1) := by decide +kernel
theorem dL_law_917 : decode cL_law 917 = .ok (.iaload, 1) := by decide +kernel
theorem dL_law_918 : decode cL_law 918 = .ok (.invokevirtual 131, 3) := by decide +kernel
theorem dL_law_921 : decode cL_law 921 = .ok (.aload_n 2, 1) := by decide +kernel
theorem dL_law_922 : decode cL_law 922 = .ok (.aload_n 0, 1) := by decide +kernel
theorem dL_law_923 : decode cL_law 923 = .ok (.iload_n 3, 1) := by decide +kernel
theorem dL_law_924 : decode cL_law 924 = .ok (.iconst 1, 1) := by decide +kernel
theorem dL_law_925 : decode cL_law 925 = .ok (.iadd, 1) := by decide +kernel
theorem dL_law_926 : decode cL_law 926 = .ok (.iaload, 1) := by decide +kernel
theorem dL_law_927 : decode cL_law 927 = .ok (.invokevirtual 134, 3) := by decide +kernel
theorem dL_law_930 : decode cL_law 930 = .ok (.if_icmp .eq 28, 3) := by decide +kernel
theorem dL_law_933 : decode cL_law 933 = .ok (.iconst 0, 1) := by decide +kernel
theorem dL_law_934 : decode cL_law 934 = .ok (.ireturn, 1) := by decide +kernel
theorem dL_law_935 : decode cL_law 935 = .ok (.aload_n 1, 1) := by decide +kernel
theorem dL_law_936 : decode cL_law 936 = .ok (.aload_n 0, 1) := by decide +kernel
theorem dL_law_937 : decode cL_law 937 = .ok (.iload_n 3, 1) := by decide +kernel
theorem dL_law_938 : decode cL_law 938 = .ok (.iconst 1, 1) := by decide +kernel
theorem dL_law_939 : decode cL_law 939 = .ok (.iadd, 1) := by decide +kernel
theorem dL_law_940 : decode cL_law 940 = .ok (.iaload, 1) := by decide +kernel
theorem dL_law_941 : decode cL_law 941 = .ok (.invokevirtual 135, 3) := by decide +kernel
theorem dL_law_944 : decode cL_law 944 = .ok (.aload_n 2, 1) := by decide +kernel
theorem dL_law_945 : decode cL_law 945 = .ok (.aload_n 0, 1) := by decide +kernel
theorem dL_law_946 : decode cL_law 946 = .ok (.iload_n 3, 1) := by decide +kernel
theorem dL_law_947 : decode cL_law 947 = .ok (.iconst 1, 1) := by decide +kernel
theorem dL_law_948 : decode cL_law 948 = .ok (.iadd, 1) := by decide +kernel
theorem dL_law_949 : decode cL_law 949 = .ok (.iaload, 1) := by decide +kernel
theorem dL_law_950 : decode cL_law 950 = .ok (.invokevirtual 138, 3) := by decide +kernel
theorem dL_law_953 : decode cL_law 953 = .ok (.if_icmp .eq 5, 3) := by decide +kernel
theorem dL_law_956 : decode cL_law 956 = .ok (.iconst 0, 1) := by decide +kernel
theorem dL_law_957 : decode cL_law 957 = .ok (.ireturn, 1) := by decide +kernel
theorem dL_law_958 : decode cL_law 958 = .ok (.iinc 3 4, 3) := by decide +kernel
theorem dL_law_961 : decode cL_law 961 = .ok (.goto (-943), 3) := by decide +kernel
theorem dL_law_964 : decode cL_law 964 = .ok (.iconst 1, 1) := by decide +kernel
theorem dL_law_965 : decode cL_law 965 = .ok (.ireturn, 1) := by decide +kernel
end
section
/-- the tables' words that are handed on -/
def lw_g : List Cond := lw_tbl.filter goodWord
theorem lw_g_in {q : Cond} (h : q ∈ lw_tbl) (g : goodWord q = true) : q ∈ lw_g := List.mem_filter.mpr ⟨h, g⟩
theorem lw_g_of {q : Cond} (h : q ∈ lw_g) : q ∈ lw_tbl ∧ goodWord q = true := List.mem_filter.mp h
theorem lw_t_in {q : Cond} (h : q ∈ tables_1) : q ∈ lw_tbl := List.mem_append_right _ h
theorem lw_p_in {q : Cond} (h : q ∈ k2_sels lw_privs) : q ∈ lw_tbl := List.mem_append_left _ h
end
section
/-! the machine over a fixed shape of cells: whole numbers as Int, cells by their places -/
abbrev zV : Type := Int ⊕ (Nat ⊕ UInt64)
abbrev zM : Type := Nat → Int → Int
abbrev zC : Type := Nat × Nat × List (Option Nat)
abbrev zS : Type := List zC
abbrev zi (x : Int) : zV := Sum.inl x
abbrev zr (i : Nat) : zV := Sum.inr (Sum.inl i)
abbrev zd (d : UInt64) : zV := Sum.inr (Sum.inr d)
abbrev i32 (x : Int) : Prop := -2147483648 ≤ x ∧ x < 2147483648
def zcv (ad : Nat → Nat) : zV → Value
  | .inl x => .int (Int32.ofInt x)
  | .inr (.inl i) => .ref (ad i)
  | .inr (.inr d) => .double d
def zf1 (ad : Nat → Nat) (f : Int → Int) (k : Nat) (o : Option Nat) : Value := match o with
  | none => .int (Int32.ofInt (f k))
  | some j => .ref (ad j)
def zfs (ad : Nat → Nat) (f : Int → Int) (l : List (Option Nat)) : List Value := l.mapIdx (zf1 ad f)
def zce (ids : Nat → ClassId) (ad : Nat → Nat) (f : Int → Int) (sh : zC) : va_E := match sh with
  | (0, ci, fl) => .inr (ci, zfs ad f fl)
  | (4, n, rl) => .inl (ids 4, n, .inr (.inr (.inr (.inr (fun j => (rl.getD j none).map ad)))))
  | (t, n, _) => .inl (ids t, n, .inl (fun j => Int32.ofInt (f j)))
def zW (ids : Nat → ClassId) (ad : Nat → Nat) (M : zM) (shp : zS) : va_W := shp.mapIdx (fun i sh => (ad i, zce ids ad (M i) sh))
def zT (ids : Nat → ClassId) : List (ClassId × FieldType) := [(ids 1, .int), (ids 2, .char), (ids 3, .boolean), (ids 4, .object "BarStrips$Chart")]
def zup (M : zM) (i : Nat) (k x : Int) : zM := fun a b => if a = i ∧ b = k then x else M a b
def zRM (M : zM) : Prop := ∀ i k, i32 (M i k)
theorem zW_get {ids : Nat → ClassId} {ad : Nat → Nat} {M : zM} {shp : zS} {i : Nat} {sh : zC} (h : shp[i]? = some sh) : (zW ids ad M shp)[i]? = some (ad i, zce ids ad (M i) sh) := by
  unfold zW
  rw [List.getElem?_mapIdx, h]
  rfl
theorem zW_ad {ids : Nat → ClassId} {ad : Nat → Nat} {M : zM} {shp : zS} {i : Nat} {q : Nat × va_E} (h : (zW ids ad M shp)[i]? = some q) : q.1 = ad i ∧ i < shp.length := by
  unfold zW at h
  rw [List.getElem?_mapIdx] at h
  cases hs : shp[i]? with
  | none => rw [hs] at h; cases h
  | some sh =>
    rw [hs] at h
    cases h
    exact ⟨rfl, (List.getElem?_eq_some_iff.mp hs).1⟩
theorem zW_set {ids : Nat → ClassId} {ad : Nat → Nat} {M M' : zM} {shp : zS} {i : Nat} {sh : zC} {e : va_E} (h : shp[i]? = some sh) (he : e = zce ids ad (M' i) sh) (ho : ∀ j, j ≠ i → M' j = M j) : (zW ids ad M shp).set i (ad i, e) = zW ids ad M' shp := by
  apply List.ext_getElem?
  intro j
  rw [List.getElem?_set]
  unfold zW
  rw [List.getElem?_mapIdx, List.getElem?_mapIdx]
  by_cases hj : i = j
  · subst hj
    have hl : i < shp.length := (List.getElem?_eq_some_iff.mp h).1
    have h2 : shp[i] = sh := (List.getElem?_eq_some_iff.mp h).2
    simp [h, he, List.length_mapIdx, hl]
    exact congrArg _ h2.symm
  · rw [if_neg hj, ho j (fun q => hj q.symm)]
theorem zup_other {M : zM} {i : Nat} {k x : Int} {j : Nat} (h : j ≠ i) : zup M i k x j = M j := by
  funext b
  simp [zup, h]
theorem zup_rm {M : zM} (h : zRM M) {i : Nat} {k x : Int} (hx : i32 x) : zRM (zup M i k x) := by
  intro a b
  unfold zup
  split
  · exact hx
  · exact h a b
theorem zD_all {A : Nat → Prop} {ids : Nat → ClassId} {ad : Nat → Nat} {M : zM} {shp : zS} (h : va_D A (zW ids ad M shp)) (M' : zM) : va_D A (zW ids ad M' shp) := by
  have ex : ∀ (k : Nat) (q : Nat × va_E), (zW ids ad M' shp)[k]? = some q → ∃ e, (zW ids ad M shp)[k]? = some (q.1, e) := by
    intro k q hq
    obtain ⟨h1, h2⟩ := zW_ad hq
    refine ⟨zce ids ad (M k) shp[k], ?_⟩
    rw [zW_get (sh := shp[k]) (List.getElem?_eq_getElem h2), h1]
  refine ⟨fun i j p q hp hq e => ?_, fun k q hq => ?_⟩
  · obtain ⟨e1, h1⟩ := ex i p hp
    obtain ⟨e2, h2⟩ := ex j q hq
    exact h.1 i j _ _ h1 h2 e
  · obtain ⟨e1, h1⟩ := ex k q hq
    exact h.2 k (q.1, e1) h1
theorem zA_all {ids : Nat → ClassId} {ad : Nat → Nat} {M M' : zM} {shp : zS} {sz : Nat} : va_A (zW ids ad M shp) sz = va_A (zW ids ad M' shp) sz := by
  have ex : ∀ (M M' : zM) (q : Nat), va_A (zW ids ad M shp) sz q → va_A (zW ids ad M' shp) sz q := by
    intro M M' q hq
    rcases hq with ⟨k, e, hk⟩ | hq
    · obtain ⟨h1, h2⟩ := zW_ad hk
      refine Or.inl ⟨k, zce ids ad (M' k) shp[k], ?_⟩
      rw [zW_get (sh := shp[k]) (List.getElem?_eq_getElem h2)]
      exact congrArg (fun z => some (z, _)) h1.symm
    · exact Or.inr hq
  funext q
  exact propext ⟨ex M M' q, ex M' M q⟩
-- numbers
theorem zi_to {x : Int} (h : i32 x) : (Int32.ofInt x).toInt = x := by
  rw [Int32.toInt_ofInt]
  exact Int.bmod_eq_of_le (by have := h.1; simp [Int32.size]; omega) (by have := h.2; simp [Int32.size]; omega)
theorem zi_of (v : Int32) : Int32.ofInt v.toInt = v := Int32.ofInt_toInt v
theorem zi_rng (v : Int32) : i32 v.toInt := ⟨by have := Int32.le_toInt v; omega, by have := Int32.toInt_lt v; omega⟩
theorem zi_add (x y : Int) : Int32.ofInt x + Int32.ofInt y = Int32.ofInt (x + y) := (Int32.ofInt_add x y).symm
theorem zi_sub (x y : Int) : Int32.ofInt x - Int32.ofInt y = Int32.ofInt (x - y) := (Int32.ofInt_sub x y).symm
theorem zi_mul (x y : Int) : Int32.ofInt x * Int32.ofInt y = Int32.ofInt (x * y) := (Int32.ofInt_mul x y).symm
theorem zi_neg (x : Int) : - Int32.ofInt x = Int32.ofInt (-x) := (Int32.ofInt_neg x).symm
theorem zi_lt {x y : Int} (hx : i32 x) (hy : i32 y) : Int32.ofInt x < Int32.ofInt y ↔ x < y := by
  rw [Int32.lt_iff_toInt_lt, zi_to hx, zi_to hy]
theorem zi_le {x y : Int} (hx : i32 x) (hy : i32 y) : Int32.ofInt x ≤ Int32.ofInt y ↔ x ≤ y := by
  rw [Int32.le_iff_toInt_le, zi_to hx, zi_to hy]
theorem zi_eq {x y : Int} (hx : i32 x) (hy : i32 y) : Int32.ofInt x = Int32.ofInt y ↔ x = y := by
  rw [← Int32.toInt_inj, zi_to hx, zi_to hy]
theorem zi_nat {x : Int} (hx : i32 x) (h0 : 0 ≤ x) : (Int32.ofInt x).toNatClampNeg = x.toNat := by
  show (Int32.ofInt x).toInt.toNat = _
  rw [zi_to hx]
theorem zi_in {x : Int} (hx : i32 x) {n : Nat} (h0 : 0 ≤ x) (hn : x < n) : vp_in (Int32.ofInt x) n := by
  rw [vp_in_iff, zi_to hx]
  exact ⟨h0, hn⟩

-- locals and stack
def zL (ls : Array Slot) (ad : Nat → Nat) (lv : List (Option zV)) : Prop := ls.size = lv.length ∧ lv_wf ls ∧ ∀ (i : Nat) (v : zV), lv[i]? = some (some v) → ls[i]? = some (Slot.val (zcv ad v))
def zlp (ad : Nat → Nat) (lv : List (Option zV)) : List (Nat × Value) := (lv.mapIdx (fun i o => (i, o))).filterMap (fun q => q.2.map (fun v => (q.1, zcv ad v)))
theorem zlp_mem {ad : Nat → Nat} {lv : List (Option zV)} {q : Nat × Value} : q ∈ zlp ad lv ↔ ∃ v, lv[q.1]? = some (some v) ∧ q.2 = zcv ad v := by
  unfold zlp
  rw [List.mem_filterMap]
  constructor
  · rintro ⟨⟨i, o⟩, h1, h2⟩
    obtain ⟨k, hk⟩ := List.getElem?_of_mem h1
    rw [List.getElem?_mapIdx] at hk
    cases ho : lv[k]? with
    | none => rw [ho] at hk; cases hk
    | some o' =>
      rw [ho] at hk
      cases hk
      cases o with
      | none => cases h2
      | some v => cases h2; exact ⟨v, ho, rfl⟩
  · rintro ⟨v, h1, h2⟩
    refine ⟨(q.1, some v), List.mem_of_getElem? (i := q.1) ?_, ?_⟩
    · rw [List.getElem?_mapIdx, h1]
      rfl
    · show some (q.1, zcv ad v) = some q
      rw [← h2]
theorem zL_to {ls : Array Slot} {ad : Nat → Nat} {lv : List (Option zV)} (h : zL ls ad lv) : lv_has ls lv.length (zlp ad lv) := by
  refine ⟨h.1, h.2.1, fun q hq => ?_⟩
  obtain ⟨v, h1, h2⟩ := zlp_mem.mp hq
  rw [h2]
  exact h.2.2 _ _ h1
def zRV (lv : List (Option zV)) (st : List zV) : Prop := (∀ x, some (Sum.inl x) ∈ lv → i32 x) ∧ (∀ x, Sum.inl x ∈ st → i32 x) ∧ ∀ d, some (zd d) ∉ lv
theorem zL_store {ls : Array Slot} {ad : Nat → Nat} {lv : List (Option zV)} (hd : ∀ d, some (zd d) ∉ lv) {i : Nat} {v : zV} (hi : i < lv.length)
    (h : lv_has ls lv.length ((i, zcv ad v) :: (zlp ad lv).filter (fun q => !(q.1 == i) && !(q.1 + 1 == i && q.2.category == 2)))) : zL ls ad (lv.set i (some v)) := by
  refine ⟨by rw [List.length_set]; exact h.1, h.2.1, fun j w hj => ?_⟩
  rw [List.getElem?_set] at hj
  by_cases e : i = j
  · subst e
    rw [if_pos rfl, if_pos hi] at hj
    cases hj
    exact h.2.2 _ List.mem_cons_self
  · rw [if_neg e] at hj
    refine h.2.2 (j, zcv ad w) (List.mem_cons_of_mem _ (List.mem_filter.mpr ⟨zlp_mem.mpr ⟨w, hj, rfl⟩, ?_⟩))
    have e1 : (j == i) = false := by simp; omega
    have e2 : ((zcv ad w).category == 2) = false := by
      rcases w with x | k | d
      · rfl
      · rfl
      · exact absurd (List.mem_of_getElem? hj) (hd d)
    simp [e1, e2]
theorem zRV_set {lv : List (Option zV)} {st st' : List zV} (h : zRV lv st) {i : Nat} {v : zV} (hv : v ∈ st) (hs : ∀ x ∈ st', x ∈ st) (hd : ∀ d, v ≠ zd d) : zRV (lv.set i (some v)) st' := by
  refine ⟨fun x hx => ?_, fun x hx => h.2.1 x (hs _ hx), fun d hx => ?_⟩
  · rcases List.mem_or_eq_of_mem_set hx with h1 | h1
    · exact h.1 x h1
    · exact h.2.1 x ((Option.some.inj h1) ▸ hv)
  · rcases List.mem_or_eq_of_mem_set hx with h1 | h1
    · exact h.2.2 d h1
    · exact hd d (Option.some.inj h1).symm
-- where a walk stands, and what it is to be
abbrev zX : Type := Program × Launch × Env × Room × State × MethodId × Array Value × List Frame × Method × Code × va_G × (Nat → ClassId) × (Nat → Nat) × zS × (Nat → Prop) × (zV → zM → Prop)
def zrv (ad : Nat → Nat) (ret : Option FieldType) (v : zV) : Option Value := match ret with
  | none => none
  | some _ => some (zcv ad v)
def zPost (ids : Nat → ClassId) (ad : Nat → Nat) (D : va_G) (shp : zS) (ret : Option FieldType) (A : Nat → Prop) (F : zV → zM → Prop) : Array Value → State → Outcome → State → Prop := fun _ st oc t =>
  (∃ (v : zV) (M : zM), oc = .returned (zrv ad ret v) ∧ (∀ x, v = zi x → i32 x) ∧ zRM M ∧ F v M ∧ va_P D vwCl (zW ids ad M shp) t.heap) ∧ va_F A st t
def zG : zX → zM → Nat → List (Option zV) → List zV → Prop
  | (p, l, e, R, s, m, args, below, meth, c, D, ids, ad, shp, A, F), M, pc, lv, st => zRM M → zRV lv st → ∀ (H : Heap) (locs : List Loc) (ls : Array Slot), va_P D vwCl (zW ids ad M shp) H → va_S A s.heap H locs → zL ls ad lv →
      W p l e R s m args below meth c H locs 0 0 (MQ below (zPost ids ad D shp meth.sig.returnType A F) args s 0 0 A) (F0 m pc ls (st.map (zcv ad)))
def zOK : zX → Launch → ByteArray → Nat → String → Option FieldType → Nat → Nat → zS → (zV → zM → Prop) → Prop
  | (p, l, e, R, s, m, args, below, meth, c, D, ids, ad, shp, A, F), l', cc, nL, own, ret, f, w, shp', F' =>
    l = l' ∧ p.tables.exec = Jvm.exec ∧ c.code = cc ∧ c.maxLocals = nL ∧ s.vm.findClass own = some m.cls ∧ (∀ q ∈ lw_g, q.before args s = true) ∧ va_K D vwCl (zT ids) s ∧ (∀ M, va_D A (zW ids ad M shp)) ∧ (∀ q, s.heap.size ≤ q → A q) ∧ meth.sig.returnType = ret ∧ meth.locks = false ∧ R = ({ frames := f, cells := 0, slots := 0, locals := w } : Room) ∧ shp = shp' ∧ F = F'
def zMet (l : Launch) (y : MethodName) (cc : ByteArray) (maxL : Nat) (ret : Option FieldType) (f w : Nat) (shp : zS) (av : List zV) (M : zM) (F : zV → zM → Prop) : Prop :=
  zRM M → (∀ x, Sum.inl x ∈ av → i32 x) → ∀ (D : va_G) (ids : Nat → ClassId) (ad : Nat → Nat) (sz : Nat), Met l y (.code y cc maxL ret :: lw_g) ({ frames := f, cells := 0, slots := 0, locals := w } : Room)
    (va_Pc (av.map (zcv ad)) (fun U => U.heap.size = sz ∧ va_P D vwCl (zW ids ad M shp) U.heap ∧ va_K D vwCl (zT ids) U ∧ va_D (fun _ => True) (zW ids ad M shp))) (zPost ids ad D shp ret (va_A (zW ids ad M shp) sz) F) 0 0 (va_A (zW ids ad M shp) sz)
def zNd : List zV → Bool
  | [] => true
  | .inr (.inr _) :: _ => false
  | _ :: t => zNd t
theorem zNd_of : ∀ {st : List zV}, zNd st = true → ∀ d, zd d ∉ st
  | [], _, _, h => List.not_mem_nil h
  | .inl x :: t, h, d, hd => (List.mem_cons.mp hd).elim (fun e => nomatch e) (fun q => zNd_of (st := t) h d q)
  | .inr (.inl x) :: t, h, d, hd => (List.mem_cons.mp hd).elim (fun e => nomatch e) (fun q => zNd_of (st := t) h d q)
  | .inr (.inr x) :: t, h, d, hd => nomatch h
theorem z_cat (ad : Nat → Nat) {v : zV} (h : ∀ d, v ≠ zd d) : (zcv ad v).category = 1 := by
  rcases v with x | k | d
  · rfl
  · rfl
  · exact absurd rfl (h d)
theorem z_sl (ad : Nat → Nat) : ∀ (av : List zV), (∀ d, zd d ∉ av) → lg_sl (av.map (zcv ad)) = av.map (fun v => Slot.val (zcv ad v))
  | [], _ => rfl
  | v :: t, h => by
    have h1 : (zcv ad v).category = 1 := z_cat ad (fun d e => h d (e ▸ List.mem_cons_self))
    have ih := z_sl ad t (fun d hd => h d (List.mem_cons_of_mem _ hd))
    unfold lg_sl at ih ⊢
    rw [List.map_cons, List.flatMap_cons, ih, if_neg (by rw [h1]; decide)]
    rfl
end
section
/-! one row an instruction, over zG -/
theorem zRV_push {lv : List (Option zV)} {st st' : List zV} (h : zRV lv st) (hs : ∀ x ∈ st', x ∈ st ∨ (∃ y, x = zi y ∧ i32 y) ∨ (∃ i, x = zr i) ∨ ∃ d, x = zd d) : zRV lv st' := by
  refine ⟨h.1, fun x hx => ?_, h.2.2⟩
  rcases hs _ hx with h1 | ⟨y, h1, h2⟩ | ⟨i, h1⟩ | ⟨d, h1⟩
  · exact h.2.1 x h1
  · cases h1; exact h2
  · cases h1
  · cases h1
theorem zRV_sub {lv : List (Option zV)} {st st' : List zV} (h : zRV lv st) (hs : ∀ x ∈ st', x ∈ st) : zRV lv st' := zRV_push h (fun x hx => Or.inl (hs x hx))
theorem zRV_i {lv : List (Option zV)} {st st' : List zV} {x : Int} (h : zRV lv st) (hx : i32 x) (hs : ∀ v ∈ st', v ∈ st) : zRV lv (zi x :: st') := zRV_push h (fun v hv => (List.mem_cons.mp hv).elim (fun e => Or.inr (Or.inl ⟨x, e, hx⟩)) (fun e => Or.inl (hs v e)))
theorem zRV_r {lv : List (Option zV)} {st st' : List zV} {i : Nat} (h : zRV lv st) (hs : ∀ v ∈ st', v ∈ st) : zRV lv (zr i :: st') := zRV_push h (fun v hv => (List.mem_cons.mp hv).elim (fun e => Or.inr (Or.inr (Or.inl ⟨i, e⟩))) (fun e => Or.inl (hs v e)))
theorem zRV_d {lv : List (Option zV)} {st st' : List zV} {x : UInt64} (h : zRV lv st) (hs : ∀ v ∈ st', v ∈ st) : zRV lv (zd x :: st') := zRV_push h (fun v hv => (List.mem_cons.mp hv).elim (fun e => Or.inr (Or.inr (Or.inr ⟨x, e⟩))) (fun e => Or.inl (hs v e)))
theorem zt1 {α : Type} {a : α} {l : List α} : ∀ v ∈ l, v ∈ a :: l := fun _ h => List.mem_cons_of_mem _ h
theorem zt2 {α : Type} {a b : α} {l : List α} : ∀ v ∈ l, v ∈ a :: b :: l := fun _ h => List.mem_cons_of_mem _ (List.mem_cons_of_mem _ h)
theorem zt3 {α : Type} {a b c : α} {l : List α} : ∀ v ∈ l, v ∈ a :: b :: c :: l := fun _ h => List.mem_cons_of_mem _ (List.mem_cons_of_mem _ (List.mem_cons_of_mem _ h))
theorem zt0 {α : Type} {l : List α} : ∀ v ∈ l, v ∈ l := fun _ h => h
theorem zNd1 {v : zV} (h : zNd [v] = true) : ∀ d, v ≠ zd d := fun d e => zNd_of h d (e ▸ List.mem_cons_self)
def zand (x y : Int) : Int := (Int32.ofInt x &&& Int32.ofInt y).toInt
def zor (x y : Int) : Int := (Int32.ofInt x ||| Int32.ofInt y).toInt
def zxor (x y : Int) : Int := (Int32.ofInt x ^^^ Int32.ofInt y).toInt
def zshl (x y : Int) : Int := (Int32.ofInt x <<< (Int32.ofInt y &&& 31)).toInt
def zshr (x y : Int) : Int := (Int32.ofInt x >>> (Int32.ofInt y &&& 31)).toInt
section ZQ
variable {X : zX} {l : Launch} {cc : ByteArray} {nL : Nat} {own : String} {ret : Option FieldType} {f w : Nat} {shp : zS} {F : zV → zM → Prop} {M : zM} {pc : Nat} {lv lv' : List (Option zV)} {st : List zV}
theorem zq_iconst (C : zOK X l cc nL own ret f w shp F) {n x : Int} (d : decode cc pc = .ok (.iconst n, 1)) (hv : Int32.ofInt n = Int32.ofInt x) (h : i32 x) (k : zG X M (pc + 1) lv (zi x :: st)) : zG X M pc lv st := by
  obtain ⟨p, l', e, R, s, m, args, below, meth, c, D, ids, ad, shp', A, F'⟩ := X
  obtain ⟨rfl, hx, hb, hml, hown, hts, hK, hD, hA, hr, hlk, hR, rfl, rfl⟩ := C
  intro hM hV H locs ls hP hS hL
  refine lv_iconst (v := Int32.ofInt x) hx hb d hv ?_
  exact k hM (zRV_i hV h zt0) H locs ls hP hS hL
theorem zq_bipush (C : zOK X l cc nL own ret f w shp F) {n x : Int} (d : decode cc pc = .ok (.bipush n, 2)) (hv : (Int8.ofInt n).toInt32 = Int32.ofInt x) (h : i32 x) (k : zG X M (pc + 2) lv (zi x :: st)) : zG X M pc lv st := by
  obtain ⟨p, l', e, R, s, m, args, below, meth, c, D, ids, ad, shp', A, F'⟩ := X
  obtain ⟨rfl, hx, hb, hml, hown, hts, hK, hD, hA, hr, hlk, hR, rfl, rfl⟩ := C
  intro hM hV H locs ls hP hS hL
  refine lv_bipush (v := Int32.ofInt x) hx hb d hv ?_
  exact k hM (zRV_i hV h zt0) H locs ls hP hS hL
theorem zq_sipush (C : zOK X l cc nL own ret f w shp F) {n x : Int} (d : decode cc pc = .ok (.sipush n, 3)) (hv : (Int16.ofInt n).toInt32 = Int32.ofInt x) (h : i32 x) (k : zG X M (pc + 3) lv (zi x :: st)) : zG X M pc lv st := by
  obtain ⟨p, l', e, R, s, m, args, below, meth, c, D, ids, ad, shp', A, F'⟩ := X
  obtain ⟨rfl, hx, hb, hml, hown, hts, hK, hD, hA, hr, hlk, hR, rfl, rfl⟩ := C
  intro hM hV H locs ls hP hS hL
  refine lv_sipush (v := Int32.ofInt x) hx hb d hv ?_
  exact k hM (zRV_i hV h zt0) H locs ls hP hS hL
theorem zq_ldcw (C : zOK X l cc nL own ret f w shp F) {index : Nat} {x : Int} {v : Int32} (hc : Cond.constant own index v ∈ lw_g) (d : decode cc pc = .ok (.ldc_w index, 3)) (hv : v = Int32.ofInt x) (h : i32 x) (k : zG X M (pc + 3) lv (zi x :: st)) : zG X M pc lv st := by
  obtain ⟨p, l', e, R, s, m, args, below, meth, c, D, ids, ad, shp', A, F'⟩ := X
  obtain ⟨rfl, hx, hb, hml, hown, hts, hK, hD, hA, hr, hlk, hR, rfl, rfl⟩ := C
  intro hM hV H locs ls hP hS hL
  refine lv_ldcw (v := v) hx hb hown (hts _ hc) d ?_
  subst hv
  exact k hM (zRV_i hV h zt0) H locs ls hP hS hL
theorem zq_iload_n (C : zOK X l cc nL own ret f w shp F) {k1 : Fin 4} {i : Nat} {x : Int} (d : decode cc pc = .ok (.iload_n k1, 1)) (hi : (k1 : Nat) = i) (hg : lv[i]? = some (some (zi x))) (k : zG X M (pc + 1) lv (zi x :: st)) : zG X M pc lv st := by
  obtain ⟨p, l', e, R, s, m, args, below, meth, c, D, ids, ad, shp', A, F'⟩ := X
  obtain ⟨rfl, hx, hb, hml, hown, hts, hK, hD, hA, hr, hlk, hR, rfl, rfl⟩ := C
  intro hM hV H locs ls hP hS hL
  refine lv_iload_n hx hb d hi (hL.2.2 i _ hg) ?_
  exact k hM (zRV_i hV (hV.1 x (List.mem_of_getElem? hg)) zt0) H locs ls hP hS hL
theorem zq_aload_n (C : zOK X l cc nL own ret f w shp F) {k1 : Fin 4} {i : Nat} {x : Nat} (d : decode cc pc = .ok (.aload_n k1, 1)) (hi : (k1 : Nat) = i) (hg : lv[i]? = some (some (zr x))) (k : zG X M (pc + 1) lv (zr x :: st)) : zG X M pc lv st := by
  obtain ⟨p, l', e, R, s, m, args, below, meth, c, D, ids, ad, shp', A, F'⟩ := X
  obtain ⟨rfl, hx, hb, hml, hown, hts, hK, hD, hA, hr, hlk, hR, rfl, rfl⟩ := C
  intro hM hV H locs ls hP hS hL
  refine lv_aload_n hx hb d hi (hL.2.2 i _ hg) ?_
  exact k hM (zRV_r hV zt0) H locs ls hP hS hL
theorem zq_istore_n (C : zOK X l cc nL own ret f w shp F) {k1 : Fin 4} {i : Nat} {x : Int} (d : decode cc pc = .ok (.istore_n k1, 1)) (hi : (k1 : Nat) = i) (hi2 : i < lv.length) (hl : lv.set i (some (zi x)) = lv') (k : zG X M (pc + 1) lv' (st)) : zG X M pc lv (zi x :: st) := by
  obtain ⟨p, l', e, R, s, m, args, below, meth, c, D, ids, ad, shp', A, F'⟩ := X
  obtain ⟨rfl, hx, hb, hml, hown, hts, hK, hD, hA, hr, hlk, hR, rfl, rfl⟩ := C
  intro hM hV H locs ls hP hS hL
  subst hl
  refine lv_istore_n hx hb d hi (zL_to hL) hi2 rfl (fun ls' hl' => ?_)
  have hL' := zL_store (v := zi x) hV.2.2 hi2 hl'
  exact k hM (zRV_set hV List.mem_cons_self zt1 (fun d h => by cases h)) H locs ls' hP hS hL'
theorem zq_astore_n (C : zOK X l cc nL own ret f w shp F) {k1 : Fin 4} {i : Nat} {x : Nat} (d : decode cc pc = .ok (.astore_n k1, 1)) (hi : (k1 : Nat) = i) (hi2 : i < lv.length) (hl : lv.set i (some (zr x)) = lv') (k : zG X M (pc + 1) lv' (st)) : zG X M pc lv (zr x :: st) := by
  obtain ⟨p, l', e, R, s, m, args, below, meth, c, D, ids, ad, shp', A, F'⟩ := X
  obtain ⟨rfl, hx, hb, hml, hown, hts, hK, hD, hA, hr, hlk, hR, rfl, rfl⟩ := C
  intro hM hV H locs ls hP hS hL
  subst hl
  refine lv_astore_n hx hb d hi (zL_to hL) hi2 rfl (fun ls' hl' => ?_)
  have hL' := zL_store (v := zr x) hV.2.2 hi2 hl'
  exact k hM (zRV_set hV List.mem_cons_self zt1 (fun d h => by cases h)) H locs ls' hP hS hL'
theorem zq_iload (C : zOK X l cc nL own ret f w shp F) {i : Nat} {x : Int} (d : decode cc pc = .ok (.iload i, 2)) (hg : lv[i]? = some (some (zi x))) (k : zG X M (pc + 2) lv (zi x :: st)) : zG X M pc lv st := by
  obtain ⟨p, l', e, R, s, m, args, below, meth, c, D, ids, ad, shp', A, F'⟩ := X
  obtain ⟨rfl, hx, hb, hml, hown, hts, hK, hD, hA, hr, hlk, hR, rfl, rfl⟩ := C
  intro hM hV H locs ls hP hS hL
  refine lv_iload hx hb d (hL.2.2 i _ hg) ?_
  exact k hM (zRV_i hV (hV.1 x (List.mem_of_getElem? hg)) zt0) H locs ls hP hS hL
theorem zq_aload (C : zOK X l cc nL own ret f w shp F) {i : Nat} {x : Nat} (d : decode cc pc = .ok (.aload i, 2)) (hg : lv[i]? = some (some (zr x))) (k : zG X M (pc + 2) lv (zr x :: st)) : zG X M pc lv st := by
  obtain ⟨p, l', e, R, s, m, args, below, meth, c, D, ids, ad, shp', A, F'⟩ := X
  obtain ⟨rfl, hx, hb, hml, hown, hts, hK, hD, hA, hr, hlk, hR, rfl, rfl⟩ := C
  intro hM hV H locs ls hP hS hL
  refine lv_aload hx hb d (hL.2.2 i _ hg) ?_
  exact k hM (zRV_r hV zt0) H locs ls hP hS hL
theorem zq_istore (C : zOK X l cc nL own ret f w shp F) {i : Nat} {x : Int} (d : decode cc pc = .ok (.istore i, 2)) (hi2 : i < lv.length) (hl : lv.set i (some (zi x)) = lv') (k : zG X M (pc + 2) lv' (st)) : zG X M pc lv (zi x :: st) := by
  obtain ⟨p, l', e, R, s, m, args, below, meth, c, D, ids, ad, shp', A, F'⟩ := X
  obtain ⟨rfl, hx, hb, hml, hown, hts, hK, hD, hA, hr, hlk, hR, rfl, rfl⟩ := C
  intro hM hV H locs ls hP hS hL
  subst hl
  refine lv_istore hx hb d (zL_to hL) hi2 rfl (fun ls' hl' => ?_)
  have hL' := zL_store (v := zi x) hV.2.2 hi2 hl'
  exact k hM (zRV_set hV List.mem_cons_self zt1 (fun d h => by cases h)) H locs ls' hP hS hL'
theorem zq_astore (C : zOK X l cc nL own ret f w shp F) {i : Nat} {x : Nat} (d : decode cc pc = .ok (.astore i, 2)) (hi2 : i < lv.length) (hl : lv.set i (some (zr x)) = lv') (k : zG X M (pc + 2) lv' (st)) : zG X M pc lv (zr x :: st) := by
  obtain ⟨p, l', e, R, s, m, args, below, meth, c, D, ids, ad, shp', A, F'⟩ := X
  obtain ⟨rfl, hx, hb, hml, hown, hts, hK, hD, hA, hr, hlk, hR, rfl, rfl⟩ := C
  intro hM hV H locs ls hP hS hL
  subst hl
  refine lv_astore hx hb d (zL_to hL) hi2 rfl (fun ls' hl' => ?_)
  have hL' := zL_store (v := zr x) hV.2.2 hi2 hl'
  exact k hM (zRV_set hV List.mem_cons_self zt1 (fun d h => by cases h)) H locs ls' hP hS hL'
theorem zq_istoreN_n (C : zOK X l cc nL own ret f w shp F) {k1 : Fin 4} {i : Nat} {x : Int} (lf : Int → List (Option zV)) (d : decode cc pc = .ok (.istore_n k1, 1)) (hi : (k1 : Nat) = i) (hi2 : i < lv.length) (hl : ∀ v, lv.set i (some (zi v)) = lf v) (k : ∀ v, v = x → zG X M (pc + 1) (lf v) st) : zG X M pc lv (zi x :: st) := zq_istore_n C d hi hi2 (hl x) (k x rfl)
theorem zq_istoreN (C : zOK X l cc nL own ret f w shp F) {i : Nat} {x : Int} (lf : Int → List (Option zV)) (d : decode cc pc = .ok (.istore i, 2)) (hi2 : i < lv.length) (hl : ∀ v, lv.set i (some (zi v)) = lf v) (k : ∀ v, v = x → zG X M (pc + 2) (lf v) st) : zG X M pc lv (zi x :: st) := zq_istore C d hi2 (hl x) (k x rfl)
theorem zq_iinc (C : zOK X l cc nL own ret f w shp F) {i : Nat} {n x y : Int} (d : decode cc pc = .ok (.iinc i n, 3)) (hg : lv[i]? = some (some (zi x))) (hy : x + n = y) (h : i32 y) (hl : lv.set i (some (zi y)) = lv') (k : zG X M (pc + 3) lv' (st)) : zG X M pc lv st := by
  obtain ⟨p, l', e, R, s, m, args, below, meth, c, D, ids, ad, shp', A, F'⟩ := X
  obtain ⟨rfl, hx, hb, hml, hown, hts, hK, hD, hA, hr, hlk, hR, rfl, rfl⟩ := C
  intro hM hV H locs ls hP hS hL
  subst hl
  subst hy
  have hi2 : i < lv.length := (List.getElem?_eq_some_iff.mp hg).1
  obtain ⟨k2, hk2⟩ := List.getElem?_of_mem (zlp_mem (ad := ad) (lv := lv) (q := (i, zcv ad (zi x))) |>.mpr ⟨zi x, hg, rfl⟩)
  refine lv_iinc (v := Int32.ofInt (x + n)) hx hb d (zL_to hL) hk2 (zi_add x n) hi2 rfl (fun ls' hl' => ?_)
  have hL' := zL_store (v := zi (x + n)) hV.2.2 hi2 hl'
  refine k hM (zRV_set (zRV_i (x := x + n) hV h (st' := st) zt0) List.mem_cons_self zt1 (fun d h => by cases h)) H locs ls' hP hS hL'
theorem zq_iadd (C : zOK X l cc nL own ret f w shp F) {x y : Int} (d : decode cc pc = .ok (.iadd, 1)) (h : i32 (x + y)) (k : zG X M (pc + 1) lv (zi (x + y) :: st)) : zG X M pc lv (zi y :: zi x :: st) := by
  obtain ⟨p, l', e, R, s, m, args, below, meth, c, D, ids, ad, shp', A, F'⟩ := X
  obtain ⟨rfl, hx, hb, hml, hown, hts, hK, hD, hA, hr, hlk, hR, rfl, rfl⟩ := C
  intro hM hV H locs ls hP hS hL
  refine lv_iadd hx hb d ?_
  rw [zi_add]
  exact k hM (zRV_i hV h zt2) H locs ls hP hS hL
theorem zq_isub (C : zOK X l cc nL own ret f w shp F) {x y : Int} (d : decode cc pc = .ok (.isub, 1)) (h : i32 (x - y)) (k : zG X M (pc + 1) lv (zi (x - y) :: st)) : zG X M pc lv (zi y :: zi x :: st) := by
  obtain ⟨p, l', e, R, s, m, args, below, meth, c, D, ids, ad, shp', A, F'⟩ := X
  obtain ⟨rfl, hx, hb, hml, hown, hts, hK, hD, hA, hr, hlk, hR, rfl, rfl⟩ := C
  intro hM hV H locs ls hP hS hL
  refine lv_isub hx hb d ?_
  rw [zi_sub]
  exact k hM (zRV_i hV h zt2) H locs ls hP hS hL
theorem zq_imul (C : zOK X l cc nL own ret f w shp F) {x y : Int} (d : decode cc pc = .ok (.imul, 1)) (h : i32 (x * y)) (k : zG X M (pc + 1) lv (zi (x * y) :: st)) : zG X M pc lv (zi y :: zi x :: st) := by
  obtain ⟨p, l', e, R, s, m, args, below, meth, c, D, ids, ad, shp', A, F'⟩ := X
  obtain ⟨rfl, hx, hb, hml, hown, hts, hK, hD, hA, hr, hlk, hR, rfl, rfl⟩ := C
  intro hM hV H locs ls hP hS hL
  refine lv_imul hx hb d ?_
  rw [zi_mul]
  exact k hM (zRV_i hV h zt2) H locs ls hP hS hL
theorem zq_ineg (C : zOK X l cc nL own ret f w shp F) {x : Int} (d : decode cc pc = .ok (.ineg, 1)) (h : i32 (-x)) (k : zG X M (pc + 1) lv (zi (-x) :: st)) : zG X M pc lv (zi x :: st) := by
  obtain ⟨p, l', e, R, s, m, args, below, meth, c, D, ids, ad, shp', A, F'⟩ := X
  obtain ⟨rfl, hx, hb, hml, hown, hts, hK, hD, hA, hr, hlk, hR, rfl, rfl⟩ := C
  intro hM hV H locs ls hP hS hL
  refine lv_ineg hx hb d ?_
  rw [zi_neg]
  exact k hM (zRV_i hV h zt1) H locs ls hP hS hL
theorem z_div {x y : Int} (hx : i32 x) (hy : i32 y) (h0 : 0 ≤ x) (h1 : 0 < y) : Int32.ofInt x / Int32.ofInt y = Int32.ofInt (x / y) := by
  obtain ⟨a, rfl⟩ := Int.eq_ofNat_of_zero_le h0
  obtain ⟨b, rfl⟩ := Int.eq_ofNat_of_zero_le (Int.le_of_lt h1)
  have e : ∀ n : Nat, Int32.ofInt (n : Int) = nI n := fun n => by unfold nI; exact Int32.ofInt_eq_ofNat
  rw [e, e, pk_div (by omega) (by omega) (by omega), ← e]
  rfl
theorem z_rem {x y : Int} (hx : i32 x) (hy : i32 y) (h0 : 0 ≤ x) (h1 : 0 < y) : Int32.ofInt x - Int32.ofInt x / Int32.ofInt y * Int32.ofInt y = Int32.ofInt (x % y) := by
  rw [z_div hx hy h0 h1, zi_mul, zi_sub]
  congr 1
  have := Int.emod_add_mul_ediv x y
  rw [Int.mul_comm] at this
  omega
theorem zq_idiv (C : zOK X l cc nL own ret f w shp F) {x y : Int} (d : decode cc pc = .ok (.idiv, 1)) (h0 : 0 ≤ x) (h1 : 0 < y) (k : zG X M (pc + 1) lv (zi (x / y) :: st)) : zG X M pc lv (zi y :: zi x :: st) := by
  obtain ⟨p, l', e, R, s, m, args, below, meth, c, D, ids, ad, shp', A, F'⟩ := X
  obtain ⟨rfl, hx, hb, hml, hown, hts, hK, hD, hA, hr, hlk, hR, rfl, rfl⟩ := C
  intro hM hV H locs ls hP hS hL
  have hx1 : i32 x := hV.2.1 x (List.mem_cons_of_mem _ List.mem_cons_self)
  have hy1 : i32 y := hV.2.1 y List.mem_cons_self
  have hne : ¬ Int32.ofInt y = 0 := by
    have := zi_eq hy1 (show i32 0 by decide)
    intro e
    have := this.mp e
    omega
  refine lv_idiv hx hb d hne ?_
  rw [z_div hx1 hy1 h0 h1]
  exact k hM (zRV_i hV ⟨by have := Int.ediv_nonneg h0 (Int.le_of_lt h1); omega, by have := Int.ediv_le_self y h0; omega⟩ zt2) H locs ls hP hS hL
theorem zq_irem (C : zOK X l cc nL own ret f w shp F) {x y : Int} (d : decode cc pc = .ok (.irem, 1)) (h0 : 0 ≤ x) (h1 : 0 < y) (k : zG X M (pc + 1) lv (zi (x % y) :: st)) : zG X M pc lv (zi y :: zi x :: st) := by
  obtain ⟨p, l', e, R, s, m, args, below, meth, c, D, ids, ad, shp', A, F'⟩ := X
  obtain ⟨rfl, hx, hb, hml, hown, hts, hK, hD, hA, hr, hlk, hR, rfl, rfl⟩ := C
  intro hM hV H locs ls hP hS hL
  have hx1 : i32 x := hV.2.1 x (List.mem_cons_of_mem _ List.mem_cons_self)
  have hy1 : i32 y := hV.2.1 y List.mem_cons_self
  have hne : ¬ Int32.ofInt y = 0 := by
    have := zi_eq hy1 (show i32 0 by decide)
    intro e
    have := this.mp e
    omega
  refine lv_irem hx hb d hne ?_
  rw [z_rem hx1 hy1 h0 h1]
  exact k hM (zRV_i hV ⟨by have := Int.emod_nonneg x (Int.ne_of_gt h1); omega, by have := Int.emod_lt_of_pos x h1; omega⟩ zt2) H locs ls hP hS hL
theorem zq_iand (C : zOK X l cc nL own ret f w shp F) {x y : Int} (d : decode cc pc = .ok (.iand, 1)) (k : zG X M (pc + 1) lv (zi (zand x y) :: st)) : zG X M pc lv (zi y :: zi x :: st) := by
  obtain ⟨p, l', e, R, s, m, args, below, meth, c, D, ids, ad, shp', A, F'⟩ := X
  obtain ⟨rfl, hx, hb, hml, hown, hts, hK, hD, hA, hr, hlk, hR, rfl, rfl⟩ := C
  intro hM hV H locs ls hP hS hL
  refine lv_iand hx hb d ?_
  have k2 := k hM (zRV_i hV (zi_rng _) zt2) H locs ls hP hS hL
  rw [List.map_cons] at k2
  unfold zand at k2
  simp only [zcv, zi_of] at k2
  exact k2
theorem zq_ior (C : zOK X l cc nL own ret f w shp F) {x y : Int} (d : decode cc pc = .ok (.ior, 1)) (k : zG X M (pc + 1) lv (zi (zor x y) :: st)) : zG X M pc lv (zi y :: zi x :: st) := by
  obtain ⟨p, l', e, R, s, m, args, below, meth, c, D, ids, ad, shp', A, F'⟩ := X
  obtain ⟨rfl, hx, hb, hml, hown, hts, hK, hD, hA, hr, hlk, hR, rfl, rfl⟩ := C
  intro hM hV H locs ls hP hS hL
  refine lv_ior hx hb d ?_
  have k2 := k hM (zRV_i hV (zi_rng _) zt2) H locs ls hP hS hL
  rw [List.map_cons] at k2
  unfold zor at k2
  simp only [zcv, zi_of] at k2
  exact k2
theorem zq_ixor (C : zOK X l cc nL own ret f w shp F) {x y : Int} (d : decode cc pc = .ok (.ixor, 1)) (k : zG X M (pc + 1) lv (zi (zxor x y) :: st)) : zG X M pc lv (zi y :: zi x :: st) := by
  obtain ⟨p, l', e, R, s, m, args, below, meth, c, D, ids, ad, shp', A, F'⟩ := X
  obtain ⟨rfl, hx, hb, hml, hown, hts, hK, hD, hA, hr, hlk, hR, rfl, rfl⟩ := C
  intro hM hV H locs ls hP hS hL
  refine lv_ixor hx hb d ?_
  have k2 := k hM (zRV_i hV (zi_rng _) zt2) H locs ls hP hS hL
  rw [List.map_cons] at k2
  unfold zxor at k2
  simp only [zcv, zi_of] at k2
  exact k2
theorem zq_ishl (C : zOK X l cc nL own ret f w shp F) {x y : Int} (d : decode cc pc = .ok (.ishl, 1)) (k : zG X M (pc + 1) lv (zi (zshl x y) :: st)) : zG X M pc lv (zi y :: zi x :: st) := by
  obtain ⟨p, l', e, R, s, m, args, below, meth, c, D, ids, ad, shp', A, F'⟩ := X
  obtain ⟨rfl, hx, hb, hml, hown, hts, hK, hD, hA, hr, hlk, hR, rfl, rfl⟩ := C
  intro hM hV H locs ls hP hS hL
  refine lv_ishl hx hb d ?_
  have k2 := k hM (zRV_i hV (zi_rng _) zt2) H locs ls hP hS hL
  rw [List.map_cons] at k2
  unfold zshl at k2
  simp only [zcv, zi_of] at k2
  exact k2
theorem zq_ishr (C : zOK X l cc nL own ret f w shp F) {x y : Int} (d : decode cc pc = .ok (.ishr, 1)) (k : zG X M (pc + 1) lv (zi (zshr x y) :: st)) : zG X M pc lv (zi y :: zi x :: st) := by
  obtain ⟨p, l', e, R, s, m, args, below, meth, c, D, ids, ad, shp', A, F'⟩ := X
  obtain ⟨rfl, hx, hb, hml, hown, hts, hK, hD, hA, hr, hlk, hR, rfl, rfl⟩ := C
  intro hM hV H locs ls hP hS hL
  refine lv_ishr hx hb d ?_
  have k2 := k hM (zRV_i hV (zi_rng _) zt2) H locs ls hP hS hL
  rw [List.map_cons] at k2
  unfold zshr at k2
  simp only [zcv, zi_of] at k2
  exact k2
theorem z_char {x : Int} (hx : i32 x) : ((Int32.ofInt x).toUInt32 % 65536).toInt32 = Int32.ofInt (x % 65536) := by
  rw [pk_char]
  unfold nI
  rw [← Int32.ofInt_eq_ofNat]
  congr 1
  have h1 : (Int32.ofInt x).toBitVec.toNat = (x % 4294967296).toNat := by
    rw [Int32.toBitVec_ofInt, BitVec.toNat_ofInt]
    rfl
  rw [h1]
  omega
theorem zq_i2c (C : zOK X l cc nL own ret f w shp F) {x : Int} (d : decode cc pc = .ok (.i2c, 1)) (k : zG X M (pc + 1) lv (zi (x % 65536) :: st)) : zG X M pc lv (zi x :: st) := by
  obtain ⟨p, l', e, R, s, m, args, below, meth, c, D, ids, ad, shp', A, F'⟩ := X
  obtain ⟨rfl, hx, hb, hml, hown, hts, hK, hD, hA, hr, hlk, hR, rfl, rfl⟩ := C
  intro hM hV H locs ls hP hS hL
  have hx1 : i32 x := hV.2.1 x List.mem_cons_self
  refine lv_i2c (v := Int32.ofInt (x % 65536)) hx hb d (z_char hx1) ?_
  exact k hM (zRV_i hV ⟨by omega, by omega⟩ zt1) H locs ls hP hS hL
theorem zq_dup (C : zOK X l cc nL own ret f w shp F) {v : zV} (d : decode cc pc = .ok (.dup, 1)) (hv : zNd [v] = true) (k : zG X M (pc + 1) lv (v :: v :: st)) : zG X M pc lv (v :: st) := by
  obtain ⟨p, l', e, R, s, m, args, below, meth, c, D, ids, ad, shp', A, F'⟩ := X
  obtain ⟨rfl, hx, hb, hml, hown, hts, hK, hD, hA, hr, hlk, hR, rfl, rfl⟩ := C
  intro hM hV H locs ls hP hS hL
  refine lv_dup hx hb d (z_cat ad (zNd1 hv)) ?_
  exact k hM (zRV_sub hV (fun x hx => (List.mem_cons.mp hx).elim (fun e => e ▸ List.mem_cons_self) (fun e => e))) H locs ls hP hS hL
theorem zq_pop (C : zOK X l cc nL own ret f w shp F) {v : zV} (d : decode cc pc = .ok (.pop, 1)) (hv : zNd [v] = true) (k : zG X M (pc + 1) lv (st)) : zG X M pc lv (v :: st) := by
  obtain ⟨p, l', e, R, s, m, args, below, meth, c, D, ids, ad, shp', A, F'⟩ := X
  obtain ⟨rfl, hx, hb, hml, hown, hts, hK, hD, hA, hr, hlk, hR, rfl, rfl⟩ := C
  intro hM hV H locs ls hP hS hL
  refine lv_pop hx hb d (z_cat ad (zNd1 hv)) ?_
  exact k hM (zRV_sub hV zt1) H locs ls hP hS hL
theorem zq_dup_x1 (C : zOK X l cc nL own ret f w shp F) {v u : zV} (d : decode cc pc = .ok (.dup_x1, 1)) (hv : zNd [v] = true) (hu : zNd [u] = true) (k : zG X M (pc + 1) lv (v :: u :: v :: st)) : zG X M pc lv (v :: u :: st) := by
  obtain ⟨p, l', e, R, s, m, args, below, meth, c, D, ids, ad, shp', A, F'⟩ := X
  obtain ⟨rfl, hx, hb, hml, hown, hts, hK, hD, hA, hr, hlk, hR, rfl, rfl⟩ := C
  intro hM hV H locs ls hP hS hL
  refine lv_dup_x1 hx hb d (z_cat ad (zNd1 hv)) (z_cat ad (zNd1 hu)) ?_
  exact k hM (zRV_sub hV (fun x hx => by simp only [List.mem_cons] at hx ⊢; rcases hx with h | h | h | h <;> simp [h])) H locs ls hP hS hL
theorem zq_dup2 (C : zOK X l cc nL own ret f w shp F) {v u : zV} (d : decode cc pc = .ok (.dup2, 1)) (hv : zNd [v] = true) (hu : zNd [u] = true) (k : zG X M (pc + 1) lv (v :: u :: v :: u :: st)) : zG X M pc lv (v :: u :: st) := by
  obtain ⟨p, l', e, R, s, m, args, below, meth, c, D, ids, ad, shp', A, F'⟩ := X
  obtain ⟨rfl, hx, hb, hml, hown, hts, hK, hD, hA, hr, hlk, hR, rfl, rfl⟩ := C
  intro hM hV H locs ls hP hS hL
  refine lv_dup2_11 hx hb d (z_cat ad (zNd1 hv)) (z_cat ad (zNd1 hu)) ?_
  exact k hM (zRV_sub hV (fun x hx => by simp only [List.mem_cons] at hx ⊢; rcases hx with h | h | h | h | h <;> simp [h])) H locs ls hP hS hL
theorem zq_if_eq (C : zOK X l cc nL own ret f w shp F) {x : Int} {off : Int} {tgt : Nat} (d : decode cc pc = .ok (.ifCond .eq off, 3)) (ht : (pc : Int) + off = (tgt : Int)) (kt : x = 0 → zG X M tgt lv st) (kf : ¬ (x = 0) → zG X M (pc + 3) lv st) : zG X M pc lv (zi x :: st) := by
  obtain ⟨p, l', e, R, s, m, args, below, meth, c, D, ids, ad, shp', A, F'⟩ := X
  obtain ⟨rfl, hx, hb, hml, hown, hts, hK, hD, hA, hr, hlk, hR, rfl, rfl⟩ := C
  intro hM hV H locs ls hP hS hL
  have h1 : i32 x := hV.2.1 x List.mem_cons_self
  have h2 : i32 0 := by decide
  have e := zi_eq h1 h2
  refine lv_if_eq hx hb d ht (fun q => ?_) (fun q => ?_)
  · exact kt (e.mp q) hM (zRV_sub hV zt1) H locs ls hP hS hL
  · exact kf (fun z => q (e.mpr z)) hM (zRV_sub hV zt1) H locs ls hP hS hL
theorem zq_icmp_eq (C : zOK X l cc nL own ret f w shp F) {x y : Int} {off : Int} {tgt : Nat} (d : decode cc pc = .ok (.if_icmp .eq off, 3)) (ht : (pc : Int) + off = (tgt : Int)) (kt : x = y → zG X M tgt lv st) (kf : ¬ (x = y) → zG X M (pc + 3) lv st) : zG X M pc lv (zi y :: zi x :: st) := by
  obtain ⟨p, l', e, R, s, m, args, below, meth, c, D, ids, ad, shp', A, F'⟩ := X
  obtain ⟨rfl, hx, hb, hml, hown, hts, hK, hD, hA, hr, hlk, hR, rfl, rfl⟩ := C
  intro hM hV H locs ls hP hS hL
  have h1 : i32 x := hV.2.1 x (List.mem_cons_of_mem _ List.mem_cons_self)
  have h2 : i32 y := hV.2.1 y List.mem_cons_self
  have e := zi_eq h1 h2
  refine lv_icmp_eq hx hb d ht (fun q => ?_) (fun q => ?_)
  · exact kt (e.mp q) hM (zRV_sub hV zt2) H locs ls hP hS hL
  · exact kf (fun z => q (e.mpr z)) hM (zRV_sub hV zt2) H locs ls hP hS hL
theorem zq_if_ne (C : zOK X l cc nL own ret f w shp F) {x : Int} {off : Int} {tgt : Nat} (d : decode cc pc = .ok (.ifCond .ne off, 3)) (ht : (pc : Int) + off = (tgt : Int)) (kt : ¬ x = 0 → zG X M tgt lv st) (kf : x = 0 → zG X M (pc + 3) lv st) : zG X M pc lv (zi x :: st) := by
  obtain ⟨p, l', e, R, s, m, args, below, meth, c, D, ids, ad, shp', A, F'⟩ := X
  obtain ⟨rfl, hx, hb, hml, hown, hts, hK, hD, hA, hr, hlk, hR, rfl, rfl⟩ := C
  intro hM hV H locs ls hP hS hL
  have h1 : i32 x := hV.2.1 x List.mem_cons_self
  have h2 : i32 0 := by decide
  have e := not_congr (zi_eq h1 h2)
  refine lv_if_ne hx hb d ht (fun q => ?_) (fun q => ?_)
  · exact kt (e.mp q) hM (zRV_sub hV zt1) H locs ls hP hS hL
  · exact kf (zi_eq h1 h2 |>.mp q) hM (zRV_sub hV zt1) H locs ls hP hS hL
theorem zq_icmp_ne (C : zOK X l cc nL own ret f w shp F) {x y : Int} {off : Int} {tgt : Nat} (d : decode cc pc = .ok (.if_icmp .ne off, 3)) (ht : (pc : Int) + off = (tgt : Int)) (kt : ¬ x = y → zG X M tgt lv st) (kf : x = y → zG X M (pc + 3) lv st) : zG X M pc lv (zi y :: zi x :: st) := by
  obtain ⟨p, l', e, R, s, m, args, below, meth, c, D, ids, ad, shp', A, F'⟩ := X
  obtain ⟨rfl, hx, hb, hml, hown, hts, hK, hD, hA, hr, hlk, hR, rfl, rfl⟩ := C
  intro hM hV H locs ls hP hS hL
  have h1 : i32 x := hV.2.1 x (List.mem_cons_of_mem _ List.mem_cons_self)
  have h2 : i32 y := hV.2.1 y List.mem_cons_self
  have e := not_congr (zi_eq h1 h2)
  refine lv_icmp_ne hx hb d ht (fun q => ?_) (fun q => ?_)
  · exact kt (e.mp q) hM (zRV_sub hV zt2) H locs ls hP hS hL
  · exact kf (zi_eq h1 h2 |>.mp q) hM (zRV_sub hV zt2) H locs ls hP hS hL
theorem zq_if_lt (C : zOK X l cc nL own ret f w shp F) {x : Int} {off : Int} {tgt : Nat} (d : decode cc pc = .ok (.ifCond .lt off, 3)) (ht : (pc : Int) + off = (tgt : Int)) (kt : x < 0 → zG X M tgt lv st) (kf : ¬ (x < 0) → zG X M (pc + 3) lv st) : zG X M pc lv (zi x :: st) := by
  obtain ⟨p, l', e, R, s, m, args, below, meth, c, D, ids, ad, shp', A, F'⟩ := X
  obtain ⟨rfl, hx, hb, hml, hown, hts, hK, hD, hA, hr, hlk, hR, rfl, rfl⟩ := C
  intro hM hV H locs ls hP hS hL
  have h1 : i32 x := hV.2.1 x List.mem_cons_self
  have h2 : i32 0 := by decide
  have e := zi_lt h1 h2
  refine lv_if_lt hx hb d ht (fun q => ?_) (fun q => ?_)
  · exact kt (e.mp q) hM (zRV_sub hV zt1) H locs ls hP hS hL
  · exact kf (fun z => q (e.mpr z)) hM (zRV_sub hV zt1) H locs ls hP hS hL
theorem zq_icmp_lt (C : zOK X l cc nL own ret f w shp F) {x y : Int} {off : Int} {tgt : Nat} (d : decode cc pc = .ok (.if_icmp .lt off, 3)) (ht : (pc : Int) + off = (tgt : Int)) (kt : x < y → zG X M tgt lv st) (kf : ¬ (x < y) → zG X M (pc + 3) lv st) : zG X M pc lv (zi y :: zi x :: st) := by
  obtain ⟨p, l', e, R, s, m, args, below, meth, c, D, ids, ad, shp', A, F'⟩ := X
  obtain ⟨rfl, hx, hb, hml, hown, hts, hK, hD, hA, hr, hlk, hR, rfl, rfl⟩ := C
  intro hM hV H locs ls hP hS hL
  have h1 : i32 x := hV.2.1 x (List.mem_cons_of_mem _ List.mem_cons_self)
  have h2 : i32 y := hV.2.1 y List.mem_cons_self
  have e := zi_lt h1 h2
  refine lv_icmp_lt hx hb d ht (fun q => ?_) (fun q => ?_)
  · exact kt (e.mp q) hM (zRV_sub hV zt2) H locs ls hP hS hL
  · exact kf (fun z => q (e.mpr z)) hM (zRV_sub hV zt2) H locs ls hP hS hL
theorem zq_if_ge (C : zOK X l cc nL own ret f w shp F) {x : Int} {off : Int} {tgt : Nat} (d : decode cc pc = .ok (.ifCond .ge off, 3)) (ht : (pc : Int) + off = (tgt : Int)) (kt : 0 ≤ x → zG X M tgt lv st) (kf : ¬ (0 ≤ x) → zG X M (pc + 3) lv st) : zG X M pc lv (zi x :: st) := by
  obtain ⟨p, l', e, R, s, m, args, below, meth, c, D, ids, ad, shp', A, F'⟩ := X
  obtain ⟨rfl, hx, hb, hml, hown, hts, hK, hD, hA, hr, hlk, hR, rfl, rfl⟩ := C
  intro hM hV H locs ls hP hS hL
  have h1 : i32 x := hV.2.1 x List.mem_cons_self
  have h2 : i32 0 := by decide
  have e := zi_le h2 h1
  refine lv_if_ge hx hb d ht (fun q => ?_) (fun q => ?_)
  · exact kt (e.mp q) hM (zRV_sub hV zt1) H locs ls hP hS hL
  · exact kf (fun z => q (e.mpr z)) hM (zRV_sub hV zt1) H locs ls hP hS hL
theorem zq_icmp_ge (C : zOK X l cc nL own ret f w shp F) {x y : Int} {off : Int} {tgt : Nat} (d : decode cc pc = .ok (.if_icmp .ge off, 3)) (ht : (pc : Int) + off = (tgt : Int)) (kt : y ≤ x → zG X M tgt lv st) (kf : ¬ (y ≤ x) → zG X M (pc + 3) lv st) : zG X M pc lv (zi y :: zi x :: st) := by
  obtain ⟨p, l', e, R, s, m, args, below, meth, c, D, ids, ad, shp', A, F'⟩ := X
  obtain ⟨rfl, hx, hb, hml, hown, hts, hK, hD, hA, hr, hlk, hR, rfl, rfl⟩ := C
  intro hM hV H locs ls hP hS hL
  have h1 : i32 x := hV.2.1 x (List.mem_cons_of_mem _ List.mem_cons_self)
  have h2 : i32 y := hV.2.1 y List.mem_cons_self
  have e := zi_le h2 h1
  refine lv_icmp_ge hx hb d ht (fun q => ?_) (fun q => ?_)
  · exact kt (e.mp q) hM (zRV_sub hV zt2) H locs ls hP hS hL
  · exact kf (fun z => q (e.mpr z)) hM (zRV_sub hV zt2) H locs ls hP hS hL
theorem zq_if_gt (C : zOK X l cc nL own ret f w shp F) {x : Int} {off : Int} {tgt : Nat} (d : decode cc pc = .ok (.ifCond .gt off, 3)) (ht : (pc : Int) + off = (tgt : Int)) (kt : 0 < x → zG X M tgt lv st) (kf : ¬ (0 < x) → zG X M (pc + 3) lv st) : zG X M pc lv (zi x :: st) := by
  obtain ⟨p, l', e, R, s, m, args, below, meth, c, D, ids, ad, shp', A, F'⟩ := X
  obtain ⟨rfl, hx, hb, hml, hown, hts, hK, hD, hA, hr, hlk, hR, rfl, rfl⟩ := C
  intro hM hV H locs ls hP hS hL
  have h1 : i32 x := hV.2.1 x List.mem_cons_self
  have h2 : i32 0 := by decide
  have e := zi_lt h2 h1
  refine lv_if_gt hx hb d ht (fun q => ?_) (fun q => ?_)
  · exact kt (e.mp q) hM (zRV_sub hV zt1) H locs ls hP hS hL
  · exact kf (fun z => q (e.mpr z)) hM (zRV_sub hV zt1) H locs ls hP hS hL
theorem zq_icmp_gt (C : zOK X l cc nL own ret f w shp F) {x y : Int} {off : Int} {tgt : Nat} (d : decode cc pc = .ok (.if_icmp .gt off, 3)) (ht : (pc : Int) + off = (tgt : Int)) (kt : y < x → zG X M tgt lv st) (kf : ¬ (y < x) → zG X M (pc + 3) lv st) : zG X M pc lv (zi y :: zi x :: st) := by
  obtain ⟨p, l', e, R, s, m, args, below, meth, c, D, ids, ad, shp', A, F'⟩ := X
  obtain ⟨rfl, hx, hb, hml, hown, hts, hK, hD, hA, hr, hlk, hR, rfl, rfl⟩ := C
  intro hM hV H locs ls hP hS hL
  have h1 : i32 x := hV.2.1 x (List.mem_cons_of_mem _ List.mem_cons_self)
  have h2 : i32 y := hV.2.1 y List.mem_cons_self
  have e := zi_lt h2 h1
  refine lv_icmp_gt hx hb d ht (fun q => ?_) (fun q => ?_)
  · exact kt (e.mp q) hM (zRV_sub hV zt2) H locs ls hP hS hL
  · exact kf (fun z => q (e.mpr z)) hM (zRV_sub hV zt2) H locs ls hP hS hL
theorem zq_if_le (C : zOK X l cc nL own ret f w shp F) {x : Int} {off : Int} {tgt : Nat} (d : decode cc pc = .ok (.ifCond .le off, 3)) (ht : (pc : Int) + off = (tgt : Int)) (kt : x ≤ 0 → zG X M tgt lv st) (kf : ¬ (x ≤ 0) → zG X M (pc + 3) lv st) : zG X M pc lv (zi x :: st) := by
  obtain ⟨p, l', e, R, s, m, args, below, meth, c, D, ids, ad, shp', A, F'⟩ := X
  obtain ⟨rfl, hx, hb, hml, hown, hts, hK, hD, hA, hr, hlk, hR, rfl, rfl⟩ := C
  intro hM hV H locs ls hP hS hL
  have h1 : i32 x := hV.2.1 x List.mem_cons_self
  have h2 : i32 0 := by decide
  have e := zi_le h1 h2
  refine lv_if_le hx hb d ht (fun q => ?_) (fun q => ?_)
  · exact kt (e.mp q) hM (zRV_sub hV zt1) H locs ls hP hS hL
  · exact kf (fun z => q (e.mpr z)) hM (zRV_sub hV zt1) H locs ls hP hS hL
theorem zq_icmp_le (C : zOK X l cc nL own ret f w shp F) {x y : Int} {off : Int} {tgt : Nat} (d : decode cc pc = .ok (.if_icmp .le off, 3)) (ht : (pc : Int) + off = (tgt : Int)) (kt : x ≤ y → zG X M tgt lv st) (kf : ¬ (x ≤ y) → zG X M (pc + 3) lv st) : zG X M pc lv (zi y :: zi x :: st) := by
  obtain ⟨p, l', e, R, s, m, args, below, meth, c, D, ids, ad, shp', A, F'⟩ := X
  obtain ⟨rfl, hx, hb, hml, hown, hts, hK, hD, hA, hr, hlk, hR, rfl, rfl⟩ := C
  intro hM hV H locs ls hP hS hL
  have h1 : i32 x := hV.2.1 x (List.mem_cons_of_mem _ List.mem_cons_self)
  have h2 : i32 y := hV.2.1 y List.mem_cons_self
  have e := zi_le h1 h2
  refine lv_icmp_le hx hb d ht (fun q => ?_) (fun q => ?_)
  · exact kt (e.mp q) hM (zRV_sub hV zt2) H locs ls hP hS hL
  · exact kf (fun z => q (e.mpr z)) hM (zRV_sub hV zt2) H locs ls hP hS hL
theorem zq_goto (C : zOK X l cc nL own ret f w shp F) {off : Int} {tgt : Nat} (d : decode cc pc = .ok (.goto off, 3)) (ht : (pc : Int) + off = (tgt : Int)) (k : zG X M tgt lv st) : zG X M pc lv st := by
  obtain ⟨p, l', e, R, s, m, args, below, meth, c, D, ids, ad, shp', A, F'⟩ := X
  obtain ⟨rfl, hx, hb, hml, hown, hts, hK, hD, hA, hr, hlk, hR, rfl, rfl⟩ := C
  intro hM hV H locs ls hP hS hL
  refine lv_goto hx hb d ht ?_
  exact k hM hV H locs ls hP hS hL
end ZQ
end
section
/-! memory, returns, calls over zG -/
def zFok (own : String) (idx ci k : Nat) (ty : FieldType) (fin : Bool) : Prop := ∃ (C : String) (T : u_T) (N : Nat) (ty0 : Nat → FieldType), vwCl[ci]? = some (C, T, N) ∧ k < N ∧ (∀ q ∈ u_ws C T N, q ∈ lw_g) ∧ Cond.fieldLink own idx (T k).1 (T k).2.1 (T k).2.2.1 ∈ lw_g ∧ (∀ k, k < N → parseFieldDescriptor (T k).2.2.1 = some (ty0 k)) ∧ (∀ a, a < N → ∀ b, b < N → a ≠ b → (T a).2.1 ≠ (T b).2.1) ∧ parseFieldDescriptor (T k).2.2.1 = some ty ∧ (T k).2.2.2 = fin
theorem zfs_get {ad : Nat → Nat} {f : Int → Int} {l : List (Option Nat)} {k : Nat} {o : Option Nat} (h : l[k]? = some o) : (zfs ad f l)[k]? = some (zf1 ad f k o) := by
  unfold zfs
  rw [List.getElem?_mapIdx, h]
  rfl
theorem zfs_set {ad : Nat → Nat} {M : zM} {i : Nat} {l : List (Option Nat)} {k : Nat} {x : Int} (h : l[k]? = some none) : (zfs ad (M i) l).set k (.int (Int32.ofInt x)) = zfs ad (zup M i k x i) l := by
  apply List.ext_getElem?
  intro j
  rw [List.getElem?_set]
  unfold zfs
  rw [List.getElem?_mapIdx, List.getElem?_mapIdx]
  by_cases hj : k = j
  · subst hj
    have hl : k < l.length := (List.getElem?_eq_some_iff.mp h).1
    rw [if_pos rfl, List.length_mapIdx, if_pos hl, h]
    simp [zf1, zup]
  · rw [if_neg hj]
    cases hl : l[j]? with
    | none => rfl
    | some o =>
      cases o with
      | none =>
        simp only [Option.map_some, zf1, zup]
        rw [if_neg (by omega)]
      | some q => rfl
theorem z_upd {M : zM} {i : Nat} {z x : Int} (h0 : 0 ≤ z) : upd (fun j : Nat => Int32.ofInt (M i j)) z.toNat (Int32.ofInt x) = fun j : Nat => Int32.ofInt (zup M i z x i j) := by
  funext j
  unfold upd zup
  by_cases hj : j = z.toNat
  · rw [if_pos hj, if_pos ⟨rfl, by omega⟩]
  · rw [if_neg hj, if_neg (by omega)]
theorem z_narC {x : Int} (h0 : 0 ≤ x) (h1 : x < 65536) : vp_nar .char (Int32.ofInt x) = Int32.ofInt x := by
  obtain ⟨a, rfl⟩ := Int.eq_ofNat_of_zero_le h0
  have e : Int32.ofInt (a : Int) = nI a := by unfold nI; exact Int32.ofInt_eq_ofNat
  rw [e]
  unfold vp_nar
  rw [(pk_charN (q := a) (by omega)).1]
theorem z_narZ {x : Int} (h : x = 0 ∨ x = 1) : narrow .boolean (.int (Int32.ofInt x)) = .int (Int32.ofInt x) := by
  rcases h with rfl | rfl <;> decide
theorem z_narZ2 {x : Int} (h : x = 0 ∨ x = 1) : vp_nar .boolean (Int32.ofInt x) = Int32.ofInt x := by
  unfold vp_nar
  rw [z_narZ h]
theorem z_fitZ {x : Int} (h : x = 0 ∨ x = 1) : fits .boolean (.int (Int32.ofInt x)) = true := by
  rcases h with rfl | rfl <;> decide
section ZQ
variable {X : zX} {l : Launch} {cc : ByteArray} {nL : Nat} {own : String} {ret : Option FieldType} {f w : Nat} {shp : zS} {F : zV → zM → Prop} {M : zM} {pc : Nat} {lv lv' : List (Option zV)} {st : List zV}
theorem zq_get (C : zOK X l cc nL own ret f w shp F) {i idx ci k : Nat} {kz : Int} {ty : FieldType} {fin : Bool} {fl : List (Option Nat)} (hF : zFok own idx ci k ty fin) (hs : shp[i]? = some (0, ci, fl)) (hk : fl[k]? = some none) (d : decode cc pc = .ok (.getfield idx, 3)) (hz : (k : Int) = kz) (kk : zG X M (pc + 3) lv (zi (M i kz) :: st)) : zG X M pc lv (zr i :: st) := by
  obtain ⟨p, l', e, R, s, m, args, below, meth, c, D, ids, ad, shp', A, F'⟩ := X
  obtain ⟨rfl, hx, hb, hml, hown, hts, hK, hD, hA, hr, hlk, hR, rfl, rfl⟩ := C
  intro hM hV H locs ls hP hS hL
  obtain ⟨CC, T, N, ty0, h1, h2, h3, h4, h5, h6, h7, h8⟩ := hF
  subst hz
  exact va_get (ref := (T k).1) hx hb hts h3 hown hK hP i (zW_get hs) h1 k h2 (hts _ h4) (fun _ q => q) (zfs_get hk) d (kk hM (zRV_i hV (hM _ _) zt1) H locs ls hP hS hL)
theorem zq_getr (C : zOK X l cc nL own ret f w shp F) {i idx ci k j : Nat} {ty : FieldType} {fin : Bool} {fl : List (Option Nat)} (hF : zFok own idx ci k ty fin) (hs : shp[i]? = some (0, ci, fl)) (hk : fl[k]? = some (some j)) (d : decode cc pc = .ok (.getfield idx, 3)) (kk : zG X M (pc + 3) lv (zr j :: st)) : zG X M pc lv (zr i :: st) := by
  obtain ⟨p, l', e, R, s, m, args, below, meth, c, D, ids, ad, shp', A, F'⟩ := X
  obtain ⟨rfl, hx, hb, hml, hown, hts, hK, hD, hA, hr, hlk, hR, rfl, rfl⟩ := C
  intro hM hV H locs ls hP hS hL
  obtain ⟨CC, T, N, ty0, h1, h2, h3, h4, h5, h6, h7, h8⟩ := hF
  exact va_get (ref := (T k).1) hx hb hts h3 hown hK hP i (zW_get hs) h1 k h2 (hts _ h4) (fun _ q => q) (zfs_get hk) d (kk hM (zRV_r hV zt1) H locs ls hP hS hL)
theorem zq_put' (C : zOK X l cc nL own ret f w shp F) {i idx ci k : Nat} {kz x : Int} {ty : FieldType} {fl : List (Option Nat)} (hF : zFok own idx ci k ty false) (hn : narrow ty (.int (Int32.ofInt x)) = .int (Int32.ofInt x)) (hf : fits ty (.int (Int32.ofInt x)) = true) (hs : shp[i]? = some (0, ci, fl)) (hk : fl[k]? = some none) (d : decode cc pc = .ok (.putfield idx, 3)) (hz : (k : Int) = kz) (kk : ∀ M1 : zM, M1 = zup M i kz x → zG X M1 (pc + 3) lv st) : zG X M pc lv (zi x :: zr i :: st) := by
  obtain ⟨p, l', e, R, s, m, args, below, meth, c, D, ids, ad, shp', A, F'⟩ := X
  obtain ⟨rfl, hx, hb, hml, hown, hts, hK, hD, hA, hr, hlk, hR, rfl, rfl⟩ := C
  intro hM hV H locs ls hP hS hL
  obtain ⟨CC, T, N, ty0, h1, h2, h3, h4, h5, h6, h7, h8⟩ := hF
  subst hz
  have hlen : k < (zfs ad (M i) fl).length := by
    unfold zfs
    rw [List.length_mapIdx]
    exact (List.getElem?_eq_some_iff.mp hk).1
  refine va_put (ref := (T k).1) hx hb hts h3 ty0 h5 h6 hown hK hP (hD M) hS i (zW_get hs) h1 k h2 (hts _ h4) (fun _ q => q) h8 h7 hn hf hlen d (fun H1 locs1 hP1 hD1 hS1 => ?_)
  have eq : (zW ids ad M shp').set i (ad i, Sum.inr (ci, (zfs ad (M i) fl).set k (zcv ad (zi x)))) = zW ids ad (zup M i k x) shp' := zW_set hs (congrArg (fun q => Sum.inr (ci, q)) (zfs_set hk)) (fun j hj => zup_other hj)
  rw [eq] at hP1
  exact kk _ rfl (zup_rm hM (hV.2.1 x List.mem_cons_self)) (zRV_sub hV zt2) H1 locs1 ls hP1 hS1 hL
theorem zq_put (C : zOK X l cc nL own ret f w shp F) {i idx ci k : Nat} {kz x : Int} {fl : List (Option Nat)} (hF : zFok own idx ci k .int false) (hs : shp[i]? = some (0, ci, fl)) (hk : fl[k]? = some none) (d : decode cc pc = .ok (.putfield idx, 3)) (hz : (k : Int) = kz) (kk : ∀ M1 : zM, M1 = zup M i kz x → zG X M1 (pc + 3) lv st) : zG X M pc lv (zi x :: zr i :: st) := zq_put' C hF rfl rfl hs hk d hz kk
theorem zq_putz (C : zOK X l cc nL own ret f w shp F) {i idx ci k : Nat} {kz x : Int} {fl : List (Option Nat)} (hF : zFok own idx ci k .boolean false) (hb : x = 0 ∨ x = 1) (hs : shp[i]? = some (0, ci, fl)) (hk : fl[k]? = some none) (d : decode cc pc = .ok (.putfield idx, 3)) (hz : (k : Int) = kz) (kk : ∀ M1 : zM, M1 = zup M i kz x → zG X M1 (pc + 3) lv st) : zG X M pc lv (zi x :: zr i :: st) := zq_put' C hF (z_narZ hb) (z_fitZ hb) hs hk d hz kk
theorem zq_iald (C : zOK X l cc nL own ret f w shp F) {i n : Nat} {z : Int} {x0 : List (Option Nat)} (hs : shp[i]? = some (1, n, x0)) (h0 : 0 ≤ z) (h1 : z < n) (d : decode cc pc = .ok (.iaload, 1)) (kk : zG X M (pc + 1) lv (zi (M i z) :: st)) : zG X M pc lv (zi z :: zr i :: st) := by
  obtain ⟨p, l', e, R, s, m, args, below, meth, c, D, ids, ad, shp', A, F'⟩ := X
  obtain ⟨rfl, hx, hb, hml, hown, hts, hK, hD, hA, hr, hlk, hR, rfl, rfl⟩ := C
  intro hM hV H locs ls hP hS hL
  have hz : i32 z := hV.2.1 z List.mem_cons_self
  refine va_iald (f := fun j => Int32.ofInt (M i j)) hx hb hK hP i (1 - 1) (zW_get hs) rfl (zi_in hz h0 h1) d ?_
  rw [zi_nat hz h0, show ((z.toNat : Nat) : Int) = z by omega]
  exact kk hM (zRV_i hV (hM _ _) zt2) H locs ls hP hS hL
theorem zq_cald (C : zOK X l cc nL own ret f w shp F) {i n : Nat} {z : Int} {x0 : List (Option Nat)} (hs : shp[i]? = some (2, n, x0)) (h0 : 0 ≤ z) (h1 : z < n) (d : decode cc pc = .ok (.caload, 1)) (kk : zG X M (pc + 1) lv (zi (M i z) :: st)) : zG X M pc lv (zi z :: zr i :: st) := by
  obtain ⟨p, l', e, R, s, m, args, below, meth, c, D, ids, ad, shp', A, F'⟩ := X
  obtain ⟨rfl, hx, hb, hml, hown, hts, hK, hD, hA, hr, hlk, hR, rfl, rfl⟩ := C
  intro hM hV H locs ls hP hS hL
  have hz : i32 z := hV.2.1 z List.mem_cons_self
  refine va_cald (f := fun j => Int32.ofInt (M i j)) hx hb hK hP i (2 - 1) (zW_get hs) rfl (zi_in hz h0 h1) d ?_
  rw [zi_nat hz h0, show ((z.toNat : Nat) : Int) = z by omega]
  exact kk hM (zRV_i hV (hM _ _) zt2) H locs ls hP hS hL
theorem zq_zald (C : zOK X l cc nL own ret f w shp F) {i n : Nat} {z : Int} {x0 : List (Option Nat)} (hs : shp[i]? = some (3, n, x0)) (h0 : 0 ≤ z) (h1 : z < n) (d : decode cc pc = .ok (.baload, 1)) (kk : zG X M (pc + 1) lv (zi (M i z) :: st)) : zG X M pc lv (zi z :: zr i :: st) := by
  obtain ⟨p, l', e, R, s, m, args, below, meth, c, D, ids, ad, shp', A, F'⟩ := X
  obtain ⟨rfl, hx, hb, hml, hown, hts, hK, hD, hA, hr, hlk, hR, rfl, rfl⟩ := C
  intro hM hV H locs ls hP hS hL
  have hz : i32 z := hV.2.1 z List.mem_cons_self
  refine va_zald (f := fun j => Int32.ofInt (M i j)) hx hb hK hP i (3 - 1) (zW_get hs) rfl (zi_in hz h0 h1) d ?_
  rw [zi_nat hz h0, show ((z.toNat : Nat) : Int) = z by omega]
  exact kk hM (zRV_i hV (hM _ _) zt2) H locs ls hP hS hL
theorem zq_iast (C : zOK X l cc nL own ret f w shp F) {i n : Nat} {z x : Int} {x0 : List (Option Nat)} (hs : shp[i]? = some (1, n, x0)) (h0 : 0 ≤ z) (h1 : z < n)  (d : decode cc pc = .ok (.iastore, 1)) (kk : ∀ M1 : zM, M1 = zup M i z x → zG X M1 (pc + 1) lv st) : zG X M pc lv (zi x :: zi z :: zr i :: st) := by
  obtain ⟨p, l', e, R, s, m, args, below, meth, c, D, ids, ad, shp', A, F'⟩ := X
  obtain ⟨rfl, hx, hb, hml, hown, hts, hK, hD, hA, hr, hlk, hR, rfl, rfl⟩ := C
  intro hM hV H locs ls hP hS hL
  have hz : i32 z := hV.2.1 z (List.mem_cons_of_mem _ List.mem_cons_self)
  refine va_iast (f := fun j => Int32.ofInt (M i j)) hx hb hK hP (hD M) hS i (1 - 1) (zW_get hs) rfl (zi_in hz h0 h1) d (fun H1 locs1 hP1 hD1 hS1 => ?_)
  
  rw [zi_nat hz h0, z_upd h0] at hP1
  have eq : (zW ids ad M shp').set i (ad i, Sum.inl (ids 1, n, Sum.inl fun j : Nat => Int32.ofInt (zup M i z x i j))) = zW ids ad (zup M i z x) shp' := zW_set hs rfl (fun j hj => zup_other hj)
  rw [eq] at hP1
  exact kk _ rfl (zup_rm hM (hV.2.1 x List.mem_cons_self)) (zRV_sub hV zt3) H1 locs1 ls hP1 hS1 hL
theorem zq_cast (C : zOK X l cc nL own ret f w shp F) {i n : Nat} {z x : Int} {x0 : List (Option Nat)} (hs : shp[i]? = some (2, n, x0)) (h0 : 0 ≤ z) (h1 : z < n) (hc0 : 0 ≤ x) (hc1 : x < 65536) (d : decode cc pc = .ok (.castore, 1)) (kk : ∀ M1 : zM, M1 = zup M i z x → zG X M1 (pc + 1) lv st) : zG X M pc lv (zi x :: zi z :: zr i :: st) := by
  obtain ⟨p, l', e, R, s, m, args, below, meth, c, D, ids, ad, shp', A, F'⟩ := X
  obtain ⟨rfl, hx, hb, hml, hown, hts, hK, hD, hA, hr, hlk, hR, rfl, rfl⟩ := C
  intro hM hV H locs ls hP hS hL
  have hz : i32 z := hV.2.1 z (List.mem_cons_of_mem _ List.mem_cons_self)
  refine va_cast (f := fun j => Int32.ofInt (M i j)) hx hb hK hP (hD M) hS i (2 - 1) (zW_get hs) rfl (zi_in hz h0 h1) d (fun H1 locs1 hP1 hD1 hS1 => ?_)
  rw [z_narC hc0 hc1] at hP1
  rw [zi_nat hz h0, z_upd h0] at hP1
  have eq : (zW ids ad M shp').set i (ad i, Sum.inl (ids 2, n, Sum.inl fun j : Nat => Int32.ofInt (zup M i z x i j))) = zW ids ad (zup M i z x) shp' := zW_set hs rfl (fun j hj => zup_other hj)
  rw [eq] at hP1
  exact kk _ rfl (zup_rm hM (hV.2.1 x List.mem_cons_self)) (zRV_sub hV zt3) H1 locs1 ls hP1 hS1 hL
theorem zq_zast (C : zOK X l cc nL own ret f w shp F) {i n : Nat} {z x : Int} {x0 : List (Option Nat)} (hs : shp[i]? = some (3, n, x0)) (h0 : 0 ≤ z) (h1 : z < n) (hb0 : x = 0 ∨ x = 1) (d : decode cc pc = .ok (.bastore, 1)) (kk : ∀ M1 : zM, M1 = zup M i z x → zG X M1 (pc + 1) lv st) : zG X M pc lv (zi x :: zi z :: zr i :: st) := by
  obtain ⟨p, l', e, R, s, m, args, below, meth, c, D, ids, ad, shp', A, F'⟩ := X
  obtain ⟨rfl, hx, hb, hml, hown, hts, hK, hD, hA, hr, hlk, hR, rfl, rfl⟩ := C
  intro hM hV H locs ls hP hS hL
  have hz : i32 z := hV.2.1 z (List.mem_cons_of_mem _ List.mem_cons_self)
  refine va_zast (f := fun j => Int32.ofInt (M i j)) hx hb hK hP (hD M) hS i (3 - 1) (zW_get hs) rfl (zi_in hz h0 h1) d (fun H1 locs1 hP1 hD1 hS1 => ?_)
  rw [z_narZ2 hb0] at hP1
  rw [zi_nat hz h0, z_upd h0] at hP1
  have eq : (zW ids ad M shp').set i (ad i, Sum.inl (ids 3, n, Sum.inl fun j : Nat => Int32.ofInt (zup M i z x i j))) = zW ids ad (zup M i z x) shp' := zW_set hs rfl (fun j hj => zup_other hj)
  rw [eq] at hP1
  exact kk _ rfl (zup_rm hM (hV.2.1 x List.mem_cons_self)) (zRV_sub hV zt3) H1 locs1 ls hP1 hS1 hL
theorem zq_aald (C : zOK X l cc nL own ret f w shp F) {i n q : Nat} {z : Int} {rl : List (Option Nat)} (hs : shp[i]? = some (4, n, rl)) (h0 : 0 ≤ z) (h1 : z < n) (hq : rl[z.toNat]? = some (some q)) (d : decode cc pc = .ok (.aaload, 1)) (kk : zG X M (pc + 1) lv (zr q :: st)) : zG X M pc lv (zi z :: zr i :: st) := by
  obtain ⟨p, l', e, R, s, m, args, below, meth, c, D, ids, ad, shp', A, F'⟩ := X
  obtain ⟨rfl, hx, hb, hml, hown, hts, hK, hD, hA, hr, hlk, hR, rfl, rfl⟩ := C
  intro hM hV H locs ls hP hS hL
  have hz : i32 z := hV.2.1 z List.mem_cons_self
  refine va_aldq (C := "BarStrips$Chart") (f := fun j => (rl.getD j none).map ad) hx hb hK hP i 3 (zW_get hs) rfl (zi_in hz h0 h1) d ?_
  rw [zi_nat hz h0]
  have e : (rl.getD z.toNat none).map ad = some (ad q) := by rw [List.getD_eq_getElem?_getD, hq]; rfl
  rw [e]
  exact kk hM (zRV_r hV zt2) H locs ls hP hS hL
theorem zq_alen (C : zOK X l cc nL own ret f w shp F) {i n t : Nat} {nz : Int} {rl : List (Option Nat)} (hs : shp[i]? = some (t + 1, n, rl)) (ht : t < 3) (hn : (n : Int) = nz) (hn2 : i32 nz) (d : decode cc pc = .ok (.arraylength, 1)) (kk : zG X M (pc + 1) lv (zi nz :: st)) : zG X M pc lv (zr i :: st) := by
  obtain ⟨p, l', e, R, s, m, args, below, meth, c, D, ids, ad, shp', A, F'⟩ := X
  obtain ⟨rfl, hx, hb, hml, hown, hts, hK, hD, hA, hr, hlk, hR, rfl, rfl⟩ := C
  intro hM hV H locs ls hP hS hL
  subst hn
  have key := kk hM (zRV_i hV hn2 zt1) H locs ls hP hS hL
  have hv : Int32.ofNat n = Int32.ofInt (n : Int) := Int32.ofInt_eq_ofNat.symm
  match t, ht with
  | 0, _ => exact va_alen (x := (n, Sum.inl _)) hx hb hK hP i 0 (zW_get hs) rfl hv d key
  | 1, _ => exact va_alen (x := (n, Sum.inl _)) hx hb hK hP i 1 (zW_get hs) rfl hv d key
  | 2, _ => exact va_alen (x := (n, Sum.inl _)) hx hb hK hP i 2 (zW_get hs) rfl hv d key
-- returns
theorem zq_iret (C : zOK X l cc nL own ret f w shp F) {x : Int} (hret : ret = some .int) (hF : F (zi x) M) (d : decode cc pc = .ok (.ireturn, 1)) : zG X M pc lv [zi x] := by
  obtain ⟨p, l', e, R, s, m, args, below, meth, c, D, ids, ad, shp', A, F'⟩ := X
  obtain ⟨rfl, hx, hb, hml, hown, hts, hK, hD, hA, hr, hlk, hR, rfl, rfl⟩ := C
  intro hM hV H locs ls hP hS hL
  subst hret
  exact W.iret (v := Int32.ofInt x) hx hb hr (fun t ht hW => ⟨⟨zi x, M, by rw [hr]; rfl, fun y e => (Sum.inl.inj e) ▸ hV.2.1 x List.mem_cons_self, hM, hF, by rw [ht]; exact hP⟩, hS.F ht⟩) hS.2.2 d hlk
theorem zq_zret (C : zOK X l cc nL own ret f w shp F) {x : Int} (hret : ret = some .boolean) (hb2 : x = 0 ∨ x = 1) (hF : F (zi x) M) (d : decode cc pc = .ok (.ireturn, 1)) : zG X M pc lv [zi x] := by
  obtain ⟨p, l', e, R, s, m, args, below, meth, c, D, ids, ad, shp', A, F'⟩ := X
  obtain ⟨rfl, hx, hb, hml, hown, hts, hK, hD, hA, hr, hlk, hR, rfl, rfl⟩ := C
  intro hM hV H locs ls hP hS hL
  subst hret
  exact W.zret (v := Int32.ofInt x) hx hb hr (z_narZ hb2) (fun t ht hW => ⟨⟨zi x, M, by rw [hr]; rfl, fun y e => (Sum.inl.inj e) ▸ hV.2.1 x List.mem_cons_self, hM, hF, by rw [ht]; exact hP⟩, hS.F ht⟩) hS.2.2 d hlk
theorem zq_vret (C : zOK X l cc nL own ret f w shp F) (hret : ret = none) (hF : F (zi 0) M) (d : decode cc pc = .ok (.return_, 1)) : zG X M pc lv [] := by
  obtain ⟨p, l', e, R, s, m, args, below, meth, c, D, ids, ad, shp', A, F'⟩ := X
  obtain ⟨rfl, hx, hb, hml, hown, hts, hK, hD, hA, hr, hlk, hR, rfl, rfl⟩ := C
  intro hM hV H locs ls hP hS hL
  subst hret
  exact W.vret hx hb hr (fun t ht hW => ⟨⟨zi 0, M, by rw [hr]; rfl, fun y e => (Sum.inl.inj e) ▸ (show i32 0 by decide), hM, hF, by rw [ht]; exact hP⟩, hS.F ht⟩) hS.2.2 d hlk
end ZQ
end
section
/-! entering a method, calling one -/
theorem zq_enter {l : Launch} {y : MethodName} {cc : ByteArray} {maxL : Nat} {ret : Option FieldType} {f w : Nat} {shp : zS} {av : List zV} {M : zM} {F : zV → zM → Prop} (lv : List (Option zV)) (hy : plainName y.cls = true) (hav : zNd av = true) (hlen : av.length ≤ maxL) (hlv : lv = av.map some ++ List.replicate (maxL - av.length) none)
    (body : ∀ X : zX, zOK X l cc maxL y.cls ret f w shp F → zG X M 0 lv []) : zMet l y cc maxL ret f w shp av M F := by
  intro hM hav2 D ids ad sz
  refine Met.ofW (cc := cc) (maxL := maxL) (ret := ret) hy rfl ?_
  intro p e s m args below meth c s₁ B hml hv
  obtain ⟨rfl, hsz, hP, hK, hD0⟩ := hv
  have hx := B.exec
  have hb := B.bytes
  have hr := B.returns
  have hts := atoms_spec (ws := Cond.code y cc maxL ret :: lw_g) B.pre
  have hown : s.vm.findClass y.cls = some m.cls := findClass_of_methodNamed B.named
  have hlocks := B.notSynchronized
  subst hsz
  have hsl := z_sl ad av (zNd_of hav)
  have hl := lv_entry (av.map (zcv ad)) (n := maxL) (by rw [hsl, List.length_map]; exact hlen)
  rw [lg_entry_eq]
  have hlenv : lv.length = maxL := by rw [hlv, List.length_append, List.length_map, List.length_replicate]; omega
  have hget : ∀ (i : Nat) (v : zV), lv[i]? = some (some v) → av[i]? = some v := by
    intro i v hi
    rw [hlv] at hi
    by_cases h : i < av.length
    · rw [List.getElem?_append_left (by rw [List.length_map]; exact h), List.getElem?_map] at hi
      cases ha : av[i]? with
      | none => rw [ha] at hi; cases hi
      | some q => rw [ha] at hi; cases hi; rfl
    · rw [List.getElem?_append_right (by rw [List.length_map]; omega)] at hi
      have := List.mem_of_getElem? hi
      cases (List.mem_replicate.mp this).2
  have C : zOK (p, l, e, (headSpec (Cond.code y cc maxL ret :: lw_g) ({ frames := f, cells := 0, slots := 0, locals := w } : Room)).room, s, m, ((av.map (zcv ad)).toArray), below, meth, c, D, ids, ad, shp, va_A (zW ids ad M shp) s.heap.size, F) l cc maxL y.cls ret f w shp F :=
    ⟨rfl, hx, hb, hml, hown, fun q hq => hts q (List.mem_cons_of_mem _ hq), hK, fun M' => zD_all hD0.self M', fun q hq => Or.inr hq, hr, hlocks, rfl, rfl, rfl⟩
  have G := body _ C hM ⟨fun x hx1 => ?_, fun x hx1 => (List.not_mem_nil hx1).elim, fun d hd => ?_⟩ s.heap [] _ hP va_S.rf ⟨?_, hl.2.1, fun i v hi => ?_⟩
  · rw [hr] at G
    exact G
  · obtain ⟨i, hi⟩ := List.getElem?_of_mem hx1
    exact hav2 x (List.mem_of_getElem? (hget i _ hi))
  · obtain ⟨i, hi⟩ := List.getElem?_of_mem hd
    exact zNd_of hav d (List.mem_of_getElem? (hget i _ hi))
  · rw [hlenv]
    exact hl.1
  · have h1 := hget i v hi
    have h2 : i < av.length := (List.getElem?_eq_some_iff.mp h1).1
    rw [hsl]
    rw [List.getElem?_toArray, List.getElem?_append_left (by rw [List.length_map]; exact h2), List.getElem?_map, h1]
    rfl
abbrev zres (ret : Option FieldType) (v : zV) (st : List zV) : List zV := match ret with
  | none => st
  | some _ => v :: st
/-- what a call's place says: it links to y of class CC -/
def zCb (own : String) (idx : Nat) (y : MethodName) (bytes : ByteArray) (maxL : Nat) (ret : Option FieldType) (n : Nat) : Prop :=
  Cond.methodLink own idx y ∈ lw_g ∧ Cond.initialized y.cls ∈ lw_g ∧ Cond.code y bytes maxL ret ∈ lw_g ∧ (y.cls ≠ "java/lang/invoke/MethodHandle" ∧ y.cls ≠ "java/lang/invoke/VarHandle" ∧ (parseMethodDescriptor y.desc).map (fun d => d.parameters.length) = some n)
def zCn (own : String) (idx : Nat) (y : MethodName) (host : String) (bytes : ByteArray) (maxL : Nat) (ret : Option FieldType) (n : Nat) : Prop :=
  Cond.methodLinkNest own idx y host ∈ lw_g ∧ Cond.initialized y.cls ∈ lw_g ∧ Cond.code y bytes maxL ret ∈ lw_g ∧ (y.cls ≠ "java/lang/invoke/MethodHandle" ∧ y.cls ≠ "java/lang/invoke/VarHandle" ∧ (parseMethodDescriptor y.desc).map (fun d => d.parameters.length) = some n)
theorem z_good {y : MethodName} {bytes : ByteArray} {maxL : Nat} {ret : Option FieldType} (h : Cond.code y bytes maxL ret ∈ lw_g) : GoodIn lw_g (Cond.code y bytes maxL ret :: lw_g) := by
  intro q hq
  have hq2 : q ∈ lw_g := (List.mem_cons.mp hq).elim (fun e => e ▸ h) id
  exact ⟨hq2, good_of_word (lw_g_of hq2).2⟩
section ZQ
variable {X : zX} {l : Launch} {cc : ByteArray} {nL : Nat} {own : String} {ret : Option FieldType} {f w : Nat} {shp : zS} {F : zV → zM → Prop} {M : zM} {pc : Nat} {lv lv' : List (Option zV)} {st : List zV}
theorem z_after {p : Program} {l : Launch} {e : Env} {R : Room} {s : State} {m : MethodId} {args : Array Value} {below : List Frame} {meth : Method} {c : Code} {H : Heap} {locs : List Loc} {Q : State → Prop} {ls : Array Slot} {D : va_G} {ids : Nat → ClassId} {ad : Nat → Nat} {A : Nat → Prop} {ret' : Option FieldType} {F' : zV → zM → Prop} {st0 rest : List Value} {a : Array Value}
    (hr : va_Run p l e R s m args below meth c H locs 0 0 0 0 (F0 m pc ls st0) rest (zPost ids ad D shp ret' (va_A (zW ids ad M shp) H.size) F' a) (va_A (zW ids ad M shp) H.size)) (hS : va_S A s.heap H locs) (hD : va_D A (zW ids ad M shp)) (hA : ∀ q, s.heap.size ≤ q → A q)
    (kk : ∀ (v : zV) (M' : zM) (H1 : Heap) (locs1 : List Loc), (∀ x, v = zi x → i32 x) → zRM M' → F' v M' → va_P D vwCl (zW ids ad M' shp) H1 → va_S A s.heap H1 locs1 → W p l e R s m args below meth c H1 locs1 0 0 Q (F0 m (pc + 3) ls ((zrv ad ret' v).toList ++ rest))) : W p l e R s m args below meth c H locs 0 0 Q (F0 m pc ls st0) := by
  have hf : ∀ q, va_A (zW ids ad M shp) H.size q → A q := by
    intro q hq
    rcases hq with ⟨k, e, hk⟩ | hq
    · exact hD.2 k _ hk
    · exact hA q (Nat.le_trans hS.1 hq)
  intro T hT X
  obtain ⟨v, st₀, t, T', L, h0, X', hL, e1, e2, ⟨⟨z, M', hv, hz1, hM', hF', hP'⟩, hz, hk⟩, st⟩ := hr T hT X
  cases hv
  rw [h0] at hz hk
  obtain ⟨t2, a1, b1⟩ := kk z M' T'.heap (locs ++ L) hz1 hM' hF' (by rw [e1]; exact hP') ⟨Nat.le_trans hS.1 (by rw [e1]; exact hz), fun q h1 h2 => by rw [e1, hk q (Nat.lt_of_lt_of_le h1 hS.1) (fun z => h2 (hf q z))]; exact hS.2.1 q h1 h2, fun q hq => by
      rcases List.mem_append.mp hq with h | h
      · exact hS.2.2 q h
      · exact hf _ (hL q h)⟩ T' rfl X'
  exact ⟨t2, st t2 a1, b1⟩
theorem z_blind {av : List Value} {D : va_G} {ids : Nat → ClassId} {ad : Nat → Nat} {sz : Nat} : FrameBlind (va_Pc av (fun U => U.heap.size = sz ∧ va_P D vwCl (zW ids ad M shp) U.heap ∧ va_K D vwCl (zT ids) U ∧ va_D (fun _ => True) (zW ids ad M shp))) := fun a U g mk q => by
  obtain ⟨q0, q1, qP, qK, qD⟩ := q
  exact ⟨q0, q1, qP, va_K.moved (u := U) (U := U.calling g mk a) (Vm.Alike.refl U.vm) qK, qD⟩
theorem z_catsum {ad : Nat → Nat} : ∀ {st : List zV} {n : Nat}, (∀ d, zd d ∉ st) → st.length ≤ n → ((st.map (zcv ad)).map fun v => v.category).sum ≤ n
  | [], _, _, _ => Nat.zero_le _
  | v :: t, n, h, hn => by
    have h1 : (zcv ad v).category = 1 := z_cat ad (fun d e => h d (e ▸ List.mem_cons_self))
    rw [List.map_cons, List.map_cons, List.sum_cons, h1]
    simp only [List.length_cons] at hn
    have ih := z_catsum (ad := ad) (st := t) (n := n - 1) (fun d hd => h d (List.mem_cons_of_mem _ hd)) (by omega)
    omega
theorem z_ranges {lv : List (Option zV)} {st As : List zV} (h : zRV lv st) (hs : ∀ v ∈ As, v ∈ st) : ∀ x, Sum.inl x ∈ As → i32 x := fun x hx => h.2.1 x (hs _ hx)
/-- invokevirtual of a method that answers (or not): the stack behind it is 'res' -/
theorem zq_callV (C : zOK X l cc nL own ret f w shp F) {i idx ci n maxL f' w' : Nat} {y : MethodName} {bytes : ByteArray} {ret' : Option FieldType} {F' : zV → zM → Prop} {As st0 : List zV} {fl : List (Option Nat)} {T : u_T} {N : Nat} (hm : zMet l y bytes maxL ret' f' w' shp (zr i :: As) M F') (hc : zCb own idx y bytes maxL ret' n) (hv : Cond.instanceMethod y ∈ lw_g ∧ Cond.selects y.cls y y ∈ lw_g) (hn : As.length = n) (hs : shp[i]? = some (0, ci, fl)) (hci : vwCl[ci]? = some (y.cls, T, N)) (hroom : f' + 1 ≤ f ∧ 8 + (maxL + 11) + w' ≤ w) (hst : st0 = As.reverse ++ zr i :: st) (hlv : lv.length = nL) (hnd : zNd st = true) (h8 : st.length ≤ 8) (d : decode cc pc = .ok (.invokevirtual idx, 3))
    (kk : ∀ (v : zV) (M' : zM), (∀ x, v = zi x → i32 x) → F' v M' → zG X M' (pc + 3) lv (zres ret' v st)) : zG X M pc lv st0 := by
  obtain ⟨p, l', e, R, s, m, args, below, meth, c, D, ids, ad, shp', A, F0'⟩ := X
  obtain ⟨rfl, hx, hb, hml, hown, hts, hK, hD, hA, hr, hlk, hR, rfl, rfl⟩ := C
  intro hM hV H locs ls hP hS hL
  subst hst
  obtain ⟨c1, c2, c3, c4⟩ := hc
  have hra : ∀ x, Sum.inl x ∈ (zr i :: As) → i32 x := by
    intro x hx1
    rcases List.mem_cons.mp hx1 with h1 | h1
    · cases h1
    · exact hV.2.1 x (List.mem_append_left _ (List.mem_reverse.mpr h1))
  have hmet := hm hM hra D ids ad H.size
  have hcell := va_recv hK hP hci (zW_get (ids := ids) (ad := ad) (M := M) hs)
  refine z_after (ret' := ret') (F' := F') (va_runV (As := As.map (zcv ad)) (rest := st.map (zcv ad)) (b := ad i) (own := own) (nL := nL) (C := y.cls) ⟨hx, hb, hml, hown, hts⟩ hmet ⟨callB_of n hts (z_good c3) rfl rfl rfl (hts _ c2) (hts _ c1) c4 (by rw [hR]; exact hroom), hts _ hv.1, hts _ hv.2⟩ ⟨z_blind, hcell, fun U hU hW => ⟨rfl, by rw [hU], by rw [hU]; exact hP, va_K.moved hW.alike hK, (hD M).weaken (fun _ _ _ _ => trivial)⟩⟩ rfl (by rw [List.length_map]; exact hn) (hL.1.trans hlv) (by show List.map (zcv ad) _ = _; simp [zcv]) (lv_room (z_catsum (zNd_of hnd) h8)) d ⟨by rw [hR]; exact Nat.le_refl _, by rw [hR]; exact Nat.le_refl _⟩) hS (hD M) hA (fun v M' H1 locs1 hz hM' hF' hP1 hS1 => ?_)
  have hV' : zRV lv st := zRV_sub hV (fun q hq => List.mem_append_right _ (List.mem_cons_of_mem _ hq))
  have k2 := kk v M' hz hF'
  cases ret' with
  | none => exact k2 hM' hV' H1 locs1 ls hP1 hS1 hL
  | some ty =>
    refine k2 hM' (zRV_push hV' (fun q hq => ?_)) H1 locs1 ls hP1 hS1 hL
    rcases List.mem_cons.mp hq with rfl | h1
    · rcases q with x | j | dd
      · exact Or.inr (Or.inl ⟨x, rfl, hz x rfl⟩)
      · exact Or.inr (Or.inr (Or.inl ⟨j, rfl⟩))
      · exact Or.inr (Or.inr (Or.inr ⟨dd, rfl⟩))
    · exact Or.inl h1
end ZQ
end
section
/-! static calls, the library's own, switches, doubles -/
section ZQ
variable {X : zX} {l : Launch} {cc : ByteArray} {nL : Nat} {own : String} {ret : Option FieldType} {f w : Nat} {shp : zS} {F : zV → zM → Prop} {M : zM} {pc : Nat} {lv lv' : List (Option zV)} {st : List zV}
theorem z_res {lv : List (Option zV)} {st : List zV} {ret' : Option FieldType} {v : zV} (hV : zRV lv st) (hz : ∀ x, v = zi x → i32 x) : zRV lv (zres ret' v st) := by
  cases ret' with
  | none => exact hV
  | some ty =>
    refine zRV_push hV (fun q hq => ?_)
    rcases List.mem_cons.mp hq with rfl | h1
    · rcases q with x | j | dd
      · exact Or.inr (Or.inl ⟨x, rfl, hz x rfl⟩)
      · exact Or.inr (Or.inr (Or.inl ⟨j, rfl⟩))
      · exact Or.inr (Or.inr (Or.inr ⟨dd, rfl⟩))
    · exact Or.inl h1
theorem zq_callS (C : zOK X l cc nL own ret f w shp F) {idx n maxL f' w' : Nat} {y : MethodName} {bytes : ByteArray} {ret' : Option FieldType} {F' : zV → zM → Prop} {As st0 : List zV} (hm : zMet l y bytes maxL ret' f' w' shp As M F') (hc : zCb own idx y bytes maxL ret' n) (hv : Cond.static y ∈ lw_g) (hn : As.length = n) (hroom : f' + 1 ≤ f ∧ 8 + (maxL + 11) + w' ≤ w) (hst : st0 = As.reverse ++ st) (hlv : lv.length = nL) (hnd : zNd st = true) (h8 : st.length ≤ 8) (d : decode cc pc = .ok (.invokestatic idx, 3))
    (kk : ∀ (v : zV) (M' : zM), (∀ x, v = zi x → i32 x) → F' v M' → zG X M' (pc + 3) lv (zres ret' v st)) : zG X M pc lv st0 := by
  obtain ⟨p, l', e, R, s, m, args, below, meth, c, D, ids, ad, shp', A, F0'⟩ := X
  obtain ⟨rfl, hx, hb, hml, hown, hts, hK, hD, hA, hr, hlk, hR, rfl, rfl⟩ := C
  intro hM hV H locs ls hP hS hL
  subst hst
  obtain ⟨c1, c2, c3, c4⟩ := hc
  have hmet := hm hM (z_ranges hV (fun v hv => List.mem_append_left _ (List.mem_reverse.mpr hv))) D ids ad H.size
  refine z_after (ret' := ret') (F' := F') (va_runS (As := As.map (zcv ad)) (rest := st.map (zcv ad)) (own := own) (nL := nL) ⟨hx, hb, hml, hown, hts⟩ hmet ⟨callB_of n hts (z_good c3) rfl rfl rfl (hts _ c2) (hts _ c1) c4 (by rw [hR]; exact hroom), hts _ hv⟩ ⟨z_blind, fun U hU hW => ⟨rfl, by rw [hU], by rw [hU]; exact hP, va_K.moved hW.alike hK, (hD M).weaken (fun _ _ _ _ => trivial)⟩⟩ rfl (by rw [List.length_map]; exact hn) (hL.1.trans hlv) (by show List.map (zcv ad) _ = _; simp) (lv_room (z_catsum (zNd_of hnd) h8)) d ⟨by rw [hR]; exact Nat.le_refl _, by rw [hR]; exact Nat.le_refl _⟩) hS (hD M) hA (fun v M' H1 locs1 hz hM' hF' hP1 hS1 => ?_)
  have hV' : zRV lv st := zRV_sub hV (fun q hq => List.mem_append_right _ hq)
  have k2 := kk v M' hz hF' hM' (z_res hV' hz) H1 locs1 ls hP1 hS1 hL
  cases ret' with
  | none => exact k2
  | some ty => exact k2
theorem zq_callSN (C : zOK X l cc nL own ret f w shp F) {idx n maxL f' w' : Nat} {y : MethodName} {host : String} {bytes : ByteArray} {ret' : Option FieldType} {F' : zV → zM → Prop} {As st0 : List zV} (hm : zMet l y bytes maxL ret' f' w' shp As M F') (hc : zCn own idx y host bytes maxL ret' n) (hv : Cond.static y ∈ lw_g) (hn : As.length = n) (hroom : f' + 1 ≤ f ∧ 8 + (maxL + 11) + w' ≤ w) (hst : st0 = As.reverse ++ st) (hlv : lv.length = nL) (hnd : zNd st = true) (h8 : st.length ≤ 8) (d : decode cc pc = .ok (.invokestatic idx, 3))
    (kk : ∀ (v : zV) (M' : zM), (∀ x, v = zi x → i32 x) → F' v M' → zG X M' (pc + 3) lv (zres ret' v st)) : zG X M pc lv st0 := by
  obtain ⟨p, l', e, R, s, m, args, below, meth, c, D, ids, ad, shp', A, F0'⟩ := X
  obtain ⟨rfl, hx, hb, hml, hown, hts, hK, hD, hA, hr, hlk, hR, rfl, rfl⟩ := C
  intro hM hV H locs ls hP hS hL
  subst hst
  obtain ⟨c1, c2, c3, c4⟩ := hc
  have hmet := hm hM (z_ranges hV (fun v hv => List.mem_append_left _ (List.mem_reverse.mpr hv))) D ids ad H.size
  refine z_after (ret' := ret') (F' := F') (va_runSN (As := As.map (zcv ad)) (rest := st.map (zcv ad)) (own := own) (nL := nL) ⟨hx, hb, hml, hown, hts⟩ hmet ⟨va_cnB n hts (z_good c3) rfl rfl rfl (va_Nw.of rfl (hts _ c1)) (hts _ c2) c4 (by rw [hR]; exact hroom), hts _ hv, trivial⟩ ⟨z_blind, fun U hU hW => ⟨rfl, by rw [hU], by rw [hU]; exact hP, va_K.moved hW.alike hK, (hD M).weaken (fun _ _ _ _ => trivial)⟩⟩ rfl (by rw [List.length_map]; exact hn) (hL.1.trans hlv) (by show List.map (zcv ad) _ = _; simp) (lv_room (z_catsum (zNd_of hnd) h8)) d ⟨by rw [hR]; exact Nat.le_refl _, by rw [hR]; exact Nat.le_refl _⟩) hS (hD M) hA (fun v M' H1 locs1 hz hM' hF' hP1 hS1 => ?_)
  have hV' : zRV lv st := zRV_sub hV (fun q hq => List.mem_append_right _ hq)
  have k2 := kk v M' hz hF' hM' (z_res hV' hz) H1 locs1 ls hP1 hS1 hL
  cases ret' with
  | none => exact k2
  | some ty => exact k2
-- Math
def zMw (own : String) (idx : Nat) (y : MethodName) (bytes : ByteArray) (n : Nat) : Prop := Cond.methodLink own idx y ∈ lw_g ∧ Cond.static y ∈ lw_g ∧ Cond.initialized "java/lang/Math" ∈ lw_g ∧ Cond.code y bytes n (some .int) ∈ lw_g
theorem zq_max (C : zOK X l cc nL own ret f w shp F) {idx : Nat} {x y : Int} (hw : zMw own idx Lib.Math.max.name Lib.Math.max.code 2) (hlv : lv.length = nL) (hnd : zNd st = true) (hroom : 1 ≤ f ∧ st.length + 13 ≤ w) (d : decode cc pc = .ok (.invokestatic idx, 3)) (kk : zG X M (pc + 3) lv (zi (max x y) :: st)) : zG X M pc lv (zi y :: zi x :: st) := by
  obtain ⟨p, l', e, R, s, m, args, below, meth, c, D, ids, ad, shp', A, F'⟩ := X
  obtain ⟨rfl, hx, hb, hml, hown, hts, hK, hD, hA, hr, hlk, hR, rfl, rfl⟩ := C
  intro hM hV H locs ls hP hS hL
  have h1 : i32 x := hV.2.1 x (List.mem_cons_of_mem _ List.mem_cons_self)
  have h2 : i32 y := hV.2.1 y List.mem_cons_self
  refine va_mmax hx hb (by rw [hml, hL.1, hlv]) hown (hts _ hw.1) (hts _ hw.2.1) (hts _ hw.2.2.1) (hts _ hw.2.2.2) (by rw [hR]; exact hroom.1) (by rw [hR]; exact Nat.le_trans (Nat.add_le_add_right (z_catsum (zNd_of hnd) (Nat.le_refl _)) 13) hroom.2) (Nat.zero_le _) (Nat.zero_le _) d ?_
  have e : (if Int32.ofInt x < Int32.ofInt y then Int32.ofInt y else Int32.ofInt x) = Int32.ofInt (max x y) := by
    by_cases q : x < y
    · rw [if_pos ((zi_lt h1 h2).mpr q)]; congr 1; omega
    · rw [if_neg (fun z => q ((zi_lt h1 h2).mp z))]; congr 1; omega
  rw [e]
  exact kk hM (zRV_i hV ⟨by omega, by omega⟩ zt2) H locs ls hP hS hL
theorem zq_min (C : zOK X l cc nL own ret f w shp F) {idx : Nat} {x y : Int} (hw : zMw own idx Lib.Math.min.name Lib.Math.min.code 2) (hlv : lv.length = nL) (hnd : zNd st = true) (hroom : 1 ≤ f ∧ st.length + 13 ≤ w) (d : decode cc pc = .ok (.invokestatic idx, 3)) (kk : zG X M (pc + 3) lv (zi (min x y) :: st)) : zG X M pc lv (zi y :: zi x :: st) := by
  obtain ⟨p, l', e, R, s, m, args, below, meth, c, D, ids, ad, shp', A, F'⟩ := X
  obtain ⟨rfl, hx, hb, hml, hown, hts, hK, hD, hA, hr, hlk, hR, rfl, rfl⟩ := C
  intro hM hV H locs ls hP hS hL
  have h1 : i32 x := hV.2.1 x (List.mem_cons_of_mem _ List.mem_cons_self)
  have h2 : i32 y := hV.2.1 y List.mem_cons_self
  refine va_mmin hx hb (by rw [hml, hL.1, hlv]) hown (hts _ hw.1) (hts _ hw.2.1) (hts _ hw.2.2.1) (hts _ hw.2.2.2) (by rw [hR]; exact hroom.1) (by rw [hR]; exact Nat.le_trans (Nat.add_le_add_right (z_catsum (zNd_of hnd) (Nat.le_refl _)) 13) hroom.2) (Nat.zero_le _) (Nat.zero_le _) d ?_
  have e : (if Int32.ofInt y < Int32.ofInt x then Int32.ofInt y else Int32.ofInt x) = Int32.ofInt (min x y) := by
    by_cases q : y < x
    · rw [if_pos ((zi_lt h2 h1).mpr q)]; congr 1; omega
    · rw [if_neg (fun z => q ((zi_lt h2 h1).mp z))]; congr 1; omega
  rw [e]
  exact kk hM (zRV_i hV ⟨by omega, by omega⟩ zt2) H locs ls hP hS hL
def zabs (x : Int) : Int := if 0 ≤ x then x else 0 - x
theorem zq_abs (C : zOK X l cc nL own ret f w shp F) {idx : Nat} {x : Int} (hw : zMw own idx Lib.Math.abs.name Lib.Math.abs.code 1) (hlv : lv.length = nL) (hnd : zNd st = true) (hroom : 1 ≤ f ∧ st.length + 13 ≤ w) (h : i32 (zabs x)) (d : decode cc pc = .ok (.invokestatic idx, 3)) (kk : zG X M (pc + 3) lv (zi (zabs x) :: st)) : zG X M pc lv (zi x :: st) := by
  obtain ⟨p, l', e, R, s, m, args, below, meth, c, D, ids, ad, shp', A, F'⟩ := X
  obtain ⟨rfl, hx, hb, hml, hown, hts, hK, hD, hA, hr, hlk, hR, rfl, rfl⟩ := C
  intro hM hV H locs ls hP hS hL
  have h1 : i32 x := hV.2.1 x List.mem_cons_self
  refine va_mabs hx hb (by rw [hml, hL.1, hlv]) hown (hts _ hw.1) (hts _ hw.2.1) (hts _ hw.2.2.1) (hts _ hw.2.2.2) (by rw [hR]; exact hroom.1) (by rw [hR]; exact Nat.le_trans (Nat.add_le_add_right (z_catsum (zNd_of hnd) (Nat.le_refl _)) 13) hroom.2) (Nat.zero_le _) (Nat.zero_le _) d ?_
  have e : (if (0 : Int32) ≤ Int32.ofInt x then Int32.ofInt x else 0 - Int32.ofInt x) = Int32.ofInt (zabs x) := by
    have e0 : (0 : Int32) = Int32.ofInt 0 := by decide
    have h0 : i32 0 := by decide
    unfold zabs
    by_cases q : 0 ≤ x
    · rw [if_pos q, e0, if_pos ((zi_le h0 h1).mpr q)]
    · rw [if_neg q, e0, if_neg (fun z => q ((zi_le h0 h1).mp z)), zi_sub]
  rw [e]
  exact kk hM (zRV_i hV h zt1) H locs ls hP hS hL
-- System.arraycopy of rows of ints
def zcp (M : zM) (i : Nat) (sp : Int) (j : Nat) (dp n : Int) : zM := fun a b => if a = j ∧ dp ≤ b ∧ b < dp + n then M i (sp + (b - dp)) else M a b
theorem zcp_rm {M : zM} (h : zRM M) {i j : Nat} {sp dp n : Int} : zRM (zcp M i sp j dp n) := by
  intro a b
  unfold zcp
  split
  · exact h _ _
  · exact h a b
def zAw (own : String) (idx : Nat) : Prop := Cond.methodLink own idx arraycopyName ∈ lw_g ∧ Cond.native arraycopyName ∈ lw_g ∧ Cond.static arraycopyName ∈ lw_g ∧ Cond.initialized "java/lang/System" ∈ lw_g
theorem zq_copy (C : zOK X l cc nL own ret f w shp F) {idx i j n0 n1 : Nat} {sp dp n : Int} {r0 r1 : List (Option Nat)} (hw : zAw own idx) (hi : shp[i]? = some (1, n0, r0)) (hj : shp[j]? = some (1, n1, r1)) (h1 : 0 ≤ sp) (h2 : 0 ≤ dp) (h3 : 0 ≤ n) (h4 : sp + n ≤ n0) (h5 : dp + n ≤ n1) (hlv : lv.length = nL) (hnd : zNd st = true) (hroom : 1 ≤ f ∧ st.length + 18 ≤ w) (d : decode cc pc = .ok (.invokestatic idx, 3)) (kk : ∀ M1 : zM, M1 = zcp M i sp j dp n → zG X M1 (pc + 3) lv st) : zG X M pc lv (zi n :: zi dp :: zr j :: zi sp :: zr i :: st) := by
  obtain ⟨p, l', e, R, s, m, args, below, meth, c, D, ids, ad, shp', A, F'⟩ := X
  obtain ⟨rfl, hx, hb, hml, hown, hts, hK, hD, hA, hr, hlk, hR, rfl, rfl⟩ := C
  intro hM hV H locs ls hP hS hL
  have hn : i32 n := hV.2.1 n List.mem_cons_self
  have hdp : i32 dp := hV.2.1 dp (List.mem_cons_of_mem _ List.mem_cons_self)
  have hsp : i32 sp := hV.2.1 sp (List.mem_cons_of_mem _ (List.mem_cons_of_mem _ (List.mem_cons_of_mem _ List.mem_cons_self)))
  have h0 : i32 0 := by decide
  have e0 : (0 : Int32) = Int32.ofInt 0 := by decide
  have ng : ∀ {x : Int}, i32 x → 0 ≤ x → ¬ Int32.ofInt x < 0 := fun hx hq z => by rw [e0, zi_lt hx h0] at z; omega
  refine va_copyi (f := fun k => Int32.ofInt (M i k)) (g := fun k => Int32.ofInt (M j k)) hx hb (by rw [hml, hL.1, hlv]) hown (hts _ hw.1) (hts _ hw.2.1) (hts _ hw.2.2.1) (hts _ hw.2.2.2) hK hP (hD M) hS i j 0 0 (zW_get hi) (zW_get hj) rfl rfl rfl (ng hsp h1) (ng hdp h2) (ng hn h3) (by rw [zi_nat hsp h1, zi_nat hn h3]; omega) (by rw [zi_nat hdp h2, zi_nat hn h3]; omega) (fun _ _ => rfl) (by rw [hR]; exact hroom.1) (by rw [hR]; exact Nat.le_trans (Nat.add_le_add_right (z_catsum (zNd_of hnd) (Nat.le_refl _)) 18) hroom.2) d (fun H1 locs1 hP1 hD1 hS1 => ?_)
  rw [zi_nat hsp h1, zi_nat hdp h2, zi_nat hn h3] at hP1
  have ef : va_cpy (fun k : Nat => Int32.ofInt (M i k)) (fun k : Nat => Int32.ofInt (M j k)) sp.toNat dp.toNat n.toNat = fun k : Nat => Int32.ofInt (zcp M i sp j dp n j k) := by
    funext k
    unfold va_cpy zcp
    by_cases q : dp.toNat ≤ k ∧ k < dp.toNat + n.toNat
    · rw [if_pos q, if_pos ⟨rfl, by omega, by omega⟩]
      have hk : ((sp.toNat + (k - dp.toNat) : Nat) : Int) = sp + ((k : Int) - dp) := by omega
      show Int32.ofInt (M i ((sp.toNat + (k - dp.toNat) : Nat) : Int)) = _
      rw [hk]
    · rw [if_neg q, if_neg (by omega)]
  rw [ef] at hP1
  have eq : (zW ids ad M shp').set j (ad j, Sum.inl (ids 1, n1, Sum.inl fun k : Nat => Int32.ofInt (zcp M i sp j dp n j k))) = zW ids ad (zcp M i sp j dp n) shp' := zW_set hj rfl (fun k hk => by funext b; unfold zcp; rw [if_neg (by omega)])
  rw [eq] at hP1
  exact kk _ rfl (zcp_rm hM) (zRV_sub hV (fun v hv => List.mem_cons_of_mem _ (zt3 v hv |> List.mem_cons_of_mem _))) H1 locs1 ls hP1 hS1 hL
-- switches
theorem zq_tabOut (C : zOK X l cc nL own ret f w shp F) {dflt lo hi : Int} {offs : Array Int} {len tgt : Nat} {x : Int} (d : decode cc pc = .ok (.tableswitch dflt lo hi offs, len)) (h : x < lo ∨ hi < x) (ht : (pc : Int) + dflt = (tgt : Int)) (k : zG X M tgt lv st) : zG X M pc lv (zi x :: st) := by
  obtain ⟨p, l', e, R, s, m, args, below, meth, c, D, ids, ad, shp', A, F'⟩ := X
  obtain ⟨rfl, hx, hb, hml, hown, hts, hK, hD, hA, hr, hlk, hR, rfl, rfl⟩ := C
  intro hM hV H locs ls hP hS hL
  have h1 : i32 x := hV.2.1 x List.mem_cons_self
  exact lv_tableOut hx hb d (by rw [zi_to h1]; exact h) ht (k hM (zRV_sub hV zt1) H locs ls hP hS hL)
theorem zq_tabIn (C : zOK X l cc nL own ret f w shp F) {dflt lo hi off : Int} {offs : Array Int} {len tgt : Nat} {x : Int} (d : decode cc pc = .ok (.tableswitch dflt lo hi offs, len)) (h1 : ¬ x < lo) (h2 : ¬ hi < x) (ho : offs[(x - lo).toNat]? = some off) (ht : (pc : Int) + off = (tgt : Int)) (k : zG X M tgt lv st) : zG X M pc lv (zi x :: st) := by
  obtain ⟨p, l', e, R, s, m, args, below, meth, c, D, ids, ad, shp', A, F'⟩ := X
  obtain ⟨rfl, hx, hb, hml, hown, hts, hK, hD, hA, hr, hlk, hR, rfl, rfl⟩ := C
  intro hM hV H locs ls hP hS hL
  have h3 : i32 x := hV.2.1 x List.mem_cons_self
  exact lv_tableIn hx hb d (by rw [zi_to h3]; exact h1) (by rw [zi_to h3]; exact h2) (by rw [zi_to h3]; exact ho) ht (k hM (zRV_sub hV zt1) H locs ls hP hS hL)
theorem zq_lookup (C : zOK X l cc nL own ret f w shp F) {dflt off : Int} {ps : Array (Int × Int)} {len tgt : Nat} {x : Int} (d : decode cc pc = .ok (.lookupswitch dflt ps, len)) (hp : (ps.toList.zip (ps.toList.drop 1)).all (fun (a, next) => a.1 < next.1) = true) (ho : Op.lookupswitch.offset ps.toList dflt x = off) (ht : (pc : Int) + off = (tgt : Int)) (k : zG X M tgt lv st) : zG X M pc lv (zi x :: st) := by
  obtain ⟨p, l', e, R, s, m, args, below, meth, c, D, ids, ad, shp', A, F'⟩ := X
  obtain ⟨rfl, hx, hb, hml, hown, hts, hK, hD, hA, hr, hlk, hR, rfl, rfl⟩ := C
  intro hM hV H locs ls hP hS hL
  have h1 : i32 x := hV.2.1 x List.mem_cons_self
  exact lv_lookup hx hb d hp (by rw [zi_to h1]; exact ho) ht (k hM (zRV_sub hV zt1) H locs ls hP hS hL)
-- doubles
theorem zq_dconst0 (C : zOK X l cc nL own ret f w shp F) (d : decode cc pc = .ok (.dconst 0, 1)) (k : zG X M (pc + 1) lv (zd 0 :: st)) : zG X M pc lv st := by
  obtain ⟨p, l', e, R, s, m, args, below, meth, c, D, ids, ad, shp', A, F'⟩ := X
  obtain ⟨rfl, hx, hb, hml, hown, hts, hK, hD, hA, hr, hlk, hR, rfl, rfl⟩ := C
  intro hM hV H locs ls hP hS hL
  exact lv_dconst0 hx hb d (k hM (zRV_d hV zt0) H locs ls hP hS hL)
theorem zq_i2d (C : zOK X l cc nL own ret f w shp F) {x : Int} (d : decode cc pc = .ok (.i2d, 1)) (k : zG X M (pc + 1) lv (zd (FP.i2d (Int32.ofInt x)) :: st)) : zG X M pc lv (zi x :: st) := by
  obtain ⟨p, l', e, R, s, m, args, below, meth, c, D, ids, ad, shp', A, F'⟩ := X
  obtain ⟨rfl, hx, hb, hml, hown, hts, hK, hD, hA, hr, hlk, hR, rfl, rfl⟩ := C
  intro hM hV H locs ls hP hS hL
  exact lv_i2d hx hb d (k hM (zRV_d hV zt1) H locs ls hP hS hL)
theorem zq_ddiv (C : zOK X l cc nL own ret f w shp F) {x y : UInt64} (hne : vf_n64 (FP.ddiv x y)) (d : decode cc pc = .ok (.ddiv, 1)) (k : zG X M (pc + 1) lv (zd (FP.ddiv x y) :: st)) : zG X M pc lv (zd y :: zd x :: st) := by
  obtain ⟨p, l', e, R, s, m, args, below, meth, c, D, ids, ad, shp', A, F'⟩ := X
  obtain ⟨rfl, hx, hb, hml, hown, hts, hK, hD, hA, hr, hlk, hR, rfl, rfl⟩ := C
  intro hM hV H locs ls hP hS hL
  exact lv_ddiv hx hb d hne (k hM (zRV_d hV zt2) H locs ls hP hS hL)
theorem zq_dmul (C : zOK X l cc nL own ret f w shp F) {x y : UInt64} (hne : vf_n64 (FP.dmul x y)) (d : decode cc pc = .ok (.dmul, 1)) (k : zG X M (pc + 1) lv (zd (FP.dmul x y) :: st)) : zG X M pc lv (zd y :: zd x :: st) := by
  obtain ⟨p, l', e, R, s, m, args, below, meth, c, D, ids, ad, shp', A, F'⟩ := X
  obtain ⟨rfl, hx, hb, hml, hown, hts, hK, hD, hA, hr, hlk, hR, rfl, rfl⟩ := C
  intro hM hV H locs ls hP hS hL
  exact lv_dmul hx hb d hne (k hM (zRV_d hV zt2) H locs ls hP hS hL)
theorem zq_dret (C : zOK X l cc nL own ret f w shp F) {x : UInt64} (hret : ret = some .double) (hF : F (zd x) M) (d : decode cc pc = .ok (.dreturn, 1)) : zG X M pc lv [zd x] := by
  obtain ⟨p, l', e, R, s, m, args, below, meth, c, D, ids, ad, shp', A, F'⟩ := X
  obtain ⟨rfl, hx, hb, hml, hown, hts, hK, hD, hA, hr, hlk, hR, rfl, rfl⟩ := C
  intro hM hV H locs ls hP hS hL
  subst hret
  exact W.dret (v := x) hx hb hr (fun t ht hW => ⟨⟨zd x, M, by rw [hr]; rfl, (fun y e => nomatch e), hM, hF, by rw [ht]; exact hP⟩, hS.F ht⟩) hS.2.2 d hlk
end ZQ
-- the calls by what comes back
def zI (Φ : Int → zM → Prop) : zV → zM → Prop := fun v M => ∃ z, v = zi z ∧ Φ z M
def zU (Φ : zM → Prop) : zV → zM → Prop := fun _ M => Φ M
section ZQ2
variable {X : zX} {l : Launch} {cc : ByteArray} {nL : Nat} {own : String} {ret : Option FieldType} {f w : Nat} {shp : zS} {F : zV → zM → Prop} {M : zM} {pc : Nat} {lv lv' : List (Option zV)} {st : List zV}
theorem zq_callVi (C : zOK X l cc nL own ret f w shp F) {i idx ci n maxL f' w' : Nat} {y : MethodName} {bytes : ByteArray} {ty : FieldType} {Φ : Int → zM → Prop} {st0 : List zV} {fl : List (Option Nat)} {T : u_T} {N : Nat} (As : List zV) (hm : zMet l y bytes maxL (some ty) f' w' shp (zr i :: As) M (zI Φ)) (hc : zCb own idx y bytes maxL (some ty) n) (hv : Cond.instanceMethod y ∈ lw_g ∧ Cond.selects y.cls y y ∈ lw_g) (hn : As.length = n) (hs : shp[i]? = some (0, ci, fl)) (hci : vwCl[ci]? = some (y.cls, T, N)) (hr1 : Nat.ble (f' + 1) f = true) (hr2 : Nat.ble (8 + (maxL + 11) + w') w = true) (hst : st0 = As.reverse ++ zr i :: st) (hlv : lv.length = nL) (hnd : zNd st = true) (h8 : Nat.ble st.length 8 = true) (d : decode cc pc = .ok (.invokevirtual idx, 3))
    (kk : ∀ (z : Int) (M' : zM), Φ z M' → zG X M' (pc + 3) lv (zi z :: st)) : zG X M pc lv st0 :=
  zq_callV C hm hc hv hn hs hci ⟨Nat.le_of_ble_eq_true hr1, Nat.le_of_ble_eq_true hr2⟩ hst hlv hnd (Nat.le_of_ble_eq_true h8) d (fun v M' hz hF => by obtain ⟨z, rfl, hJ⟩ := hF; exact kk z M' hJ)
theorem zq_callVv (C : zOK X l cc nL own ret f w shp F) {i idx ci n maxL f' w' : Nat} {y : MethodName} {bytes : ByteArray} {Φ : zM → Prop} {st0 : List zV} {fl : List (Option Nat)} {T : u_T} {N : Nat} (As : List zV) (hm : zMet l y bytes maxL none f' w' shp (zr i :: As) M (zU Φ)) (hc : zCb own idx y bytes maxL none n) (hv : Cond.instanceMethod y ∈ lw_g ∧ Cond.selects y.cls y y ∈ lw_g) (hn : As.length = n) (hs : shp[i]? = some (0, ci, fl)) (hci : vwCl[ci]? = some (y.cls, T, N)) (hr1 : Nat.ble (f' + 1) f = true) (hr2 : Nat.ble (8 + (maxL + 11) + w') w = true) (hst : st0 = As.reverse ++ zr i :: st) (hlv : lv.length = nL) (hnd : zNd st = true) (h8 : Nat.ble st.length 8 = true) (d : decode cc pc = .ok (.invokevirtual idx, 3))
    (kk : ∀ (M' : zM), Φ M' → zG X M' (pc + 3) lv st) : zG X M pc lv st0 :=
  zq_callV C hm hc hv hn hs hci ⟨Nat.le_of_ble_eq_true hr1, Nat.le_of_ble_eq_true hr2⟩ hst hlv hnd (Nat.le_of_ble_eq_true h8) d (fun v M' hz hF => kk M' hF)
theorem zq_callSi (C : zOK X l cc nL own ret f w shp F) {idx n maxL f' w' : Nat} {y : MethodName} {bytes : ByteArray} {ty : FieldType} {Φ : Int → zM → Prop} {st0 : List zV} (As : List zV) (hm : zMet l y bytes maxL (some ty) f' w' shp As M (zI Φ)) (hc : zCb own idx y bytes maxL (some ty) n) (hv : Cond.static y ∈ lw_g) (hn : As.length = n) (hr1 : Nat.ble (f' + 1) f = true) (hr2 : Nat.ble (8 + (maxL + 11) + w') w = true) (hst : st0 = As.reverse ++ st) (hlv : lv.length = nL) (hnd : zNd st = true) (h8 : Nat.ble st.length 8 = true) (d : decode cc pc = .ok (.invokestatic idx, 3))
    (kk : ∀ (z : Int) (M' : zM), Φ z M' → zG X M' (pc + 3) lv (zi z :: st)) : zG X M pc lv st0 :=
  zq_callS C hm hc hv hn ⟨Nat.le_of_ble_eq_true hr1, Nat.le_of_ble_eq_true hr2⟩ hst hlv hnd (Nat.le_of_ble_eq_true h8) d (fun v M' hz hF => by obtain ⟨z, rfl, hJ⟩ := hF; exact kk z M' hJ)
theorem zq_callSv (C : zOK X l cc nL own ret f w shp F) {idx n maxL f' w' : Nat} {y : MethodName} {bytes : ByteArray} {Φ : zM → Prop} {st0 : List zV} (As : List zV) (hm : zMet l y bytes maxL none f' w' shp As M (zU Φ)) (hc : zCb own idx y bytes maxL none n) (hv : Cond.static y ∈ lw_g) (hn : As.length = n) (hr1 : Nat.ble (f' + 1) f = true) (hr2 : Nat.ble (8 + (maxL + 11) + w') w = true) (hst : st0 = As.reverse ++ st) (hlv : lv.length = nL) (hnd : zNd st = true) (h8 : Nat.ble st.length 8 = true) (d : decode cc pc = .ok (.invokestatic idx, 3))
    (kk : ∀ (M' : zM), Φ M' → zG X M' (pc + 3) lv st) : zG X M pc lv st0 :=
  zq_callS C hm hc hv hn ⟨Nat.le_of_ble_eq_true hr1, Nat.le_of_ble_eq_true hr2⟩ hst hlv hnd (Nat.le_of_ble_eq_true h8) d (fun v M' hz hF => kk M' hF)
theorem zq_callSNi (C : zOK X l cc nL own ret f w shp F) {idx n maxL f' w' : Nat} {y : MethodName} {host : String} {bytes : ByteArray} {ty : FieldType} {Φ : Int → zM → Prop} {st0 : List zV} (As : List zV) (hm : zMet l y bytes maxL (some ty) f' w' shp As M (zI Φ)) (hc : zCn own idx y host bytes maxL (some ty) n) (hv : Cond.static y ∈ lw_g) (hn : As.length = n) (hr1 : Nat.ble (f' + 1) f = true) (hr2 : Nat.ble (8 + (maxL + 11) + w') w = true) (hst : st0 = As.reverse ++ st) (hlv : lv.length = nL) (hnd : zNd st = true) (h8 : Nat.ble st.length 8 = true) (d : decode cc pc = .ok (.invokestatic idx, 3))
    (kk : ∀ (z : Int) (M' : zM), Φ z M' → zG X M' (pc + 3) lv (zi z :: st)) : zG X M pc lv st0 :=
  zq_callSN C hm hc hv hn ⟨Nat.le_of_ble_eq_true hr1, Nat.le_of_ble_eq_true hr2⟩ hst hlv hnd (Nat.le_of_ble_eq_true h8) d (fun v M' hz hF => by obtain ⟨z, rfl, hJ⟩ := hF; exact kk z M' hJ)
-- fewer locals known; loops
def zwk : List (Option zV) → List (Option zV) → Prop
  | [], [] => True
  | a :: t, b :: u => (b = none ∨ a = b) ∧ zwk t u
  | _, _ => False
theorem zwk_len : ∀ {a b : List (Option zV)}, zwk a b → a.length = b.length ∧ ∀ (i : Nat) (v : zV), b[i]? = some (some v) → a[i]? = some (some v)
  | [], [], _ => ⟨rfl, fun i v h => by cases h⟩
  | [], _ :: _, h => h.elim
  | _ :: _, [], h => h.elim
  | a :: t, b :: u, h => by
    obtain ⟨h1, h2⟩ := zwk_len h.2
    refine ⟨by simp [h1], fun i v hi => ?_⟩
    cases i with
    | zero =>
      rcases h.1 with e | e
      · rw [e] at hi; cases hi
      · rw [e]; exact hi
    | succ i => exact h2 i v hi
theorem zq_weak (lv' : List (Option zV)) (h : zwk lv lv') (k : zG X M pc lv' st) : zG X M pc lv st := by
  obtain ⟨p, l', e, R, s, m, args, below, meth, c, D, ids, ad, shp', A, F'⟩ := X
  intro hM hV H locs ls hP hS hL
  obtain ⟨h1, h2⟩ := zwk_len h
  refine k hM ⟨fun x hx => ?_, hV.2.1, fun d hd => ?_⟩ H locs ls hP hS ⟨hL.1.trans h1, hL.2.1, fun i v hi => hL.2.2 i v (h2 i v hi)⟩
  · obtain ⟨i, hi⟩ := List.getElem?_of_mem hx
    exact hV.1 x (List.mem_of_getElem? (h2 i _ hi))
  · obtain ⟨i, hi⟩ := List.getElem?_of_mem hd
    exact hV.2.2 d (List.mem_of_getElem? (h2 i _ hi))
end ZQ2
def zloop {S : Type} (body : (S → Prop) → S → Prop) : Nat → S → Prop
  | 0, _ => False
  | n + 1, s => body (zloop body n) s
def zwh {S : Type} (body : (S → Prop) → S → Prop) (s : S) : Prop := ∃ n, zloop body n s
theorem zwh_sound {S : Type} {body : (S → Prop) → S → Prop} {G : S → Prop} (h : ∀ (K : S → Prop) (s : S), (∀ s', K s' → G s') → body K s → G s) : ∀ s, zwh body s → G s := by
  rintro s ⟨n, hn⟩
  induction n generalizing s with
  | zero => exact hn.elim
  | succ n ih => exact h _ s ih hn
theorem zwh_run {S : Type} {body : (S → Prop) → S → Prop} (I : S → Prop) (μ : S → Nat) (h : ∀ (K : S → Prop) (s : S), I s → (∀ s', I s' → μ s' < μ s → K s') → body K s) : ∀ s, I s → zwh body s := by
  have key : ∀ n s, I s → μ s < n → zloop body n s := by
    intro n
    induction n with
    | zero => intro s _ h; exact absurd h (Nat.not_lt_zero _)
    | succ n ih => intro s hi hn; exact h _ s hi (fun s' hi' hm => ih s' hi' (by omega))
  exact fun s hi => ⟨μ s + 1, key _ s hi (Nat.lt_succ_self _)⟩
end
