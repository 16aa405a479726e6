-- ===== PART A: goes FIRST, ahead of the names: the tables' words, and 'selects' of the private methods out of them =====
/-- a private method of a class that the tables say can be made, by its rows of tables_1 -/
def lw_okq (q : MethodName × Nat) : Prop := (q.1.cls ≠ "java/lang/invoke/MethodHandle" ∧ q.1.cls ≠ "java/lang/invoke/VarHandle") ∧ Cond.instantiable q.1.cls q.2 ∈ tables_1 ∧ Cond.privateMethod q.1 ∈ tables_1 ∧ Cond.instanceMethod q.1 ∈ tables_1
theorem lw_p0 : lw_okq (⟨"CoalVend", "isOwner", "(I)Z"⟩, 9) := ⟨⟨by decide +kernel, by decide +kernel⟩, List.mem_of_getElem? (i := 28) (by decide +kernel), List.mem_of_getElem? (i := 461) (by decide +kernel), List.mem_of_getElem? (i := 462) (by decide +kernel)⟩
theorem lw_p1 : lw_okq (⟨"CoalVend$Reader", "start", "()V"⟩, 14) := ⟨⟨by decide +kernel, by decide +kernel⟩, List.mem_of_getElem? (i := 289) (by decide +kernel), List.mem_of_getElem? (i := 507) (by decide +kernel), List.mem_of_getElem? (i := 508) (by decide +kernel)⟩
theorem lw_p2 : lw_okq (⟨"CoalVend$Reader", "next", "()V"⟩, 14) := ⟨⟨by decide +kernel, by decide +kernel⟩, List.mem_of_getElem? (i := 289) (by decide +kernel), List.mem_of_getElem? (i := 511) (by decide +kernel), List.mem_of_getElem? (i := 512) (by decide +kernel)⟩
theorem lw_p3 : lw_okq (⟨"CoalVend$Reader", "takeWord", "()V"⟩, 14) := ⟨⟨by decide +kernel, by decide +kernel⟩, List.mem_of_getElem? (i := 289) (by decide +kernel), List.mem_of_getElem? (i := 518) (by decide +kernel), List.mem_of_getElem? (i := 519) (by decide +kernel)⟩
theorem lw_p4 : lw_okq (⟨"CoalVend$Reader", "isWord", "(I)Z"⟩, 14) := ⟨⟨by decide +kernel, by decide +kernel⟩, List.mem_of_getElem? (i := 289) (by decide +kernel), List.mem_of_getElem? (i := 522) (by decide +kernel), List.mem_of_getElem? (i := 523) (by decide +kernel)⟩
theorem lw_p5 : lw_okq (⟨"CoalVend$Reader", "takeNumber", "()V"⟩, 14) := ⟨⟨by decide +kernel, by decide +kernel⟩, List.mem_of_getElem? (i := 289) (by decide +kernel), List.mem_of_getElem? (i := 570) (by decide +kernel), List.mem_of_getElem? (i := 571) (by decide +kernel)⟩
theorem lw_p6 : lw_okq (⟨"CoalVend$Reader", "readPactLine", "(LCoalVend$Pact;)V"⟩, 14) := ⟨⟨by decide +kernel, by decide +kernel⟩, List.mem_of_getElem? (i := 289) (by decide +kernel), List.mem_of_getElem? (i := 678) (by decide +kernel), List.mem_of_getElem? (i := 679) (by decide +kernel)⟩
theorem lw_p7 : lw_okq (⟨"CoalVend$Reader", "refuse", "(I)V"⟩, 14) := ⟨⟨by decide +kernel, by decide +kernel⟩, List.mem_of_getElem? (i := 289) (by decide +kernel), List.mem_of_getElem? (i := 682) (by decide +kernel), List.mem_of_getElem? (i := 683) (by decide +kernel)⟩
theorem lw_p8 : lw_okq (⟨"CoalVend$Reader", "expect", "(I)V"⟩, 14) := ⟨⟨by decide +kernel, by decide +kernel⟩, List.mem_of_getElem? (i := 289) (by decide +kernel), List.mem_of_getElem? (i := 690) (by decide +kernel), List.mem_of_getElem? (i := 691) (by decide +kernel)⟩
theorem lw_p9 : lw_okq (⟨"CoalVend$Reader", "readExpression", "()[I"⟩, 14) := ⟨⟨by decide +kernel, by decide +kernel⟩, List.mem_of_getElem? (i := 289) (by decide +kernel), List.mem_of_getElem? (i := 694) (by decide +kernel), List.mem_of_getElem? (i := 695) (by decide +kernel)⟩
theorem lw_p10 : lw_okq (⟨"CoalVend$Reader", "takePart", "()Z"⟩, 14) := ⟨⟨by decide +kernel, by decide +kernel⟩, List.mem_of_getElem? (i := 289) (by decide +kernel), List.mem_of_getElem? (i := 698) (by decide +kernel), List.mem_of_getElem? (i := 699) (by decide +kernel)⟩
theorem lw_p11 : lw_okq (⟨"CoalVend$Reader", "pushWaiting", "()V"⟩, 14) := ⟨⟨by decide +kernel, by decide +kernel⟩, List.mem_of_getElem? (i := 289) (by decide +kernel), List.mem_of_getElem? (i := 702) (by decide +kernel), List.mem_of_getElem? (i := 703) (by decide +kernel)⟩
theorem lw_p12 : lw_okq (⟨"CoalVend$Reader", "emit", "(I)V"⟩, 14) := ⟨⟨by decide +kernel, by decide +kernel⟩, List.mem_of_getElem? (i := 289) (by decide +kernel), List.mem_of_getElem? (i := 706) (by decide +kernel), List.mem_of_getElem? (i := 707) (by decide +kernel)⟩
theorem lw_p13 : lw_okq (⟨"CoalVend$Reader", "endPart", "()V"⟩, 14) := ⟨⟨by decide +kernel, by decide +kernel⟩, List.mem_of_getElem? (i := 289) (by decide +kernel), List.mem_of_getElem? (i := 710) (by decide +kernel), List.mem_of_getElem? (i := 711) (by decide +kernel)⟩
theorem lw_p14 : lw_okq (⟨"CoalVend$Reader", "closePart", "()Z"⟩, 14) := ⟨⟨by decide +kernel, by decide +kernel⟩, List.mem_of_getElem? (i := 289) (by decide +kernel), List.mem_of_getElem? (i := 714) (by decide +kernel), List.mem_of_getElem? (i := 715) (by decide +kernel)⟩
theorem lw_p15 : lw_okq (⟨"CoalVend$Reader", "takeOperator", "()Z"⟩, 14) := ⟨⟨by decide +kernel, by decide +kernel⟩, List.mem_of_getElem? (i := 289) (by decide +kernel), List.mem_of_getElem? (i := 719) (by decide +kernel), List.mem_of_getElem? (i := 720) (by decide +kernel)⟩
def lw_privs_1 : List (MethodName × Nat) := [(⟨"CoalVend", "isOwner", "(I)Z"⟩, 9), (⟨"CoalVend$Reader", "start", "()V"⟩, 14), (⟨"CoalVend$Reader", "next", "()V"⟩, 14), (⟨"CoalVend$Reader", "takeWord", "()V"⟩, 14), (⟨"CoalVend$Reader", "isWord", "(I)Z"⟩, 14), (⟨"CoalVend$Reader", "takeNumber", "()V"⟩, 14), (⟨"CoalVend$Reader", "readPactLine", "(LCoalVend$Pact;)V"⟩, 14), (⟨"CoalVend$Reader", "refuse", "(I)V"⟩, 14), (⟨"CoalVend$Reader", "expect", "(I)V"⟩, 14), (⟨"CoalVend$Reader", "readExpression", "()[I"⟩, 14), (⟨"CoalVend$Reader", "takePart", "()Z"⟩, 14), (⟨"CoalVend$Reader", "pushWaiting", "()V"⟩, 14), (⟨"CoalVend$Reader", "emit", "(I)V"⟩, 14), (⟨"CoalVend$Reader", "endPart", "()V"⟩, 14), (⟨"CoalVend$Reader", "closePart", "()Z"⟩, 14), (⟨"CoalVend$Reader", "takeOperator", "()Z"⟩, 14)]
theorem lw_r1 : ∀ q ∈ lw_privs_1, lw_okq q := List.forall_mem_cons.mpr ⟨lw_p0, List.forall_mem_cons.mpr ⟨lw_p1, List.forall_mem_cons.mpr ⟨lw_p2, List.forall_mem_cons.mpr ⟨lw_p3, List.forall_mem_cons.mpr ⟨lw_p4, List.forall_mem_cons.mpr ⟨lw_p5, List.forall_mem_cons.mpr ⟨lw_p6, List.forall_mem_cons.mpr ⟨lw_p7, List.forall_mem_cons.mpr ⟨lw_p8, List.forall_mem_cons.mpr ⟨lw_p9, List.forall_mem_cons.mpr ⟨lw_p10, List.forall_mem_cons.mpr ⟨lw_p11, List.forall_mem_cons.mpr ⟨lw_p12, List.forall_mem_cons.mpr ⟨lw_p13, List.forall_mem_cons.mpr ⟨lw_p14, List.forall_mem_cons.mpr ⟨lw_p15, fun _ h => absurd h List.not_mem_nil⟩⟩⟩⟩⟩⟩⟩⟩⟩⟩⟩⟩⟩⟩⟩⟩
theorem lw_p16 : lw_okq (⟨"CoalVend$Reader", "readNumber", "(I)I"⟩, 14) := ⟨⟨by decide +kernel, by decide +kernel⟩, List.mem_of_getElem? (i := 289) (by decide +kernel), List.mem_of_getElem? (i := 746) (by decide +kernel), List.mem_of_getElem? (i := 747) (by decide +kernel)⟩
theorem lw_p17 : lw_okq (⟨"CoalVend$Reader", "readVoidKind", "(I)I"⟩, 14) := ⟨⟨by decide +kernel, by decide +kernel⟩, List.mem_of_getElem? (i := 289) (by decide +kernel), List.mem_of_getElem? (i := 762) (by decide +kernel), List.mem_of_getElem? (i := 763) (by decide +kernel)⟩
theorem lw_p18 : lw_okq (⟨"CoalVend", "windOf", "(I)I"⟩, 9) := ⟨⟨by decide +kernel, by decide +kernel⟩, List.mem_of_getElem? (i := 28) (by decide +kernel), List.mem_of_getElem? (i := 772) (by decide +kernel), List.mem_of_getElem? (i := 773) (by decide +kernel)⟩
theorem lw_p19 : lw_okq (⟨"CoalVend$World", "renewPact", "()V"⟩, 17) := ⟨⟨by decide +kernel, by decide +kernel⟩, List.mem_of_getElem? (i := 36) (by decide +kernel), List.mem_of_getElem? (i := 780) (by decide +kernel), List.mem_of_getElem? (i := 781) (by decide +kernel)⟩
theorem lw_p20 : lw_okq (⟨"CoalVend$World", "tellFacts", "()V"⟩, 17) := ⟨⟨by decide +kernel, by decide +kernel⟩, List.mem_of_getElem? (i := 36) (by decide +kernel), List.mem_of_getElem? (i := 784) (by decide +kernel), List.mem_of_getElem? (i := 785) (by decide +kernel)⟩
theorem lw_p21 : lw_okq (⟨"CoalVend$Reckoner", "factOf", "(I)I"⟩, 2) := ⟨⟨by decide +kernel, by decide +kernel⟩, List.mem_of_getElem? (i := 88) (by decide +kernel), List.mem_of_getElem? (i := 827) (by decide +kernel), List.mem_of_getElem? (i := 828) (by decide +kernel)⟩
theorem lw_p22 : lw_okq (⟨"CoalVend$World", "weighOwners", "()I"⟩, 17) := ⟨⟨by decide +kernel, by decide +kernel⟩, List.mem_of_getElem? (i := 36) (by decide +kernel), List.mem_of_getElem? (i := 839) (by decide +kernel), List.mem_of_getElem? (i := 840) (by decide +kernel)⟩
theorem lw_p23 : lw_okq (⟨"CoalVend$World", "divideIssue", "(I)V"⟩, 17) := ⟨⟨by decide +kernel, by decide +kernel⟩, List.mem_of_getElem? (i := 36) (by decide +kernel), List.mem_of_getElem? (i := 848) (by decide +kernel), List.mem_of_getElem? (i := 849) (by decide +kernel)⟩
theorem lw_p24 : lw_okq (⟨"CoalVend$World", "giveRests", "(I)V"⟩, 17) := ⟨⟨by decide +kernel, by decide +kernel⟩, List.mem_of_getElem? (i := 36) (by decide +kernel), List.mem_of_getElem? (i := 855) (by decide +kernel), List.mem_of_getElem? (i := 856) (by decide +kernel)⟩
theorem lw_p25 : lw_okq (⟨"CoalVend$World", "loadShips", "()V"⟩, 17) := ⟨⟨by decide +kernel, by decide +kernel⟩, List.mem_of_getElem? (i := 36) (by decide +kernel), List.mem_of_getElem? (i := 859) (by decide +kernel), List.mem_of_getElem? (i := 860) (by decide +kernel)⟩
theorem lw_p26 : lw_okq (⟨"CoalVend$World", "lineUp", "()I"⟩, 17) := ⟨⟨by decide +kernel, by decide +kernel⟩, List.mem_of_getElem? (i := 36) (by decide +kernel), List.mem_of_getElem? (i := 863) (by decide +kernel), List.mem_of_getElem? (i := 864) (by decide +kernel)⟩
theorem lw_p27 : lw_okq (⟨"CoalVend$World", "loadShip", "(LCoalVend$Ship;)Z"⟩, 17) := ⟨⟨by decide +kernel, by decide +kernel⟩, List.mem_of_getElem? (i := 36) (by decide +kernel), List.mem_of_getElem? (i := 871) (by decide +kernel), List.mem_of_getElem? (i := 872) (by decide +kernel)⟩
theorem lw_p28 : lw_okq (⟨"CoalVend$World", "nextOwnerFor", "(I)I"⟩, 17) := ⟨⟨by decide +kernel, by decide +kernel⟩, List.mem_of_getElem? (i := 36) (by decide +kernel), List.mem_of_getElem? (i := 875) (by decide +kernel), List.mem_of_getElem? (i := 876) (by decide +kernel)⟩
theorem lw_p29 : lw_okq (⟨"CoalVend$World", "moveShips", "(I)V"⟩, 17) := ⟨⟨by decide +kernel, by decide +kernel⟩, List.mem_of_getElem? (i := 36) (by decide +kernel), List.mem_of_getElem? (i := 883) (by decide +kernel), List.mem_of_getElem? (i := 884) (by decide +kernel)⟩
theorem lw_p30 : lw_okq (⟨"CoalVend$World", "sellLoads", "(LCoalVend$Ship;)V"⟩, 17) := ⟨⟨by decide +kernel, by decide +kernel⟩, List.mem_of_getElem? (i := 36) (by decide +kernel), List.mem_of_getElem? (i := 892) (by decide +kernel), List.mem_of_getElem? (i := 893) (by decide +kernel)⟩
theorem lw_p31 : lw_okq (⟨"CoalVend$World", "keepMonth", "()V"⟩, 17) := ⟨⟨by decide +kernel, by decide +kernel⟩, List.mem_of_getElem? (i := 36) (by decide +kernel), List.mem_of_getElem? (i := 907) (by decide +kernel), List.mem_of_getElem? (i := 908) (by decide +kernel)⟩
def lw_privs_2 : List (MethodName × Nat) := [(⟨"CoalVend$Reader", "readNumber", "(I)I"⟩, 14), (⟨"CoalVend$Reader", "readVoidKind", "(I)I"⟩, 14), (⟨"CoalVend", "windOf", "(I)I"⟩, 9), (⟨"CoalVend$World", "renewPact", "()V"⟩, 17), (⟨"CoalVend$World", "tellFacts", "()V"⟩, 17), (⟨"CoalVend$Reckoner", "factOf", "(I)I"⟩, 2), (⟨"CoalVend$World", "weighOwners", "()I"⟩, 17), (⟨"CoalVend$World", "divideIssue", "(I)V"⟩, 17), (⟨"CoalVend$World", "giveRests", "(I)V"⟩, 17), (⟨"CoalVend$World", "loadShips", "()V"⟩, 17), (⟨"CoalVend$World", "lineUp", "()I"⟩, 17), (⟨"CoalVend$World", "loadShip", "(LCoalVend$Ship;)Z"⟩, 17), (⟨"CoalVend$World", "nextOwnerFor", "(I)I"⟩, 17), (⟨"CoalVend$World", "moveShips", "(I)V"⟩, 17), (⟨"CoalVend$World", "sellLoads", "(LCoalVend$Ship;)V"⟩, 17), (⟨"CoalVend$World", "keepMonth", "()V"⟩, 17)]
theorem lw_r2 : ∀ q ∈ lw_privs_2, lw_okq q := List.forall_mem_cons.mpr ⟨lw_p16, List.forall_mem_cons.mpr ⟨lw_p17, List.forall_mem_cons.mpr ⟨lw_p18, List.forall_mem_cons.mpr ⟨lw_p19, List.forall_mem_cons.mpr ⟨lw_p20, List.forall_mem_cons.mpr ⟨lw_p21, List.forall_mem_cons.mpr ⟨lw_p22, List.forall_mem_cons.mpr ⟨lw_p23, List.forall_mem_cons.mpr ⟨lw_p24, List.forall_mem_cons.mpr ⟨lw_p25, List.forall_mem_cons.mpr ⟨lw_p26, List.forall_mem_cons.mpr ⟨lw_p27, List.forall_mem_cons.mpr ⟨lw_p28, List.forall_mem_cons.mpr ⟨lw_p29, List.forall_mem_cons.mpr ⟨lw_p30, List.forall_mem_cons.mpr ⟨lw_p31, fun _ h => absurd h List.not_mem_nil⟩⟩⟩⟩⟩⟩⟩⟩⟩⟩⟩⟩⟩⟩⟩⟩
theorem lw_p32 : lw_okq (⟨"CoalVend", "isOver", "(I)Z"⟩, 9) := ⟨⟨by decide +kernel, by decide +kernel⟩, List.mem_of_getElem? (i := 28) (by decide +kernel), List.mem_of_getElem? (i := 928) (by decide +kernel), List.mem_of_getElem? (i := 929) (by decide +kernel)⟩
theorem lw_p33 : lw_okq (⟨"CoalVend", "provedOn", "(III)I"⟩, 9) := ⟨⟨by decide +kernel, by decide +kernel⟩, List.mem_of_getElem? (i := 28) (by decide +kernel), List.mem_of_getElem? (i := 957) (by decide +kernel), List.mem_of_getElem? (i := 958) (by decide +kernel)⟩
theorem lw_p34 : lw_okq (⟨"CoalVend", "isSet", "(I)Z"⟩, 9) := ⟨⟨by decide +kernel, by decide +kernel⟩, List.mem_of_getElem? (i := 28) (by decide +kernel), List.mem_of_getElem? (i := 974) (by decide +kernel), List.mem_of_getElem? (i := 975) (by decide +kernel)⟩
theorem lw_p35 : lw_okq (⟨"CoalVend$Sales", "explains", "(II)Z"⟩, 5) := ⟨⟨by decide +kernel, by decide +kernel⟩, List.mem_of_getElem? (i := 398) (by decide +kernel), List.mem_of_getElem? (i := 999) (by decide +kernel), List.mem_of_getElem? (i := 1000) (by decide +kernel)⟩
theorem lw_p36 : lw_okq (⟨"CoalVend", "runTrial", "(III)V"⟩, 9) := ⟨⟨by decide +kernel, by decide +kernel⟩, List.mem_of_getElem? (i := 28) (by decide +kernel), List.mem_of_getElem? (i := 1007) (by decide +kernel), List.mem_of_getElem? (i := 1008) (by decide +kernel)⟩
theorem lw_p37 : lw_okq (⟨"CoalVend", "leastTempted", "(II)I"⟩, 9) := ⟨⟨by decide +kernel, by decide +kernel⟩, List.mem_of_getElem? (i := 28) (by decide +kernel), List.mem_of_getElem? (i := 1037) (by decide +kernel), List.mem_of_getElem? (i := 1038) (by decide +kernel)⟩
theorem lw_p38 : lw_okq (⟨"CoalVend", "gainsWith", "(I)I"⟩, 9) := ⟨⟨by decide +kernel, by decide +kernel⟩, List.mem_of_getElem? (i := 28) (by decide +kernel), List.mem_of_getElem? (i := 1045) (by decide +kernel), List.mem_of_getElem? (i := 1046) (by decide +kernel)⟩
theorem lw_p39 : lw_okq (⟨"CoalVend", "isShip", "(I)Z"⟩, 9) := ⟨⟨by decide +kernel, by decide +kernel⟩, List.mem_of_getElem? (i := 28) (by decide +kernel), List.mem_of_getElem? (i := 1065) (by decide +kernel), List.mem_of_getElem? (i := 1066) (by decide +kernel)⟩
theorem lw_p40 : lw_okq (⟨"CoalVend", "countMore", "(I)I"⟩, 9) := ⟨⟨by decide +kernel, by decide +kernel⟩, List.mem_of_getElem? (i := 28) (by decide +kernel), List.mem_of_getElem? (i := 1077) (by decide +kernel), List.mem_of_getElem? (i := 1078) (by decide +kernel)⟩
theorem lw_p41 : lw_okq (⟨"java/lang/Throwable", "fillInStackTrace", "(I)Ljava/lang/Throwable;"⟩, 6) := ⟨⟨by decide +kernel, by decide +kernel⟩, List.mem_of_getElem? (i := 1127) (by decide +kernel), List.mem_of_getElem? (i := 1125) (by decide +kernel), List.mem_of_getElem? (i := 1126) (by decide +kernel)⟩
theorem lw_p42 : lw_okq (⟨"CoalVendModel", "isOwner", "(I)Z"⟩, 84) := ⟨⟨by decide +kernel, by decide +kernel⟩, List.mem_of_getElem? (i := 1172) (by decide +kernel), List.mem_of_getElem? (i := 1446) (by decide +kernel), List.mem_of_getElem? (i := 1447) (by decide +kernel)⟩
theorem lw_p43 : lw_okq (⟨"CoalVendModel", "priceAt", "(II)I"⟩, 84) := ⟨⟨by decide +kernel, by decide +kernel⟩, List.mem_of_getElem? (i := 1172) (by decide +kernel), List.mem_of_getElem? (i := 1479) (by decide +kernel), List.mem_of_getElem? (i := 1480) (by decide +kernel)⟩
theorem lw_p44 : lw_okq (⟨"CoalVendModel", "next", "()V"⟩, 84) := ⟨⟨by decide +kernel, by decide +kernel⟩, List.mem_of_getElem? (i := 1172) (by decide +kernel), List.mem_of_getElem? (i := 1493) (by decide +kernel), List.mem_of_getElem? (i := 1494) (by decide +kernel)⟩
theorem lw_p45 : lw_okq (⟨"CoalVendModel", "signAt", "(I)I"⟩, 84) := ⟨⟨by decide +kernel, by decide +kernel⟩, List.mem_of_getElem? (i := 1172) (by decide +kernel), List.mem_of_getElem? (i := 1497) (by decide +kernel), List.mem_of_getElem? (i := 1498) (by decide +kernel)⟩
theorem lw_p46 : lw_okq (⟨"CoalVendModel", "readsLine", "()Z"⟩, 84) := ⟨⟨by decide +kernel, by decide +kernel⟩, List.mem_of_getElem? (i := 1172) (by decide +kernel), List.mem_of_getElem? (i := 1503) (by decide +kernel), List.mem_of_getElem? (i := 1504) (by decide +kernel)⟩
theorem lw_p47 : lw_okq (⟨"CoalVendModel", "isWord", "(J)Z"⟩, 84) := ⟨⟨by decide +kernel, by decide +kernel⟩, List.mem_of_getElem? (i := 1172) (by decide +kernel), List.mem_of_getElem? (i := 1508) (by decide +kernel), List.mem_of_getElem? (i := 1509) (by decide +kernel)⟩
def lw_privs_3 : List (MethodName × Nat) := [(⟨"CoalVend", "isOver", "(I)Z"⟩, 9), (⟨"CoalVend", "provedOn", "(III)I"⟩, 9), (⟨"CoalVend", "isSet", "(I)Z"⟩, 9), (⟨"CoalVend$Sales", "explains", "(II)Z"⟩, 5), (⟨"CoalVend", "runTrial", "(III)V"⟩, 9), (⟨"CoalVend", "leastTempted", "(II)I"⟩, 9), (⟨"CoalVend", "gainsWith", "(I)I"⟩, 9), (⟨"CoalVend", "isShip", "(I)Z"⟩, 9), (⟨"CoalVend", "countMore", "(I)I"⟩, 9), (⟨"java/lang/Throwable", "fillInStackTrace", "(I)Ljava/lang/Throwable;"⟩, 6), (⟨"CoalVendModel", "isOwner", "(I)Z"⟩, 84), (⟨"CoalVendModel", "priceAt", "(II)I"⟩, 84), (⟨"CoalVendModel", "next", "()V"⟩, 84), (⟨"CoalVendModel", "signAt", "(I)I"⟩, 84), (⟨"CoalVendModel", "readsLine", "()Z"⟩, 84), (⟨"CoalVendModel", "isWord", "(J)Z"⟩, 84)]
theorem lw_r3 : ∀ q ∈ lw_privs_3, lw_okq q := List.forall_mem_cons.mpr ⟨lw_p32, List.forall_mem_cons.mpr ⟨lw_p33, List.forall_mem_cons.mpr ⟨lw_p34, List.forall_mem_cons.mpr ⟨lw_p35, List.forall_mem_cons.mpr ⟨lw_p36, List.forall_mem_cons.mpr ⟨lw_p37, List.forall_mem_cons.mpr ⟨lw_p38, List.forall_mem_cons.mpr ⟨lw_p39, List.forall_mem_cons.mpr ⟨lw_p40, List.forall_mem_cons.mpr ⟨lw_p41, List.forall_mem_cons.mpr ⟨lw_p42, List.forall_mem_cons.mpr ⟨lw_p43, List.forall_mem_cons.mpr ⟨lw_p44, List.forall_mem_cons.mpr ⟨lw_p45, List.forall_mem_cons.mpr ⟨lw_p46, List.forall_mem_cons.mpr ⟨lw_p47, fun _ h => absurd h List.not_mem_nil⟩⟩⟩⟩⟩⟩⟩⟩⟩⟩⟩⟩⟩⟩⟩⟩
theorem lw_p48 : lw_okq (⟨"CoalVendModel", "fails", "(I)Z"⟩, 84) := ⟨⟨by decide +kernel, by decide +kernel⟩, List.mem_of_getElem? (i := 1172) (by decide +kernel), List.mem_of_getElem? (i := 1517) (by decide +kernel), List.mem_of_getElem? (i := 1518) (by decide +kernel)⟩
theorem lw_p49 : lw_okq (⟨"CoalVendModel", "reads", "(I)Z"⟩, 84) := ⟨⟨by decide +kernel, by decide +kernel⟩, List.mem_of_getElem? (i := 1172) (by decide +kernel), List.mem_of_getElem? (i := 1521) (by decide +kernel), List.mem_of_getElem? (i := 1522) (by decide +kernel)⟩
theorem lw_p50 : lw_okq (⟨"CoalVendModel", "factAtHand", "()I"⟩, 84) := ⟨⟨by decide +kernel, by decide +kernel⟩, List.mem_of_getElem? (i := 1172) (by decide +kernel), List.mem_of_getElem? (i := 1525) (by decide +kernel), List.mem_of_getElem? (i := 1526) (by decide +kernel)⟩
theorem lw_p51 : lw_okq (⟨"CoalVendModel", "isSign", "(I)Z"⟩, 84) := ⟨⟨by decide +kernel, by decide +kernel⟩, List.mem_of_getElem? (i := 1172) (by decide +kernel), List.mem_of_getElem? (i := 1544) (by decide +kernel), List.mem_of_getElem? (i := 1545) (by decide +kernel)⟩
theorem lw_p52 : lw_okq (⟨"CoalVendModel", "puts", "(I)V"⟩, 84) := ⟨⟨by decide +kernel, by decide +kernel⟩, List.mem_of_getElem? (i := 1172) (by decide +kernel), List.mem_of_getElem? (i := 1548) (by decide +kernel), List.mem_of_getElem? (i := 1549) (by decide +kernel)⟩
theorem lw_p53 : lw_okq (⟨"CoalVendModel", "ends", "()Z"⟩, 84) := ⟨⟨by decide +kernel, by decide +kernel⟩, List.mem_of_getElem? (i := 1172) (by decide +kernel), List.mem_of_getElem? (i := 1556) (by decide +kernel), List.mem_of_getElem? (i := 1557) (by decide +kernel)⟩
theorem lw_p54 : lw_okq (⟨"CoalVendModel", "copies", "(II)V"⟩, 84) := ⟨⟨by decide +kernel, by decide +kernel⟩, List.mem_of_getElem? (i := 1172) (by decide +kernel), List.mem_of_getElem? (i := 1560) (by decide +kernel), List.mem_of_getElem? (i := 1561) (by decide +kernel)⟩
theorem lw_p55 : lw_okq (⟨"CoalVendModel", "day", "(IZI)V"⟩, 84) := ⟨⟨by decide +kernel, by decide +kernel⟩, List.mem_of_getElem? (i := 1172) (by decide +kernel), List.mem_of_getElem? (i := 1574) (by decide +kernel), List.mem_of_getElem? (i := 1575) (by decide +kernel)⟩
theorem lw_p56 : lw_okq (⟨"CoalVendModel", "begins", "(II)V"⟩, 84) := ⟨⟨by decide +kernel, by decide +kernel⟩, List.mem_of_getElem? (i := 1172) (by decide +kernel), List.mem_of_getElem? (i := 1578) (by decide +kernel), List.mem_of_getElem? (i := 1579) (by decide +kernel)⟩
theorem lw_p57 : lw_okq (⟨"CoalVendModel", "worth", "(III)I"⟩, 84) := ⟨⟨by decide +kernel, by decide +kernel⟩, List.mem_of_getElem? (i := 1172) (by decide +kernel), List.mem_of_getElem? (i := 1582) (by decide +kernel), List.mem_of_getElem? (i := 1583) (by decide +kernel)⟩
theorem lw_p58 : lw_okq (⟨"CoalVendModel", "opens", "(I)V"⟩, 84) := ⟨⟨by decide +kernel, by decide +kernel⟩, List.mem_of_getElem? (i := 1172) (by decide +kernel), List.mem_of_getElem? (i := 1586) (by decide +kernel), List.mem_of_getElem? (i := 1587) (by decide +kernel)⟩
theorem lw_p59 : lw_okq (⟨"CoalVendModel", "sums", "(I)V"⟩, 84) := ⟨⟨by decide +kernel, by decide +kernel⟩, List.mem_of_getElem? (i := 1172) (by decide +kernel), List.mem_of_getElem? (i := 1590) (by decide +kernel), List.mem_of_getElem? (i := 1591) (by decide +kernel)⟩
theorem lw_p60 : lw_okq (⟨"CoalVendModel", "tests", "(I)V"⟩, 84) := ⟨⟨by decide +kernel, by decide +kernel⟩, List.mem_of_getElem? (i := 1172) (by decide +kernel), List.mem_of_getElem? (i := 1594) (by decide +kernel), List.mem_of_getElem? (i := 1595) (by decide +kernel)⟩
theorem lw_p61 : lw_okq (⟨"CoalVendModel", "fact", "(II)I"⟩, 84) := ⟨⟨by decide +kernel, by decide +kernel⟩, List.mem_of_getElem? (i := 1172) (by decide +kernel), List.mem_of_getElem? (i := 1598) (by decide +kernel), List.mem_of_getElem? (i := 1599) (by decide +kernel)⟩
theorem lw_p62 : lw_okq (⟨"CoalVendModel", "isTold", "(III)Z"⟩, 84) := ⟨⟨by decide +kernel, by decide +kernel⟩, List.mem_of_getElem? (i := 1172) (by decide +kernel), List.mem_of_getElem? (i := 1602) (by decide +kernel), List.mem_of_getElem? (i := 1603) (by decide +kernel)⟩
theorem lw_p63 : lw_okq (⟨"CoalVendModel", "worthWithin", "(III)I"⟩, 84) := ⟨⟨by decide +kernel, by decide +kernel⟩, List.mem_of_getElem? (i := 1172) (by decide +kernel), List.mem_of_getElem? (i := 1606) (by decide +kernel), List.mem_of_getElem? (i := 1607) (by decide +kernel)⟩
def lw_privs_4 : List (MethodName × Nat) := [(⟨"CoalVendModel", "fails", "(I)Z"⟩, 84), (⟨"CoalVendModel", "reads", "(I)Z"⟩, 84), (⟨"CoalVendModel", "factAtHand", "()I"⟩, 84), (⟨"CoalVendModel", "isSign", "(I)Z"⟩, 84), (⟨"CoalVendModel", "puts", "(I)V"⟩, 84), (⟨"CoalVendModel", "ends", "()Z"⟩, 84), (⟨"CoalVendModel", "copies", "(II)V"⟩, 84), (⟨"CoalVendModel", "day", "(IZI)V"⟩, 84), (⟨"CoalVendModel", "begins", "(II)V"⟩, 84), (⟨"CoalVendModel", "worth", "(III)I"⟩, 84), (⟨"CoalVendModel", "opens", "(I)V"⟩, 84), (⟨"CoalVendModel", "sums", "(I)V"⟩, 84), (⟨"CoalVendModel", "tests", "(I)V"⟩, 84), (⟨"CoalVendModel", "fact", "(II)I"⟩, 84), (⟨"CoalVendModel", "isTold", "(III)Z"⟩, 84), (⟨"CoalVendModel", "worthWithin", "(III)I"⟩, 84)]
theorem lw_r4 : ∀ q ∈ lw_privs_4, lw_okq q := List.forall_mem_cons.mpr ⟨lw_p48, List.forall_mem_cons.mpr ⟨lw_p49, List.forall_mem_cons.mpr ⟨lw_p50, List.forall_mem_cons.mpr ⟨lw_p51, List.forall_mem_cons.mpr ⟨lw_p52, List.forall_mem_cons.mpr ⟨lw_p53, List.forall_mem_cons.mpr ⟨lw_p54, List.forall_mem_cons.mpr ⟨lw_p55, List.forall_mem_cons.mpr ⟨lw_p56, List.forall_mem_cons.mpr ⟨lw_p57, List.forall_mem_cons.mpr ⟨lw_p58, List.forall_mem_cons.mpr ⟨lw_p59, List.forall_mem_cons.mpr ⟨lw_p60, List.forall_mem_cons.mpr ⟨lw_p61, List.forall_mem_cons.mpr ⟨lw_p62, List.forall_mem_cons.mpr ⟨lw_p63, fun _ h => absurd h List.not_mem_nil⟩⟩⟩⟩⟩⟩⟩⟩⟩⟩⟩⟩⟩⟩⟩⟩
theorem lw_p64 : lw_okq (⟨"CoalVendModel", "better", "(III)Z"⟩, 84) := ⟨⟨by decide +kernel, by decide +kernel⟩, List.mem_of_getElem? (i := 1172) (by decide +kernel), List.mem_of_getElem? (i := 1611) (by decide +kernel), List.mem_of_getElem? (i := 1612) (by decide +kernel)⟩
theorem lw_p65 : lw_okq (⟨"CoalVendModel", "loads", "(I)Z"⟩, 84) := ⟨⟨by decide +kernel, by decide +kernel⟩, List.mem_of_getElem? (i := 1172) (by decide +kernel), List.mem_of_getElem? (i := 1615) (by decide +kernel), List.mem_of_getElem? (i := 1616) (by decide +kernel)⟩
theorem lw_p66 : lw_okq (⟨"CoalVendModel", "hasRoom", "(II)Z"⟩, 84) := ⟨⟨by decide +kernel, by decide +kernel⟩, List.mem_of_getElem? (i := 1172) (by decide +kernel), List.mem_of_getElem? (i := 1619) (by decide +kernel), List.mem_of_getElem? (i := 1620) (by decide +kernel)⟩
theorem lw_p67 : lw_okq (⟨"CoalVendModel", "ownerFor", "(II)I"⟩, 84) := ⟨⟨by decide +kernel, by decide +kernel⟩, List.mem_of_getElem? (i := 1172) (by decide +kernel), List.mem_of_getElem? (i := 1623) (by decide +kernel), List.mem_of_getElem? (i := 1624) (by decide +kernel)⟩
theorem lw_p68 : lw_okq (⟨"CoalVendModel", "isStopped", "(II)Z"⟩, 84) := ⟨⟨by decide +kernel, by decide +kernel⟩, List.mem_of_getElem? (i := 1172) (by decide +kernel), List.mem_of_getElem? (i := 1627) (by decide +kernel), List.mem_of_getElem? (i := 1628) (by decide +kernel)⟩
theorem lw_p69 : lw_okq (⟨"CoalVendModel", "sails", "(IIII)V"⟩, 84) := ⟨⟨by decide +kernel, by decide +kernel⟩, List.mem_of_getElem? (i := 1172) (by decide +kernel), List.mem_of_getElem? (i := 1631) (by decide +kernel), List.mem_of_getElem? (i := 1632) (by decide +kernel)⟩
theorem lw_p70 : lw_okq (⟨"CoalVendModel", "sells", "(II)V"⟩, 84) := ⟨⟨by decide +kernel, by decide +kernel⟩, List.mem_of_getElem? (i := 1172) (by decide +kernel), List.mem_of_getElem? (i := 1635) (by decide +kernel), List.mem_of_getElem? (i := 1636) (by decide +kernel)⟩
theorem lw_p71 : lw_okq (⟨"CoalVendModel", "isOver", "(II)Z"⟩, 84) := ⟨⟨by decide +kernel, by decide +kernel⟩, List.mem_of_getElem? (i := 1172) (by decide +kernel), List.mem_of_getElem? (i := 1643) (by decide +kernel), List.mem_of_getElem? (i := 1644) (by decide +kernel)⟩
theorem lw_p72 : lw_okq (⟨"CoalVendModel", "knownLow", "(III)I"⟩, 84) := ⟨⟨by decide +kernel, by decide +kernel⟩, List.mem_of_getElem? (i := 1172) (by decide +kernel), List.mem_of_getElem? (i := 1651) (by decide +kernel), List.mem_of_getElem? (i := 1652) (by decide +kernel)⟩
theorem lw_p73 : lw_okq (⟨"CoalVendModel", "knownHigh", "(III)I"⟩, 84) := ⟨⟨by decide +kernel, by decide +kernel⟩, List.mem_of_getElem? (i := 1172) (by decide +kernel), List.mem_of_getElem? (i := 1655) (by decide +kernel), List.mem_of_getElem? (i := 1656) (by decide +kernel)⟩
theorem lw_p74 : lw_okq (⟨"CoalVendModel", "provedOn", "(III)I"⟩, 84) := ⟨⟨by decide +kernel, by decide +kernel⟩, List.mem_of_getElem? (i := 1172) (by decide +kernel), List.mem_of_getElem? (i := 1663) (by decide +kernel), List.mem_of_getElem? (i := 1664) (by decide +kernel)⟩
theorem lw_p75 : lw_okq (⟨"CoalVendModel", "bads", "()I"⟩, 84) := ⟨⟨by decide +kernel, by decide +kernel⟩, List.mem_of_getElem? (i := 1172) (by decide +kernel), List.mem_of_getElem? (i := 1679) (by decide +kernel), List.mem_of_getElem? (i := 1680) (by decide +kernel)⟩
theorem lw_p76 : lw_okq (⟨"CoalVendModel", "isBad", "(I)Z"⟩, 84) := ⟨⟨by decide +kernel, by decide +kernel⟩, List.mem_of_getElem? (i := 1172) (by decide +kernel), List.mem_of_getElem? (i := 1683) (by decide +kernel), List.mem_of_getElem? (i := 1684) (by decide +kernel)⟩
theorem lw_p77 : lw_okq (⟨"CoalVendModel", "isSet", "(I)Z"⟩, 84) := ⟨⟨by decide +kernel, by decide +kernel⟩, List.mem_of_getElem? (i := 1172) (by decide +kernel), List.mem_of_getElem? (i := 1691) (by decide +kernel), List.mem_of_getElem? (i := 1692) (by decide +kernel)⟩
theorem lw_p78 : lw_okq (⟨"CoalVendModel", "tries", "(IIZI)V"⟩, 84) := ⟨⟨by decide +kernel, by decide +kernel⟩, List.mem_of_getElem? (i := 1172) (by decide +kernel), List.mem_of_getElem? (i := 1695) (by decide +kernel), List.mem_of_getElem? (i := 1696) (by decide +kernel)⟩
theorem lw_p79 : lw_okq (⟨"CoalVendModel", "isTempted", "(III)Z"⟩, 84) := ⟨⟨by decide +kernel, by decide +kernel⟩, List.mem_of_getElem? (i := 1172) (by decide +kernel), List.mem_of_getElem? (i := 1703) (by decide +kernel), List.mem_of_getElem? (i := 1704) (by decide +kernel)⟩
def lw_privs_5 : List (MethodName × Nat) := [(⟨"CoalVendModel", "better", "(III)Z"⟩, 84), (⟨"CoalVendModel", "loads", "(I)Z"⟩, 84), (⟨"CoalVendModel", "hasRoom", "(II)Z"⟩, 84), (⟨"CoalVendModel", "ownerFor", "(II)I"⟩, 84), (⟨"CoalVendModel", "isStopped", "(II)Z"⟩, 84), (⟨"CoalVendModel", "sails", "(IIII)V"⟩, 84), (⟨"CoalVendModel", "sells", "(II)V"⟩, 84), (⟨"CoalVendModel", "isOver", "(II)Z"⟩, 84), (⟨"CoalVendModel", "knownLow", "(III)I"⟩, 84), (⟨"CoalVendModel", "knownHigh", "(III)I"⟩, 84), (⟨"CoalVendModel", "provedOn", "(III)I"⟩, 84), (⟨"CoalVendModel", "bads", "()I"⟩, 84), (⟨"CoalVendModel", "isBad", "(I)Z"⟩, 84), (⟨"CoalVendModel", "isSet", "(I)Z"⟩, 84), (⟨"CoalVendModel", "tries", "(IIZI)V"⟩, 84), (⟨"CoalVendModel", "isTempted", "(III)Z"⟩, 84)]
theorem lw_r5 : ∀ q ∈ lw_privs_5, lw_okq q := List.forall_mem_cons.mpr ⟨lw_p64, List.forall_mem_cons.mpr ⟨lw_p65, List.forall_mem_cons.mpr ⟨lw_p66, List.forall_mem_cons.mpr ⟨lw_p67, List.forall_mem_cons.mpr ⟨lw_p68, List.forall_mem_cons.mpr ⟨lw_p69, List.forall_mem_cons.mpr ⟨lw_p70, List.forall_mem_cons.mpr ⟨lw_p71, List.forall_mem_cons.mpr ⟨lw_p72, List.forall_mem_cons.mpr ⟨lw_p73, List.forall_mem_cons.mpr ⟨lw_p74, List.forall_mem_cons.mpr ⟨lw_p75, List.forall_mem_cons.mpr ⟨lw_p76, List.forall_mem_cons.mpr ⟨lw_p77, List.forall_mem_cons.mpr ⟨lw_p78, List.forall_mem_cons.mpr ⟨lw_p79, fun _ h => absurd h List.not_mem_nil⟩⟩⟩⟩⟩⟩⟩⟩⟩⟩⟩⟩⟩⟩⟩⟩
theorem lw_p80 : lw_okq (⟨"CoalVendModel", "breakers", "()I"⟩, 84) := ⟨⟨by decide +kernel, by decide +kernel⟩, List.mem_of_getElem? (i := 1172) (by decide +kernel), List.mem_of_getElem? (i := 1711) (by decide +kernel), List.mem_of_getElem? (i := 1712) (by decide +kernel)⟩
theorem lw_p81 : lw_okq (⟨"CoalVendModel", "triedWith", "(I)I"⟩, 84) := ⟨⟨by decide +kernel, by decide +kernel⟩, List.mem_of_getElem? (i := 1172) (by decide +kernel), List.mem_of_getElem? (i := 1719) (by decide +kernel), List.mem_of_getElem? (i := 1720) (by decide +kernel)⟩
def lw_privs_6 : List (MethodName × Nat) := [(⟨"CoalVendModel", "breakers", "()I"⟩, 84), (⟨"CoalVendModel", "triedWith", "(I)I"⟩, 84)]
theorem lw_r6 : ∀ q ∈ lw_privs_6, lw_okq q := List.forall_mem_cons.mpr ⟨lw_p80, List.forall_mem_cons.mpr ⟨lw_p81, fun _ h => absurd h List.not_mem_nil⟩⟩
def lw_privs : List (MethodName × Nat) := lw_privs_1 ++ (lw_privs_2 ++ (lw_privs_3 ++ (lw_privs_4 ++ (lw_privs_5 ++ (lw_privs_6)))))
def lw_tbl : List Cond := k2_sels lw_privs ++ tables_1
theorem lw_privs_ok : ∀ q ∈ lw_privs, lw_okq q := by
  show ∀ q ∈ lw_privs_1 ++ (lw_privs_2 ++ (lw_privs_3 ++ (lw_privs_4 ++ (lw_privs_5 ++ (lw_privs_6))))), lw_okq q
  exact List.forall_mem_append.mpr ⟨lw_r1, List.forall_mem_append.mpr ⟨lw_r2, List.forall_mem_append.mpr ⟨lw_r3, List.forall_mem_append.mpr ⟨lw_r4, List.forall_mem_append.mpr ⟨lw_r5, lw_r6⟩⟩⟩⟩⟩

def RX0 : String := "CoalVend$City"
def TX0 : u_T := fun k => match k with
  | 0 => ("CoalVend$City", "stock", "I", false)
  | 1 => ("CoalVend$City", "want", "I", false)
  | 2 => ("CoalVend$City", "base", "I", false)
  | 3 => ("CoalVend$City", "hungryDays", "I", false)
  | _ => ("CoalVend$City", "lastHungry", "I", false)
def tyX0 : Nat → FieldType := fun k => match k with
  | 0 => .int
  | 1 => .int
  | 2 => .int
  | 3 => .int
  | _ => .int
theorem nmX0 : ∀ a, a < 5 → ∀ b, b < 5 → a ≠ b → (TX0 a).2.1 ≠ (TX0 b).2.1 := by decide +kernel
theorem tyX0_ok : ∀ k, k < 5 → parseFieldDescriptor (TX0 k).2.2.1 = some (tyX0 k) := by decide +kernel
abbrev cX0_init : ByteArray := prog_2_method_1_code
def yX0_init : MethodName := ⟨RX0, "<init>", "()V"⟩
abbrev cX0_priceOf : ByteArray := prog_2_method_2_code
def yX0_priceOf : MethodName := ⟨RX0, "priceOf", "(I)I"⟩
abbrev cX0_addLoads : ByteArray := prog_2_method_3_code
def yX0_addLoads : MethodName := ⟨RX0, "addLoads", "(I)V"⟩
abbrev cX0_useWant : ByteArray := prog_2_method_4_code
def yX0_useWant : MethodName := ⟨RX0, "useWant", "(Z)V"⟩
abbrev cX0_wasHungry : ByteArray := prog_2_method_5_code
def yX0_wasHungry : MethodName := ⟨RX0, "wasHungry", "()Z"⟩
abbrev cX0_hungryOfLast30 : ByteArray := prog_2_method_6_code
def yX0_hungryOfLast30 : MethodName := ⟨RX0, "hungryOfLast30", "()I"⟩
abbrev cX0_copyFrom : ByteArray := prog_2_method_7_code
def yX0_copyFrom : MethodName := ⟨RX0, "copyFrom", "(LCoalVend$City;)V"⟩
def RX1 : String := "CoalVend$Law"
def TX1 : u_T := fun k => match k with
  | 0 => ("CoalVend$Law", "voids", "I", true)
  | _ => ("CoalVend$Law", "duty", "I", true)
def tyX1 : Nat → FieldType := fun k => match k with
  | 0 => .int
  | _ => .int
theorem nmX1 : ∀ a, a < 2 → ∀ b, b < 2 → a ≠ b → (TX1 a).2.1 ≠ (TX1 b).2.1 := by decide +kernel
theorem tyX1_ok : ∀ k, k < 2 → parseFieldDescriptor (TX1 k).2.2.1 = some (tyX1 k) := by decide +kernel
abbrev cX1_init : ByteArray := prog_3_method_1_code
def yX1_init : MethodName := ⟨RX1, "<init>", "(II)V"⟩
abbrev cX1_isVoid : ByteArray := prog_3_method_2_code
def yX1_isVoid : MethodName := ⟨RX1, "isVoid", "(I)Z"⟩
def RX2 : String := "CoalVend$Months"
def TX2 : u_T := fun k => match k with
  | 0 => ("CoalVend$Months", "pacts", "[LCoalVend$Pact;", true)
  | 1 => ("CoalVend$Months", "vended", "[I", true)
  | 2 => ("CoalVend$Months", "allotted", "[I", true)
  | _ => ("CoalVend$Months", "fined", "[Z", true)
def tyX2 : Nat → FieldType := fun k => match k with
  | 0 => .array (.object "CoalVend$Pact")
  | 1 => .array .int
  | 2 => .array .int
  | _ => .array .boolean
theorem nmX2 : ∀ a, a < 4 → ∀ b, b < 4 → a ≠ b → (TX2 a).2.1 ≠ (TX2 b).2.1 := by decide +kernel
theorem tyX2_ok : ∀ k, k < 4 → parseFieldDescriptor (TX2 k).2.2.1 = some (tyX2 k) := by decide +kernel
abbrev cX2_init : ByteArray := prog_4_method_1_code
def yX2_init : MethodName := ⟨RX2, "<init>", "()V"⟩
abbrev cX2_place : ByteArray := prog_4_method_2_code
def yX2_place : MethodName := ⟨RX2, "place", "(II)I"⟩
abbrev cX2_keep : ByteArray := prog_4_method_3_code
def yX2_keep : MethodName := ⟨RX2, "keep", "(LCoalVend$World;)V"⟩
def RX3 : String := "CoalVend$Owner"
def TX3 : u_T := fun k => match k with
  | 0 => ("CoalVend$Owner", "quality", "I", false)
  | 1 => ("CoalVend$Owner", "might", "I", false)
  | 2 => ("CoalVend$Owner", "digs", "I", false)
  | 3 => ("CoalVend$Owner", "cost", "I", false)
  | 4 => ("CoalVend$Owner", "rebate", "I", false)
  | 5 => ("CoalVend$Owner", "breaker", "Z", false)
  | 6 => ("CoalVend$Owner", "stock", "I", false)
  | 7 => ("CoalVend$Owner", "vended", "I", false)
  | 8 => ("CoalVend$Owner", "allotment", "I", false)
  | 9 => ("CoalVend$Owner", "gain", "I", false)
  | 10 => ("CoalVend$Owner", "lastVended", "I", false)
  | 11 => ("CoalVend$Owner", "lastAllotted", "I", false)
  | 12 => ("CoalVend$Owner", "weight", "I", false)
  | _ => ("CoalVend$Owner", "claim", "I", false)
def tyX3 : Nat → FieldType := fun k => match k with
  | 0 => .int
  | 1 => .int
  | 2 => .int
  | 3 => .int
  | 4 => .int
  | 5 => .boolean
  | 6 => .int
  | 7 => .int
  | 8 => .int
  | 9 => .int
  | 10 => .int
  | 11 => .int
  | 12 => .int
  | _ => .int
theorem nmX3 : ∀ a, a < 14 → ∀ b, b < 14 → a ≠ b → (TX3 a).2.1 ≠ (TX3 b).2.1 := by decide +kernel
theorem tyX3_ok : ∀ k, k < 14 → parseFieldDescriptor (TX3 k).2.2.1 = some (tyX3 k) := by decide +kernel
abbrev cX3_init : ByteArray := prog_5_method_1_code
def yX3_init : MethodName := ⟨RX3, "<init>", "()V"⟩
abbrev cX3_copyFrom : ByteArray := prog_5_method_2_code
def yX3_copyFrom : MethodName := ⟨RX3, "copyFrom", "(LCoalVend$Owner;)V"⟩
def RX4 : String := "CoalVend$Pact"
def TX4 : u_T := fun k => match k with
  | 0 => ("CoalVend$Pact", "weight", "[I", false)
  | 1 => ("CoalVend$Pact", "issue", "[I", false)
  | 2 => ("CoalVend$Pact", "fine", "[I", false)
  | 3 => ("CoalVend$Pact", "fall", "[I", false)
  | 4 => ("CoalVend$Pact", "falls", "I", false)
  | 5 => ("CoalVend$Pact", "rests", "I", false)
  | _ => ("CoalVend$Pact", "bar", "I", false)
def tyX4 : Nat → FieldType := fun k => match k with
  | 0 => .array .int
  | 1 => .array .int
  | 2 => .array .int
  | 3 => .array .int
  | 4 => .int
  | 5 => .int
  | _ => .int
theorem nmX4 : ∀ a, a < 7 → ∀ b, b < 7 → a ≠ b → (TX4 a).2.1 ≠ (TX4 b).2.1 := by decide +kernel
theorem tyX4_ok : ∀ k, k < 7 → parseFieldDescriptor (TX4 k).2.2.1 = some (tyX4 k) := by decide +kernel
abbrev cX4_init : ByteArray := prog_6_method_1_code
def yX4_init : MethodName := ⟨RX4, "<init>", "()V"⟩
abbrev cX4_hasTold : ByteArray := prog_6_method_2_code
def yX4_hasTold : MethodName := ⟨RX4, "hasTold", "(I)Z"⟩
abbrev cX4_setLine : ByteArray := prog_6_method_3_code
def yX4_setLine : MethodName := ⟨RX4, "setLine", "(I[I)V"⟩
abbrev cX4_addFall : ByteArray := prog_6_method_4_code
def yX4_addFall : MethodName := ⟨RX4, "addFall", "([I)V"⟩
def RX5 : String := "CoalVend$Reader"
def TX5 : u_T := fun k => match k with
  | 0 => ("CoalVend$Reader", "signs", "[C", true)
  | 1 => ("CoalVend$Reader", "length", "I", false)
  | 2 => ("CoalVend$Reader", "fault", "I", false)
  | 3 => ("CoalVend$Reader", "token", "I", false)
  | 4 => ("CoalVend$Reader", "number", "I", false)
  | 5 => ("CoalVend$Reader", "place", "I", false)
  | 6 => ("CoalVend$Reader", "behind", "I", false)
  | 7 => ("CoalVend$Reader", "code", "[I", true)
  | 8 => ("CoalVend$Reader", "codeLength", "I", false)
  | 9 => ("CoalVend$Reader", "waiting", "[I", true)
  | 10 => ("CoalVend$Reader", "waits", "I", false)
  | 11 => ("CoalVend$Reader", "wantsPart", "Z", false)
  | 12 => ("CoalVend$Reader", "open", "I", false)
  | _ => ("CoalVend$Reader", "around", "I", false)
def tyX5 : Nat → FieldType := fun k => match k with
  | 0 => .array .char
  | 1 => .int
  | 2 => .int
  | 3 => .int
  | 4 => .int
  | 5 => .int
  | 6 => .int
  | 7 => .array .int
  | 8 => .int
  | 9 => .array .int
  | 10 => .int
  | 11 => .boolean
  | 12 => .int
  | _ => .int
theorem nmX5 : ∀ a, a < 14 → ∀ b, b < 14 → a ≠ b → (TX5 a).2.1 ≠ (TX5 b).2.1 := by decide +kernel
theorem tyX5_ok : ∀ k, k < 14 → parseFieldDescriptor (TX5 k).2.2.1 = some (tyX5 k) := by decide +kernel
abbrev cX5_init : ByteArray := prog_7_method_1_code
def yX5_init : MethodName := ⟨RX5, "<init>", "()V"⟩
abbrev cX5_addBytes : ByteArray := prog_7_method_2_code
def yX5_addBytes : MethodName := ⟨RX5, "addBytes", "(J)V"⟩
abbrev cX5_readPact : ByteArray := prog_7_method_3_code
def yX5_readPact : MethodName := ⟨RX5, "readPact", "()LCoalVend$Pact;"⟩
abbrev cX5_readPactLine : ByteArray := prog_7_method_4_code
def yX5_readPactLine : MethodName := ⟨RX5, "readPactLine", "(LCoalVend$Pact;)V"⟩
abbrev cX5_readLaw : ByteArray := prog_7_method_5_code
def yX5_readLaw : MethodName := ⟨RX5, "readLaw", "()LCoalVend$Law;"⟩
abbrev cX5_readVoidKind : ByteArray := prog_7_method_6_code
def yX5_readVoidKind : MethodName := ⟨RX5, "readVoidKind", "(I)I"⟩
abbrev cX5_readNumber : ByteArray := prog_7_method_7_code
def yX5_readNumber : MethodName := ⟨RX5, "readNumber", "(I)I"⟩
abbrev cX5_expect : ByteArray := prog_7_method_8_code
def yX5_expect : MethodName := ⟨RX5, "expect", "(I)V"⟩
abbrev cX5_refuse : ByteArray := prog_7_method_9_code
def yX5_refuse : MethodName := ⟨RX5, "refuse", "(I)V"⟩
abbrev cX5_readExpression : ByteArray := prog_7_method_10_code
def yX5_readExpression : MethodName := ⟨RX5, "readExpression", "()[I"⟩
abbrev cX5_takePart : ByteArray := prog_7_method_11_code
def yX5_takePart : MethodName := ⟨RX5, "takePart", "()Z"⟩
abbrev cX5_closePart : ByteArray := prog_7_method_12_code
def yX5_closePart : MethodName := ⟨RX5, "closePart", "()Z"⟩
abbrev cX5_endPart : ByteArray := prog_7_method_13_code
def yX5_endPart : MethodName := ⟨RX5, "endPart", "()V"⟩
abbrev cX5_takeOperator : ByteArray := prog_7_method_14_code
def yX5_takeOperator : MethodName := ⟨RX5, "takeOperator", "()Z"⟩
abbrev cX5_rankOf : ByteArray := prog_7_method_15_code
def yX5_rankOf : MethodName := ⟨RX5, "rankOf", "(I)I"⟩
abbrev cX5_pushWaiting : ByteArray := prog_7_method_16_code
def yX5_pushWaiting : MethodName := ⟨RX5, "pushWaiting", "()V"⟩
abbrev cX5_emit : ByteArray := prog_7_method_17_code
def yX5_emit : MethodName := ⟨RX5, "emit", "(I)V"⟩
abbrev cX5_start : ByteArray := prog_7_method_18_code
def yX5_start : MethodName := ⟨RX5, "start", "()V"⟩
abbrev cX5_next : ByteArray := prog_7_method_19_code
def yX5_next : MethodName := ⟨RX5, "next", "()V"⟩
abbrev cX5_isLetter : ByteArray := prog_7_method_20_code
def yX5_isLetter : MethodName := ⟨RX5, "isLetter", "(C)Z"⟩
abbrev cX5_isDigit : ByteArray := prog_7_method_21_code
def yX5_isDigit : MethodName := ⟨RX5, "isDigit", "(C)Z"⟩
abbrev cX5_takeNumber : ByteArray := prog_7_method_22_code
def yX5_takeNumber : MethodName := ⟨RX5, "takeNumber", "()V"⟩
abbrev cX5_takeWord : ByteArray := prog_7_method_23_code
def yX5_takeWord : MethodName := ⟨RX5, "takeWord", "()V"⟩
abbrev cX5_isWord : ByteArray := prog_7_method_24_code
def yX5_isWord : MethodName := ⟨RX5, "isWord", "(I)Z"⟩
def RX6 : String := "CoalVend$Reckoner"
def TX6 : u_T := fun k => match k with
  | 0 => ("CoalVend$Reckoner", "facts", "[I", true)
  | _ => ("CoalVend$Reckoner", "stack", "[I", true)
def tyX6 : Nat → FieldType := fun k => match k with
  | 0 => .array .int
  | _ => .array .int
theorem nmX6 : ∀ a, a < 2 → ∀ b, b < 2 → a ≠ b → (TX6 a).2.1 ≠ (TX6 b).2.1 := by decide +kernel
theorem tyX6_ok : ∀ k, k < 2 → parseFieldDescriptor (TX6 k).2.2.1 = some (tyX6 k) := by decide +kernel
abbrev cX6_init : ByteArray := prog_8_method_1_code
def yX6_init : MethodName := ⟨RX6, "<init>", "()V"⟩
abbrev cX6_setFact : ByteArray := prog_8_method_2_code
def yX6_setFact : MethodName := ⟨RX6, "setFact", "(II)V"⟩
abbrev cX6_clear : ByteArray := prog_8_method_3_code
def yX6_clear : MethodName := ⟨RX6, "clear", "()V"⟩
abbrev cX6_setOwner : ByteArray := prog_8_method_4_code
def yX6_setOwner : MethodName := ⟨RX6, "setOwner", "(LCoalVend$Owner;)V"⟩
abbrev cX6_reckon : ByteArray := prog_8_method_5_code
def yX6_reckon : MethodName := ⟨RX6, "reckon", "([II)I"⟩
abbrev cX6_factOf : ByteArray := prog_8_method_6_code
def yX6_factOf : MethodName := ⟨RX6, "factOf", "(I)I"⟩
abbrev cX6_combine : ByteArray := prog_8_method_7_code
def yX6_combine : MethodName := ⟨RX6, "combine", "(III)I"⟩
def RX7 : String := "CoalVend$Reports"
def TX7 : u_T := fun k => match k with
  | 0 => ("CoalVend$Reports", "count", "I", false)
  | 1 => ("CoalVend$Reports", "low", "I", false)
  | 2 => ("CoalVend$Reports", "high", "I", false)
  | 3 => ("CoalVend$Reports", "places", "[I", true)
  | 4 => ("CoalVend$Reports", "days", "[I", true)
  | 5 => ("CoalVend$Reports", "lows", "[I", true)
  | _ => ("CoalVend$Reports", "highs", "[I", true)
def tyX7 : Nat → FieldType := fun k => match k with
  | 0 => .int
  | 1 => .int
  | 2 => .int
  | 3 => .array .int
  | 4 => .array .int
  | 5 => .array .int
  | _ => .array .int
theorem nmX7 : ∀ a, a < 7 → ∀ b, b < 7 → a ≠ b → (TX7 a).2.1 ≠ (TX7 b).2.1 := by decide +kernel
theorem tyX7_ok : ∀ k, k < 7 → parseFieldDescriptor (TX7 k).2.2.1 = some (tyX7 k) := by decide +kernel
abbrev cX7_init : ByteArray := prog_9_method_1_code
def yX7_init : MethodName := ⟨RX7, "<init>", "()V"⟩
abbrev cX7_add : ByteArray := prog_9_method_2_code
def yX7_add : MethodName := ⟨RX7, "add", "(IIII)I"⟩
abbrev cX7_sumUp : ByteArray := prog_9_method_3_code
def yX7_sumUp : MethodName := ⟨RX7, "sumUp", "(II)V"⟩
def RX8 : String := "CoalVend$Sales"
def TX8 : u_T := fun k => match k with
  | 0 => ("CoalVend$Sales", "count", "I", false)
  | 1 => ("CoalVend$Sales", "sets", "[I", true)
  | 2 => ("CoalVend$Sales", "dues", "[I", true)
  | 3 => ("CoalVend$Sales", "paids", "[I", true)
  | _ => ("CoalVend$Sales", "badSets", "[I", true)
def tyX8 : Nat → FieldType := fun k => match k with
  | 0 => .int
  | 1 => .array .int
  | 2 => .array .int
  | 3 => .array .int
  | _ => .array .int
theorem nmX8 : ∀ a, a < 5 → ∀ b, b < 5 → a ≠ b → (TX8 a).2.1 ≠ (TX8 b).2.1 := by decide +kernel
theorem tyX8_ok : ∀ k, k < 5 → parseFieldDescriptor (TX8 k).2.2.1 = some (tyX8 k) := by decide +kernel
abbrev cX8_init : ByteArray := prog_10_method_1_code
def yX8_init : MethodName := ⟨RX8, "<init>", "()V"⟩
abbrev cX8_add : ByteArray := prog_10_method_2_code
def yX8_add : MethodName := ⟨RX8, "add", "(III)I"⟩
abbrev cX8_countBad : ByteArray := prog_10_method_3_code
def yX8_countBad : MethodName := ⟨RX8, "countBad", "(I)I"⟩
abbrev cX8_inEachFewest : ByteArray := prog_10_method_4_code
def yX8_inEachFewest : MethodName := ⟨RX8, "inEachFewest", "(I)I"⟩
abbrev cX8_explains : ByteArray := prog_10_method_5_code
def yX8_explains : MethodName := ⟨RX8, "explains", "(II)Z"⟩
def RX9 : String := "CoalVend$Ship"
def TX9 : u_T := fun k => match k with
  | 0 => ("CoalVend$Ship", "room", "I", false)
  | 1 => ("CoalVend$Ship", "least", "I", false)
  | 2 => ("CoalVend$Ship", "place", "I", false)
  | 3 => ("CoalVend$Ship", "left", "I", false)
  | 4 => ("CoalVend$Ship", "came", "I", false)
  | 5 => ("CoalVend$Ship", "loads", "I", false)
  | _ => ("CoalVend$Ship", "cargo", "[I", true)
def tyX9 : Nat → FieldType := fun k => match k with
  | 0 => .int
  | 1 => .int
  | 2 => .int
  | 3 => .int
  | 4 => .int
  | 5 => .int
  | _ => .array .int
theorem nmX9 : ∀ a, a < 7 → ∀ b, b < 7 → a ≠ b → (TX9 a).2.1 ≠ (TX9 b).2.1 := by decide +kernel
theorem tyX9_ok : ∀ k, k < 7 → parseFieldDescriptor (TX9 k).2.2.1 = some (tyX9 k) := by decide +kernel
abbrev cX9_init : ByteArray := prog_11_method_1_code
def yX9_init : MethodName := ⟨RX9, "<init>", "()V"⟩
abbrev cX9_hasRoom : ByteArray := prog_11_method_2_code
def yX9_hasRoom : MethodName := ⟨RX9, "hasRoom", "()Z"⟩
abbrev cX9_take : ByteArray := prog_11_method_3_code
def yX9_take : MethodName := ⟨RX9, "take", "(I)V"⟩
abbrev cX9_comesToCity : ByteArray := prog_11_method_4_code
def yX9_comesToCity : MethodName := ⟨RX9, "comesToCity", "(II)Z"⟩
abbrev cX9_copyFrom : ByteArray := prog_11_method_5_code
def yX9_copyFrom : MethodName := ⟨RX9, "copyFrom", "(LCoalVend$Ship;)V"⟩
def RX10 : String := "CoalVend$World"
def TX10 : u_T := fun k => match k with
  | 0 => ("CoalVend$World", "now", "I", false)
  | 1 => ("CoalVend$World", "owners", "[LCoalVend$Owner;", true)
  | 2 => ("CoalVend$World", "ownerCount", "I", false)
  | 3 => ("CoalVend$World", "ships", "[LCoalVend$Ship;", true)
  | 4 => ("CoalVend$World", "shipCount", "I", false)
  | 5 => ("CoalVend$World", "keels", "I", false)
  | 6 => ("CoalVend$World", "turn", "I", false)
  | 7 => ("CoalVend$World", "sold", "I", false)
  | 8 => ("CoalVend$World", "city", "LCoalVend$City;", true)
  | 9 => ("CoalVend$World", "law", "LCoalVend$Law;", false)
  | 10 => ("CoalVend$World", "nextLaw", "LCoalVend$Law;", false)
  | 11 => ("CoalVend$World", "pact", "LCoalVend$Pact;", false)
  | 12 => ("CoalVend$World", "inHand", "LCoalVend$Pact;", false)
  | 13 => ("CoalVend$World", "issue", "I", false)
  | 14 => ("CoalVend$World", "issueTried", "I", false)
  | 15 => ("CoalVend$World", "reckoner", "LCoalVend$Reckoner;", true)
  | _ => ("CoalVend$World", "waiting", "[I", true)
def tyX10 : Nat → FieldType := fun k => match k with
  | 0 => .int
  | 1 => .array (.object "CoalVend$Owner")
  | 2 => .int
  | 3 => .array (.object "CoalVend$Ship")
  | 4 => .int
  | 5 => .int
  | 6 => .int
  | 7 => .int
  | 8 => .object "CoalVend$City"
  | 9 => .object "CoalVend$Law"
  | 10 => .object "CoalVend$Law"
  | 11 => .object "CoalVend$Pact"
  | 12 => .object "CoalVend$Pact"
  | 13 => .int
  | 14 => .int
  | 15 => .object "CoalVend$Reckoner"
  | _ => .array .int
theorem nmX10 : ∀ a, a < 17 → ∀ b, b < 17 → a ≠ b → (TX10 a).2.1 ≠ (TX10 b).2.1 := by decide +kernel
theorem tyX10_ok : ∀ k, k < 17 → parseFieldDescriptor (TX10 k).2.2.1 = some (tyX10 k) := by decide +kernel
abbrev cX10_init : ByteArray := prog_12_method_1_code
def yX10_init : MethodName := ⟨RX10, "<init>", "()V"⟩
abbrev cX10_copyFrom : ByteArray := prog_12_method_2_code
def yX10_copyFrom : MethodName := ⟨RX10, "copyFrom", "(LCoalVend$World;)V"⟩
abbrev cX10_breakerSet : ByteArray := prog_12_method_3_code
def yX10_breakerSet : MethodName := ⟨RX10, "breakerSet", "()I"⟩
abbrev cX10_setBreakers : ByteArray := prog_12_method_4_code
def yX10_setBreakers : MethodName := ⟨RX10, "setBreakers", "(I)V"⟩
abbrev cX10_barNow : ByteArray := prog_12_method_5_code
def yX10_barNow : MethodName := ⟨RX10, "barNow", "()I"⟩
abbrev cX10_fineBy : ByteArray := prog_12_method_6_code
def yX10_fineBy : MethodName := ⟨RX10, "fineBy", "(LCoalVend$Pact;LCoalVend$Owner;I)I"⟩
abbrev cX10_passDay : ByteArray := prog_12_method_7_code
def yX10_passDay : MethodName := ⟨RX10, "passDay", "(I)V"⟩
abbrev cX10_renewPact : ByteArray := prog_12_method_8_code
def yX10_renewPact : MethodName := ⟨RX10, "renewPact", "()V"⟩
abbrev cX10_tellFacts : ByteArray := prog_12_method_9_code
def yX10_tellFacts : MethodName := ⟨RX10, "tellFacts", "()V"⟩
abbrev cX10_limited : ByteArray := prog_12_method_10_code
def yX10_limited : MethodName := ⟨RX10, "limited", "(I)I"⟩
abbrev cX10_weighOwners : ByteArray := prog_12_method_11_code
def yX10_weighOwners : MethodName := ⟨RX10, "weighOwners", "()I"⟩
abbrev cX10_divideIssue : ByteArray := prog_12_method_12_code
def yX10_divideIssue : MethodName := ⟨RX10, "divideIssue", "(I)V"⟩
abbrev cX10_claimOf : ByteArray := prog_12_method_13_code
def yX10_claimOf : MethodName := ⟨RX10, "claimOf", "(LCoalVend$Owner;II)I"⟩
abbrev cX10_giveRests : ByteArray := prog_12_method_14_code
def yX10_giveRests : MethodName := ⟨RX10, "giveRests", "(I)V"⟩
abbrev cX10_loadShips : ByteArray := prog_12_method_15_code
def yX10_loadShips : MethodName := ⟨RX10, "loadShips", "()V"⟩
abbrev cX10_lineUp : ByteArray := prog_12_method_16_code
def yX10_lineUp : MethodName := ⟨RX10, "lineUp", "()I"⟩
abbrev cX10_loadShip : ByteArray := prog_12_method_17_code
def yX10_loadShip : MethodName := ⟨RX10, "loadShip", "(LCoalVend$Ship;)Z"⟩
abbrev cX10_nextOwnerFor : ByteArray := prog_12_method_18_code
def yX10_nextOwnerFor : MethodName := ⟨RX10, "nextOwnerFor", "(I)I"⟩
abbrev cX10_moveShips : ByteArray := prog_12_method_19_code
def yX10_moveShips : MethodName := ⟨RX10, "moveShips", "(I)V"⟩
abbrev cX10_sellLoads : ByteArray := prog_12_method_20_code
def yX10_sellLoads : MethodName := ⟨RX10, "sellLoads", "(LCoalVend$Ship;)V"⟩
abbrev cX10_keepMonth : ByteArray := prog_12_method_21_code
def yX10_keepMonth : MethodName := ⟨RX10, "keepMonth", "()V"⟩
def RX11 : String := "CoalVend"
def TX11 : u_T := fun k => match k with
  | 0 => ("CoalVend", "world", "LCoalVend$World;", true)
  | 1 => ("CoalVend", "trial", "LCoalVend$World;", true)
  | 2 => ("CoalVend", "reader", "LCoalVend$Reader;", true)
  | 3 => ("CoalVend", "months", "LCoalVend$Months;", true)
  | 4 => ("CoalVend", "reports", "LCoalVend$Reports;", true)
  | 5 => ("CoalVend", "sales", "LCoalVend$Sales;", true)
  | 6 => ("CoalVend", "winds", "[B", true)
  | 7 => ("CoalVend", "windsTold", "I", false)
  | _ => ("CoalVend", "gainsUnbroken", "[I", true)
def tyX11 : Nat → FieldType := fun k => match k with
  | 0 => .object "CoalVend$World"
  | 1 => .object "CoalVend$World"
  | 2 => .object "CoalVend$Reader"
  | 3 => .object "CoalVend$Months"
  | 4 => .object "CoalVend$Reports"
  | 5 => .object "CoalVend$Sales"
  | 6 => .array .byte
  | 7 => .int
  | _ => .array .int
theorem nmX11 : ∀ a, a < 9 → ∀ b, b < 9 → a ≠ b → (TX11 a).2.1 ≠ (TX11 b).2.1 := by decide +kernel
theorem tyX11_ok : ∀ k, k < 9 → parseFieldDescriptor (TX11 k).2.2.1 = some (tyX11 k) := by decide +kernel
abbrev cX11_init : ByteArray := prog_1_method_1_code
def yX11_init : MethodName := ⟨RX11, "<init>", "()V"⟩
abbrev cX11_owner : ByteArray := prog_1_method_2_code
def yX11_owner : MethodName := ⟨RX11, "owner", "(IIII)I"⟩
abbrev cX11_digs : ByteArray := prog_1_method_3_code
def yX11_digs : MethodName := ⟨RX11, "digs", "(II)Z"⟩
abbrev cX11_rebate : ByteArray := prog_1_method_4_code
def yX11_rebate : MethodName := ⟨RX11, "rebate", "(II)Z"⟩
abbrev cX11_breaker : ByteArray := prog_1_method_5_code
def yX11_breaker : MethodName := ⟨RX11, "breaker", "(IZ)Z"⟩
abbrev cX11_ship : ByteArray := prog_1_method_6_code
def yX11_ship : MethodName := ⟨RX11, "ship", "(II)I"⟩
abbrev cX11_keels : ByteArray := prog_1_method_7_code
def yX11_keels : MethodName := ⟨RX11, "keels", "(I)Z"⟩
abbrev cX11_winds : ByteArray := prog_1_method_8_code
def yX11_winds : MethodName := ⟨RX11, "winds", "(II)I"⟩
abbrev cX11_city : ByteArray := prog_1_method_9_code
def yX11_city : MethodName := ⟨RX11, "city", "(III)Z"⟩
abbrev cX11_feed : ByteArray := prog_1_method_10_code
def yX11_feed : MethodName := ⟨RX11, "feed", "(JJJ)I"⟩
abbrev cX11_pact : ByteArray := prog_1_method_11_code
def yX11_pact : MethodName := ⟨RX11, "pact", "()I"⟩
abbrev cX11_law : ByteArray := prog_1_method_12_code
def yX11_law : MethodName := ⟨RX11, "law", "()I"⟩
abbrev cX11_days : ByteArray := prog_1_method_13_code
def yX11_days : MethodName := ⟨RX11, "days", "(I)I"⟩
abbrev cX11_price : ByteArray := prog_1_method_14_code
def yX11_price : MethodName := ⟨RX11, "price", "(I)I"⟩
abbrev cX11_report : ByteArray := prog_1_method_15_code
def yX11_report : MethodName := ⟨RX11, "report", "(IIII)I"⟩
abbrev cX11_known : ByteArray := prog_1_method_16_code
def yX11_known : MethodName := ⟨RX11, "known", "(IIII)I"⟩
abbrev cX11_proved : ByteArray := prog_1_method_17_code
def yX11_proved : MethodName := ⟨RX11, "proved", "(III)I"⟩
abbrev cX11_fine : ByteArray := prog_1_method_18_code
def yX11_fine : MethodName := ⟨RX11, "fine", "(II)I"⟩
abbrev cX11_sale : ByteArray := prog_1_method_19_code
def yX11_sale : MethodName := ⟨RX11, "sale", "(III)I"⟩
abbrev cX11_named : ByteArray := prog_1_method_20_code
def yX11_named : MethodName := ⟨RX11, "named", "(I)I"⟩
abbrev cX11_whatIf : ByteArray := prog_1_method_21_code
def yX11_whatIf : MethodName := ⟨RX11, "whatIf", "(III)I"⟩
abbrev cX11_tempted : ByteArray := prog_1_method_22_code
def yX11_tempted : MethodName := ⟨RX11, "tempted", "(III)I"⟩
abbrev cX11_slide : ByteArray := prog_1_method_23_code
def yX11_slide : MethodName := ⟨RX11, "slide", "(II)I"⟩
abbrev cX11_tried : ByteArray := prog_1_method_24_code
def yX11_tried : MethodName := ⟨RX11, "tried", "(I)I"⟩
abbrev cX11_best : ByteArray := prog_1_method_25_code
def yX11_best : MethodName := ⟨RX11, "best", "(I)I"⟩
abbrev cX11_foretold : ByteArray := prog_1_method_26_code
def yX11_foretold : MethodName := ⟨RX11, "foretold", "(Z)I"⟩
abbrev cX11_look : ByteArray := prog_1_method_27_code
def yX11_look : MethodName := ⟨RX11, "look", "(II)I"⟩
abbrev cX11_month : ByteArray := prog_1_method_28_code
def yX11_month : MethodName := ⟨RX11, "month", "(III)I"⟩
abbrev cX11_lies : ByteArray := prog_1_method_29_code
def yX11_lies : MethodName := ⟨RX11, "lies", "(II)I"⟩
abbrev cX11_load : ByteArray := prog_1_method_30_code
def yX11_load : MethodName := ⟨RX11, "load", "(II)I"⟩
abbrev cX11_count : ByteArray := prog_1_method_31_code
def yX11_count : MethodName := ⟨RX11, "count", "(I)I"⟩
abbrev cX11_countMore : ByteArray := prog_1_method_32_code
def yX11_countMore : MethodName := ⟨RX11, "countMore", "(I)I"⟩
abbrev cX11_isWithin : ByteArray := prog_1_method_33_code
def yX11_isWithin : MethodName := ⟨RX11, "isWithin", "(III)Z"⟩
abbrev cX11_isOwner : ByteArray := prog_1_method_34_code
def yX11_isOwner : MethodName := ⟨RX11, "isOwner", "(I)Z"⟩
abbrev cX11_isShip : ByteArray := prog_1_method_35_code
def yX11_isShip : MethodName := ⟨RX11, "isShip", "(I)Z"⟩
abbrev cX11_isSet : ByteArray := prog_1_method_36_code
def yX11_isSet : MethodName := ⟨RX11, "isSet", "(I)Z"⟩
abbrev cX11_isOver : ByteArray := prog_1_method_37_code
def yX11_isOver : MethodName := ⟨RX11, "isOver", "(I)Z"⟩
abbrev cX11_windOf : ByteArray := prog_1_method_38_code
def yX11_windOf : MethodName := ⟨RX11, "windOf", "(I)I"⟩
abbrev cX11_lowOf : ByteArray := prog_1_method_39_code
def yX11_lowOf : MethodName := ⟨RX11, "lowOf", "(II)I"⟩
abbrev cX11_highOf : ByteArray := prog_1_method_40_code
def yX11_highOf : MethodName := ⟨RX11, "highOf", "(II)I"⟩
abbrev cX11_provedOn : ByteArray := prog_1_method_41_code
def yX11_provedOn : MethodName := ⟨RX11, "provedOn", "(III)I"⟩
abbrev cX11_runTrial : ByteArray := prog_1_method_42_code
def yX11_runTrial : MethodName := ⟨RX11, "runTrial", "(III)V"⟩
abbrev cX11_gainsWith : ByteArray := prog_1_method_43_code
def yX11_gainsWith : MethodName := ⟨RX11, "gainsWith", "(I)I"⟩
abbrev cX11_leastTempted : ByteArray := prog_1_method_44_code
def yX11_leastTempted : MethodName := ⟨RX11, "leastTempted", "(II)I"⟩
def RX12 : String := "CoalVendModel"
def TX12 : u_T := fun k => match k with
  | 0 => ("CoalVendModel", "thrown", "I", false)
  | 1 => ("CoalVendModel", "now", "[I", true)
  | 2 => ("CoalVendModel", "keels", "[I", true)
  | 3 => ("CoalVendModel", "turn", "[I", true)
  | 4 => ("CoalVendModel", "city", "[I", true)
  | 5 => ("CoalVendModel", "want", "[I", true)
  | 6 => ("CoalVendModel", "base", "[I", true)
  | 7 => ("CoalVendModel", "held", "[I", true)
  | 8 => ("CoalVendModel", "issue", "[I", true)
  | 9 => ("CoalVendModel", "inHand", "[I", true)
  | 10 => ("CoalVendModel", "lawHand", "[I", true)
  | 11 => ("CoalVendModel", "voids", "[I", true)
  | 12 => ("CoalVendModel", "duty", "[I", true)
  | 13 => ("CoalVendModel", "sold", "[I", true)
  | 14 => ("CoalVendModel", "hungers", "[I", true)
  | 15 => ("CoalVendModel", "stock", "[I", true)
  | 16 => ("CoalVendModel", "vended", "[I", true)
  | 17 => ("CoalVendModel", "allotted", "[I", true)
  | 18 => ("CoalVendModel", "gain", "[I", true)
  | 19 => ("CoalVendModel", "breaks", "[Z", true)
  | 20 => ("CoalVendModel", "at", "[I", true)
  | 21 => ("CoalVendModel", "loads", "[I", true)
  | 22 => ("CoalVendModel", "left", "[I", true)
  | 23 => ("CoalVendModel", "came", "[I", true)
  | 24 => ("CoalVendModel", "load", "[I", true)
  | 25 => ("CoalVendModel", "oldVended", "[I", true)
  | 26 => ("CoalVendModel", "oldAllotted", "[I", true)
  | 27 => ("CoalVendModel", "hungry", "[Z", true)
  | 28 => ("CoalVendModel", "owners", "I", false)
  | 29 => ("CoalVendModel", "quality", "[I", true)
  | 30 => ("CoalVendModel", "might", "[I", true)
  | 31 => ("CoalVendModel", "digs", "[I", true)
  | 32 => ("CoalVendModel", "cost", "[I", true)
  | 33 => ("CoalVendModel", "rebate", "[I", true)
  | 34 => ("CoalVendModel", "ships", "I", false)
  | 35 => ("CoalVendModel", "room", "[I", true)
  | 36 => ("CoalVendModel", "least", "[I", true)
  | 37 => ("CoalVendModel", "winds", "I", false)
  | 38 => ("CoalVendModel", "wind", "[I", true)
  | 39 => ("CoalVendModel", "pactOf", "[I", true)
  | 40 => ("CoalVendModel", "handVoids", "I", false)
  | 41 => ("CoalVendModel", "handDuty", "I", false)
  | 42 => ("CoalVendModel", "taped", "I", false)
  | 43 => ("CoalVendModel", "tape", "[I", true)
  | 44 => ("CoalVendModel", "size", "I", false)
  | 45 => ("CoalVendModel", "place", "I", false)
  | 46 => ("CoalVendModel", "begin", "I", false)
  | 47 => ("CoalVendModel", "token", "I", false)
  | 48 => ("CoalVendModel", "word", "J", false)
  | 49 => ("CoalVendModel", "number", "I", false)
  | 50 => ("CoalVendModel", "wrong", "I", false)
  | 51 => ("CoalVendModel", "lineAt", "[I", true)
  | 52 => ("CoalVendModel", "lineEnd", "[I", true)
  | 53 => ("CoalVendModel", "falls", "[I", true)
  | 54 => ("CoalVendModel", "rests", "[I", true)
  | 55 => ("CoalVendModel", "bar", "[I", true)
  | 56 => ("CoalVendModel", "codes", "[I", true)
  | 57 => ("CoalVendModel", "code", "I", false)
  | 58 => ("CoalVendModel", "opened", "[I", true)
  | 59 => ("CoalVendModel", "compared", "[Z", true)
  | 60 => ("CoalVendModel", "kept", "[I", true)
  | 61 => ("CoalVendModel", "keptBy", "[I", true)
  | 62 => ("CoalVendModel", "first", "[I", true)
  | 63 => ("CoalVendModel", "holds", "[I", true)
  | 64 => ("CoalVendModel", "sum", "[I", true)
  | 65 => ("CoalVendModel", "sumBy", "[I", true)
  | 66 => ("CoalVendModel", "term", "[I", true)
  | 67 => ("CoalVendModel", "termBy", "[I", true)
  | 68 => ("CoalVendModel", "askOwner", "I", false)
  | 69 => ("CoalVendModel", "askOver", "I", false)
  | 70 => ("CoalVendModel", "byNot", "[I", true)
  | 71 => ("CoalVendModel", "weight", "[I", true)
  | 72 => ("CoalVendModel", "restOf", "[I", true)
  | 73 => ("CoalVendModel", "reports", "I", false)
  | 74 => ("CoalVendModel", "rOwner", "[I", true)
  | 75 => ("CoalVendModel", "rMonth", "[I", true)
  | 76 => ("CoalVendModel", "rLow", "[I", true)
  | 77 => ("CoalVendModel", "rHigh", "[I", true)
  | 78 => ("CoalVendModel", "rDay", "[I", true)
  | 79 => ("CoalVendModel", "fined", "[Z", true)
  | 80 => ("CoalVendModel", "sales", "I", false)
  | 81 => ("CoalVendModel", "sSet", "[I", true)
  | 82 => ("CoalVendModel", "sDue", "[I", true)
  | _ => ("CoalVendModel", "sPaid", "[I", true)
def tyX12 : Nat → FieldType := fun k => match k with
  | 0 => .int
  | 1 => .array .int
  | 2 => .array .int
  | 3 => .array .int
  | 4 => .array .int
  | 5 => .array .int
  | 6 => .array .int
  | 7 => .array .int
  | 8 => .array .int
  | 9 => .array .int
  | 10 => .array .int
  | 11 => .array .int
  | 12 => .array .int
  | 13 => .array .int
  | 14 => .array .int
  | 15 => .array .int
  | 16 => .array .int
  | 17 => .array .int
  | 18 => .array .int
  | 19 => .array .boolean
  | 20 => .array .int
  | 21 => .array .int
  | 22 => .array .int
  | 23 => .array .int
  | 24 => .array .int
  | 25 => .array .int
  | 26 => .array .int
  | 27 => .array .boolean
  | 28 => .int
  | 29 => .array .int
  | 30 => .array .int
  | 31 => .array .int
  | 32 => .array .int
  | 33 => .array .int
  | 34 => .int
  | 35 => .array .int
  | 36 => .array .int
  | 37 => .int
  | 38 => .array .int
  | 39 => .array .int
  | 40 => .int
  | 41 => .int
  | 42 => .int
  | 43 => .array .int
  | 44 => .int
  | 45 => .int
  | 46 => .int
  | 47 => .int
  | 48 => .long
  | 49 => .int
  | 50 => .int
  | 51 => .array .int
  | 52 => .array .int
  | 53 => .array .int
  | 54 => .array .int
  | 55 => .array .int
  | 56 => .array .int
  | 57 => .int
  | 58 => .array .int
  | 59 => .array .boolean
  | 60 => .array .int
  | 61 => .array .int
  | 62 => .array .int
  | 63 => .array .int
  | 64 => .array .int
  | 65 => .array .int
  | 66 => .array .int
  | 67 => .array .int
  | 68 => .int
  | 69 => .int
  | 70 => .array .int
  | 71 => .array .int
  | 72 => .array .int
  | 73 => .int
  | 74 => .array .int
  | 75 => .array .int
  | 76 => .array .int
  | 77 => .array .int
  | 78 => .array .int
  | 79 => .array .boolean
  | 80 => .int
  | 81 => .array .int
  | 82 => .array .int
  | _ => .array .int
theorem nmX12 : ∀ a, a < 84 → ∀ b, b < 84 → a ≠ b → (TX12 a).2.1 ≠ (TX12 b).2.1 := by decide +kernel
theorem tyX12_ok : ∀ k, k < 84 → parseFieldDescriptor (TX12 k).2.2.1 = some (tyX12 k) := by decide +kernel
abbrev cX12_init : ByteArray := prog_14_method_1_code
def yX12_init : MethodName := ⟨RX12, "<init>", "()V"⟩
abbrev cX12_thrown : ByteArray := prog_14_method_2_code
def yX12_thrown : MethodName := ⟨RX12, "thrown", "()I"⟩
abbrev cX12_within : ByteArray := prog_14_method_3_code
def yX12_within : MethodName := ⟨RX12, "within", "(III)Z"⟩
abbrev cX12_isOwner : ByteArray := prog_14_method_4_code
def yX12_isOwner : MethodName := ⟨RX12, "isOwner", "(I)Z"⟩
abbrev cX12_owner : ByteArray := prog_14_method_5_code
def yX12_owner : MethodName := ⟨RX12, "owner", "(IIII)I"⟩
abbrev cX12_digs : ByteArray := prog_14_method_6_code
def yX12_digs : MethodName := ⟨RX12, "digs", "(II)Z"⟩
abbrev cX12_rebate : ByteArray := prog_14_method_7_code
def yX12_rebate : MethodName := ⟨RX12, "rebate", "(II)Z"⟩
abbrev cX12_breaker : ByteArray := prog_14_method_8_code
def yX12_breaker : MethodName := ⟨RX12, "breaker", "(IZ)Z"⟩
abbrev cX12_ship : ByteArray := prog_14_method_9_code
def yX12_ship : MethodName := ⟨RX12, "ship", "(II)I"⟩
abbrev cX12_keels : ByteArray := prog_14_method_10_code
def yX12_keels : MethodName := ⟨RX12, "keels", "(I)Z"⟩
abbrev cX12_winds : ByteArray := prog_14_method_11_code
def yX12_winds : MethodName := ⟨RX12, "winds", "(II)I"⟩
abbrev cX12_city : ByteArray := prog_14_method_12_code
def yX12_city : MethodName := ⟨RX12, "city", "(III)Z"⟩
abbrev cX12_priceAt : ByteArray := prog_14_method_13_code
def yX12_priceAt : MethodName := ⟨RX12, "priceAt", "(II)I"⟩
abbrev cX12_price : ByteArray := prog_14_method_14_code
def yX12_price : MethodName := ⟨RX12, "price", "(I)I"⟩
abbrev cX12_feed : ByteArray := prog_14_method_15_code
def yX12_feed : MethodName := ⟨RX12, "feed", "(JJJ)I"⟩
abbrev cX12_signAt : ByteArray := prog_14_method_16_code
def yX12_signAt : MethodName := ⟨RX12, "signAt", "(I)I"⟩
abbrev cX12_next : ByteArray := prog_14_method_17_code
def yX12_next : MethodName := ⟨RX12, "next", "()V"⟩
abbrev cX12_isWord : ByteArray := prog_14_method_18_code
def yX12_isWord : MethodName := ⟨RX12, "isWord", "(J)Z"⟩
abbrev cX12_isSign : ByteArray := prog_14_method_19_code
def yX12_isSign : MethodName := ⟨RX12, "isSign", "(I)Z"⟩
abbrev cX12_fails : ByteArray := prog_14_method_20_code
def yX12_fails : MethodName := ⟨RX12, "fails", "(I)Z"⟩
abbrev cX12_ends : ByteArray := prog_14_method_21_code
def yX12_ends : MethodName := ⟨RX12, "ends", "()Z"⟩
abbrev cX12_puts : ByteArray := prog_14_method_22_code
def yX12_puts : MethodName := ⟨RX12, "puts", "(I)V"⟩
abbrev cX12_factAtHand : ByteArray := prog_14_method_23_code
def yX12_factAtHand : MethodName := ⟨RX12, "factAtHand", "()I"⟩
abbrev cX12_reads : ByteArray := prog_14_method_24_code
def yX12_reads : MethodName := ⟨RX12, "reads", "(I)Z"⟩
abbrev cX12_readsLine : ByteArray := prog_14_method_25_code
def yX12_readsLine : MethodName := ⟨RX12, "readsLine", "()Z"⟩
abbrev cX12_copies : ByteArray := prog_14_method_26_code
def yX12_copies : MethodName := ⟨RX12, "copies", "(II)V"⟩
abbrev cX12_pact : ByteArray := prog_14_method_27_code
def yX12_pact : MethodName := ⟨RX12, "pact", "()I"⟩
abbrev cX12_law : ByteArray := prog_14_method_28_code
def yX12_law : MethodName := ⟨RX12, "law", "()I"⟩
abbrev cX12_opens : ByteArray := prog_14_method_29_code
def yX12_opens : MethodName := ⟨RX12, "opens", "(I)V"⟩
abbrev cX12_sums : ByteArray := prog_14_method_30_code
def yX12_sums : MethodName := ⟨RX12, "sums", "(I)V"⟩
abbrev cX12_tests : ByteArray := prog_14_method_31_code
def yX12_tests : MethodName := ⟨RX12, "tests", "(I)V"⟩
abbrev cX12_fact : ByteArray := prog_14_method_32_code
def yX12_fact : MethodName := ⟨RX12, "fact", "(II)I"⟩
abbrev cX12_worth : ByteArray := prog_14_method_33_code
def yX12_worth : MethodName := ⟨RX12, "worth", "(III)I"⟩
abbrev cX12_worthWithin : ByteArray := prog_14_method_34_code
def yX12_worthWithin : MethodName := ⟨RX12, "worthWithin", "(III)I"⟩
abbrev cX12_isTold : ByteArray := prog_14_method_35_code
def yX12_isTold : MethodName := ⟨RX12, "isTold", "(III)Z"⟩
abbrev cX12_begins : ByteArray := prog_14_method_36_code
def yX12_begins : MethodName := ⟨RX12, "begins", "(II)V"⟩
abbrev cX12_better : ByteArray := prog_14_method_37_code
def yX12_better : MethodName := ⟨RX12, "better", "(III)Z"⟩
abbrev cX12_isStopped : ByteArray := prog_14_method_38_code
def yX12_isStopped : MethodName := ⟨RX12, "isStopped", "(II)Z"⟩
abbrev cX12_ownerFor : ByteArray := prog_14_method_39_code
def yX12_ownerFor : MethodName := ⟨RX12, "ownerFor", "(II)I"⟩
abbrev cX12_hasRoom : ByteArray := prog_14_method_40_code
def yX12_hasRoom : MethodName := ⟨RX12, "hasRoom", "(II)Z"⟩
abbrev cX12_loads : ByteArray := prog_14_method_41_code
def yX12_loads : MethodName := ⟨RX12, "loads", "(I)Z"⟩
abbrev cX12_sells : ByteArray := prog_14_method_42_code
def yX12_sells : MethodName := ⟨RX12, "sells", "(II)V"⟩
abbrev cX12_sails : ByteArray := prog_14_method_43_code
def yX12_sails : MethodName := ⟨RX12, "sails", "(IIII)V"⟩
abbrev cX12_day : ByteArray := prog_14_method_44_code
def yX12_day : MethodName := ⟨RX12, "day", "(IZI)V"⟩
abbrev cX12_days : ByteArray := prog_14_method_45_code
def yX12_days : MethodName := ⟨RX12, "days", "(I)I"⟩
abbrev cX12_isOver : ByteArray := prog_14_method_46_code
def yX12_isOver : MethodName := ⟨RX12, "isOver", "(II)Z"⟩
abbrev cX12_report : ByteArray := prog_14_method_47_code
def yX12_report : MethodName := ⟨RX12, "report", "(IIII)I"⟩
abbrev cX12_knownLow : ByteArray := prog_14_method_48_code
def yX12_knownLow : MethodName := ⟨RX12, "knownLow", "(III)I"⟩
abbrev cX12_knownHigh : ByteArray := prog_14_method_49_code
def yX12_knownHigh : MethodName := ⟨RX12, "knownHigh", "(III)I"⟩
abbrev cX12_known : ByteArray := prog_14_method_50_code
def yX12_known : MethodName := ⟨RX12, "known", "(IIII)I"⟩
abbrev cX12_provedOn : ByteArray := prog_14_method_51_code
def yX12_provedOn : MethodName := ⟨RX12, "provedOn", "(III)I"⟩
abbrev cX12_proved : ByteArray := prog_14_method_52_code
def yX12_proved : MethodName := ⟨RX12, "proved", "(III)I"⟩
abbrev cX12_fine : ByteArray := prog_14_method_53_code
def yX12_fine : MethodName := ⟨RX12, "fine", "(II)I"⟩
abbrev cX12_sale : ByteArray := prog_14_method_54_code
def yX12_sale : MethodName := ⟨RX12, "sale", "(III)I"⟩
abbrev cX12_isBad : ByteArray := prog_14_method_55_code
def yX12_isBad : MethodName := ⟨RX12, "isBad", "(I)Z"⟩
abbrev cX12_bads : ByteArray := prog_14_method_56_code
def yX12_bads : MethodName := ⟨RX12, "bads", "()I"⟩
abbrev cX12_named : ByteArray := prog_14_method_57_code
def yX12_named : MethodName := ⟨RX12, "named", "(I)I"⟩
abbrev cX12_tries : ByteArray := prog_14_method_58_code
def yX12_tries : MethodName := ⟨RX12, "tries", "(IIZI)V"⟩
abbrev cX12_breakers : ByteArray := prog_14_method_59_code
def yX12_breakers : MethodName := ⟨RX12, "breakers", "()I"⟩
abbrev cX12_isSet : ByteArray := prog_14_method_60_code
def yX12_isSet : MethodName := ⟨RX12, "isSet", "(I)Z"⟩
abbrev cX12_whatIf : ByteArray := prog_14_method_61_code
def yX12_whatIf : MethodName := ⟨RX12, "whatIf", "(III)I"⟩
abbrev cX12_isTempted : ByteArray := prog_14_method_62_code
def yX12_isTempted : MethodName := ⟨RX12, "isTempted", "(III)Z"⟩
abbrev cX12_tempted : ByteArray := prog_14_method_63_code
def yX12_tempted : MethodName := ⟨RX12, "tempted", "(III)I"⟩
abbrev cX12_slide : ByteArray := prog_14_method_64_code
def yX12_slide : MethodName := ⟨RX12, "slide", "(II)I"⟩
abbrev cX12_triedWith : ByteArray := prog_14_method_65_code
def yX12_triedWith : MethodName := ⟨RX12, "triedWith", "(I)I"⟩
abbrev cX12_tried : ByteArray := prog_14_method_66_code
def yX12_tried : MethodName := ⟨RX12, "tried", "(I)I"⟩
abbrev cX12_best : ByteArray := prog_14_method_67_code
def yX12_best : MethodName := ⟨RX12, "best", "(I)I"⟩
abbrev cX12_foretold : ByteArray := prog_14_method_68_code
def yX12_foretold : MethodName := ⟨RX12, "foretold", "(Z)I"⟩
abbrev cX12_look : ByteArray := prog_14_method_69_code
def yX12_look : MethodName := ⟨RX12, "look", "(II)I"⟩
abbrev cX12_month : ByteArray := prog_14_method_70_code
def yX12_month : MethodName := ⟨RX12, "month", "(III)I"⟩
abbrev cX12_lies : ByteArray := prog_14_method_71_code
def yX12_lies : MethodName := ⟨RX12, "lies", "(II)I"⟩
abbrev cX12_load : ByteArray := prog_14_method_72_code
def yX12_load : MethodName := ⟨RX12, "load", "(II)I"⟩
abbrev cX12_count : ByteArray := prog_14_method_73_code
def yX12_count : MethodName := ⟨RX12, "count", "(I)I"⟩
def RJ11 : String := "java/lang/Character"
def TJ11 : u_T := fun k => match k with
  | _ => ("", "", "", false)
def tyJ11 : Nat → FieldType := fun k => match k with
  | _ => .int
theorem nmJ11 : ∀ a, a < 0 → ∀ b, b < 0 → a ≠ b → (TJ11 a).2.1 ≠ (TJ11 b).2.1 := by decide +kernel
theorem tyJ11_ok : ∀ k, k < 0 → parseFieldDescriptor (TJ11 k).2.2.1 = some (tyJ11 k) := by decide +kernel
abbrev cJ11_isValidCodePoint_9a6ad : ByteArray := prog_17_method_11_code
def yJ11_isValidCodePoint_9a6ad : MethodName := ⟨RJ11, "isValidCodePoint", "(I)Z"⟩
abbrev cJ11_highSurrogate_5068e : ByteArray := prog_17_method_28_code
def yJ11_highSurrogate_5068e : MethodName := ⟨RJ11, "highSurrogate", "(I)C"⟩
abbrev cJ11_lowSurrogate_5068e : ByteArray := prog_17_method_29_code
def yJ11_lowSurrogate_5068e : MethodName := ⟨RJ11, "lowSurrogate", "(I)C"⟩
def RJ6 : String := "java/lang/Integer"
def TJ6 : u_T := fun k => match k with
  | _ => ("", "", "", false)
def tyJ6 : Nat → FieldType := fun k => match k with
  | _ => .int
theorem nmJ6 : ∀ a, a < 0 → ∀ b, b < 0 → a ≠ b → (TJ6 a).2.1 ≠ (TJ6 b).2.1 := by decide +kernel
theorem tyJ6_ok : ∀ k, k < 0 → parseFieldDescriptor (TJ6 k).2.2.1 = some (tyJ6 k) := by decide +kernel
abbrev cJ6_bitCount_0f7a4 : ByteArray := prog_21_method_49_code
def yJ6_bitCount_0f7a4 : MethodName := ⟨RJ6, "bitCount", "(I)I"⟩
def RJ9 : String := "java/lang/Math"
def TJ9 : u_T := fun k => match k with
  | _ => ("", "", "", false)
def tyJ9 : Nat → FieldType := fun k => match k with
  | _ => .int
theorem nmJ9 : ∀ a, a < 0 → ∀ b, b < 0 → a ≠ b → (TJ9 a).2.1 ≠ (TJ9 b).2.1 := by decide +kernel
theorem tyJ9_ok : ∀ k, k < 0 → parseFieldDescriptor (TJ9 k).2.2.1 = some (tyJ9 k) := by decide +kernel
abbrev cJ9_max_7cf53 : ByteArray := prog_22_method_65_code
def yJ9_max_7cf53 : MethodName := ⟨RJ9, "max", "(II)I"⟩
abbrev cJ9_min_7cf53 : ByteArray := prog_22_method_69_code
def yJ9_min_7cf53 : MethodName := ⟨RJ9, "min", "(II)I"⟩
def RJ0 : String := "java/lang/String"
def TJ0 : u_T := fun k => match k with
  | _ => ("", "", "", false)
def tyJ0 : Nat → FieldType := fun k => match k with
  | _ => .int
theorem nmJ0 : ∀ a, a < 0 → ∀ b, b < 0 → a ≠ b → (TJ0 a).2.1 ≠ (TJ0 b).2.1 := by decide +kernel
theorem tyJ0_ok : ∀ k, k < 0 → parseFieldDescriptor (TJ0 k).2.2.1 = some (tyJ0 k) := by decide +kernel
abbrev cJ0_length_8abf5 : ByteArray := prog_24_method_54_code
def yJ0_length_8abf5 : MethodName := ⟨RJ0, "length", "()I"⟩
abbrev cJ0_charAt_5068e : ByteArray := prog_24_method_56_code
def yJ0_charAt_5068e : MethodName := ⟨RJ0, "charAt", "(I)C"⟩
abbrev cJ0_indexOf_0f7a4 : ByteArray := prog_24_method_79_code
def yJ0_indexOf_0f7a4 : MethodName := ⟨RJ0, "indexOf", "(I)I"⟩
abbrev cJ0_indexOf_7cf53 : ByteArray := prog_24_method_80_code
def yJ0_indexOf_7cf53 : MethodName := ⟨RJ0, "indexOf", "(II)I"⟩
abbrev cJ0_coder_7d493 : ByteArray := prog_24_method_152_code
def yJ0_coder_7d493 : MethodName := ⟨RJ0, "coder", "()B"⟩
abbrev cJ0_isLatin1_aae02 : ByteArray := prog_24_method_154_code
def yJ0_isLatin1_aae02 : MethodName := ⟨RJ0, "isLatin1", "()Z"⟩
abbrev cJ0_checkIndex_df160 : ByteArray := prog_24_method_155_code
def yJ0_checkIndex_df160 : MethodName := ⟨RJ0, "checkIndex", "(II)V"⟩
abbrev cJ0_checkBoundsBeginEnd_23922 : ByteArray := prog_24_method_158_code
def yJ0_checkBoundsBeginEnd_23922 : MethodName := ⟨RJ0, "checkBoundsBeginEnd", "(III)V"⟩
def RJ1 : String := "java/lang/StringLatin1"
def TJ1 : u_T := fun k => match k with
  | _ => ("", "", "", false)
def tyJ1 : Nat → FieldType := fun k => match k with
  | _ => .int
theorem nmJ1 : ∀ a, a < 0 → ∀ b, b < 0 → a ≠ b → (TJ1 a).2.1 ≠ (TJ1 b).2.1 := by decide +kernel
theorem tyJ1_ok : ∀ k, k < 0 → parseFieldDescriptor (TJ1 k).2.2.1 = some (tyJ1 k) := by decide +kernel
abbrev cJ1_charAt_3b067 : ByteArray := prog_25_method_2_code
def yJ1_charAt_3b067 : MethodName := ⟨RJ1, "charAt", "([BI)C"⟩
abbrev cJ1_canEncode_9a6ad : ByteArray := prog_25_method_4_code
def yJ1_canEncode_9a6ad : MethodName := ⟨RJ1, "canEncode", "(I)Z"⟩
abbrev cJ1_indexOf_4cfef : ByteArray := prog_25_method_22_code
def yJ1_indexOf_4cfef : MethodName := ⟨RJ1, "indexOf", "([BIII)I"⟩
abbrev cJ1_indexOfChar_4cfef : ByteArray := prog_25_method_23_code
def yJ1_indexOfChar_4cfef : MethodName := ⟨RJ1, "indexOfChar", "([BIII)I"⟩
def RJ2 : String := "java/lang/StringUTF16"
def TJ2 : u_T := fun k => match k with
  | _ => ("", "", "", false)
def tyJ2 : Nat → FieldType := fun k => match k with
  | _ => .int
theorem nmJ2 : ∀ a, a < 0 → ∀ b, b < 0 → a ≠ b → (TJ2 a).2.1 ≠ (TJ2 b).2.1 := by decide +kernel
theorem tyJ2_ok : ∀ k, k < 0 → parseFieldDescriptor (TJ2 k).2.2.1 = some (tyJ2 k) := by decide +kernel
abbrev cJ2_getChar_3b067 : ByteArray := prog_26_method_5_code
def yJ2_getChar_3b067 : MethodName := ⟨RJ2, "getChar", "([BI)C"⟩
abbrev cJ2_length_9d52b : ByteArray := prog_26_method_6_code
def yJ2_length_9d52b : MethodName := ⟨RJ2, "length", "([B)I"⟩
abbrev cJ2_indexOf_4cfef : ByteArray := prog_26_method_40_code
def yJ2_indexOf_4cfef : MethodName := ⟨RJ2, "indexOf", "([BIII)I"⟩
abbrev cJ2_indexOfChar_4cfef : ByteArray := prog_26_method_47_code
def yJ2_indexOfChar_4cfef : MethodName := ⟨RJ2, "indexOfChar", "([BIII)I"⟩
abbrev cJ2_indexOfCharUnsafe_4cfef : ByteArray := prog_26_method_48_code
def yJ2_indexOfCharUnsafe_4cfef : MethodName := ⟨RJ2, "indexOfCharUnsafe", "([BIII)I"⟩
abbrev cJ2_indexOfSupplementary_4cfef : ByteArray := prog_26_method_49_code
def yJ2_indexOfSupplementary_4cfef : MethodName := ⟨RJ2, "indexOfSupplementary", "([BIII)I"⟩
abbrev cJ2_charAt_3b067 : ByteArray := prog_26_method_83_code
def yJ2_charAt_3b067 : MethodName := ⟨RJ2, "charAt", "([BI)C"⟩
abbrev cJ2_checkIndex_2214a : ByteArray := prog_26_method_91_code
def yJ2_checkIndex_2214a : MethodName := ⟨RJ2, "checkIndex", "(I[B)V"⟩
abbrev cJ2_checkBoundsBeginEnd_d044e : ByteArray := prog_26_method_93_code
def yJ2_checkBoundsBeginEnd_d044e : MethodName := ⟨RJ2, "checkBoundsBeginEnd", "(II[B)V"⟩
def RJ10 : String := "java/lang/System"
def TJ10 : u_T := fun k => match k with
  | _ => ("", "", "", false)
def tyJ10 : Nat → FieldType := fun k => match k with
  | _ => .int
theorem nmJ10 : ∀ a, a < 0 → ∀ b, b < 0 → a ≠ b → (TJ10 a).2.1 ≠ (TJ10 b).2.1 := by decide +kernel
theorem tyJ10_ok : ∀ k, k < 0 → parseFieldDescriptor (TJ10 k).2.2.1 = some (tyJ10 k) := by decide +kernel
def RJ7 : String := "java/util/Arrays"
def TJ7 : u_T := fun k => match k with
  | _ => ("", "", "", false)
def tyJ7 : Nat → FieldType := fun k => match k with
  | _ => .int
theorem nmJ7 : ∀ a, a < 0 → ∀ b, b < 0 → a ≠ b → (TJ7 a).2.1 ≠ (TJ7 b).2.1 := by decide +kernel
theorem tyJ7_ok : ∀ k, k < 0 → parseFieldDescriptor (TJ7 k).2.2.1 = some (tyJ7 k) := by decide +kernel
abbrev cJ7_fill_53178 : ByteArray := prog_31_method_103_code
def yJ7_fill_53178 : MethodName := ⟨RJ7, "fill", "([II)V"⟩
abbrev cJ7_copyOf_59c91 : ByteArray := prog_31_method_123_code
def yJ7_copyOf_59c91 : MethodName := ⟨RJ7, "copyOf", "([II)[I"⟩
def RJ3 : String := "jdk/internal/util/Preconditions"
def TJ3 : u_T := fun k => match k with
  | _ => ("", "", "", false)
def tyJ3 : Nat → FieldType := fun k => match k with
  | _ => .int
theorem nmJ3 : ∀ a, a < 0 → ∀ b, b < 0 → a ≠ b → (TJ3 a).2.1 ≠ (TJ3 b).2.1 := by decide +kernel
theorem tyJ3_ok : ∀ k, k < 0 → parseFieldDescriptor (TJ3 k).2.2.1 = some (tyJ3 k) := by decide +kernel
abbrev cJ3_checkIndex_8e157 : ByteArray := prog_33_method_11_code
def yJ3_checkIndex_8e157 : MethodName := ⟨RJ3, "checkIndex", "(IILjava/util/function/BiFunction;)I"⟩
abbrev cJ3_checkFromToIndex_8c36e : ByteArray := prog_33_method_12_code
def yJ3_checkFromToIndex_8c36e : MethodName := ⟨RJ3, "checkFromToIndex", "(IIILjava/util/function/BiFunction;)I"⟩
def RL : String := "CoalVendLaw"
abbrev cL_whatIf : ByteArray := method_3_code
def yL_whatIf : MethodName := ⟨RL, "whatIf", "(LCoalVend;III[J)I"⟩
abbrev cL_tried : ByteArray := method_4_code
def yL_tried : MethodName := ⟨RL, "tried", "(LCoalVend;I[J)I"⟩
abbrev cL_look : ByteArray := method_5_code
def yL_look : MethodName := ⟨RL, "look", "(LCoalVend;II[J)I"⟩
abbrev cL_law : ByteArray := code
def yL_law : MethodName := ⟨RL, "law", "([I)Z"⟩
abbrev vwCl : List vw_C := [(RX0, TX0, 5), (RX1, TX1, 2), (RX2, TX2, 4), (RX3, TX3, 14), (RX4, TX4, 7), (RX5, TX5, 14), (RX6, TX6, 2), (RX7, TX7, 7), (RX8, TX8, 5), (RX9, TX9, 7), (RX10, TX10, 17), (RX11, TX11, 9), (RX12, TX12, 84)]
